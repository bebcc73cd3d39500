/-! the bits of a double, by halving and doubling -/
theorem cmp_nm {E F T : Nat} (h1 : 1 ≤ E) (h2 : E ≤ 2046) (h3 : 1 ≤ F) (h4 : F ≤ 2046) (hT : T < 4503599627370496) : FP.dcmp (nm E T) (nm F 0) = some (compare (((4503599627370496 + T) * 2 ^ (E - min E F) : Nat) : Int) ((4503599627370496 * 2 ^ (F - min E F) : Nat) : Int)) := by
  unfold FP.dcmp FP.Core.dcmp FP.Core.cmp
  rw [fp_nm h1 h2 hT, fp_nm h3 h4 (by omega)]
  unfold FP.Core.order FP.Core.signed FP.Core.inUnits
  dsimp only
  rw [show min ((E : Int) - 1075) ((F : Int) - 1075) = ((min E F : Nat) : Int) - 1075 by omega, show ((E : Int) - 1075 - (((min E F : Nat) : Int) - 1075)).toNat = E - min E F by omega, show ((F : Int) - 1075 - (((min E F : Nat) : Int) - 1075)).toNat = F - min E F by omega]
  simp only [Bool.false_eq_true, if_false, Nat.add_zero]
theorem cmp_lt {E F T : Nat} (h1 : 1 ≤ E) (hlt : E < F) (h4 : F ≤ 2046) (hT : T < 4503599627370496) : FP.dcmp (nm E T) (nm F 0) = some .lt := by
  rw [cmp_nm h1 (by omega) (by omega) h4 hT, show min E F = E by omega, Nat.sub_self, Nat.pow_zero, Nat.mul_one]
  obtain ⟨x, rfl⟩ : ∃ x, F = E + 1 + x := ⟨F - (E + 1), by omega⟩
  rw [show E + 1 + x - E = 1 + x by omega, Nat.pow_add]
  have b := Nat.two_pow_pos x
  rw [Int.compare_eq_lt.mpr (by omega)]
theorem cmp_ge {E F T : Nat} (hge : F ≤ E) (h2 : E ≤ 2046) (h3 : 1 ≤ F) (hT : T < 4503599627370496) : ∃ o, FP.dcmp (nm E T) (nm F 0) = some o ∧ o ≠ .lt := by
  refine ⟨_, cmp_nm (by omega) h2 h3 (by omega) hT, ?_⟩
  rw [show min E F = F by omega, Nat.sub_self, Nat.pow_zero, Nat.mul_one]
  have b := Nat.two_pow_pos (E - F)
  have q : (4503599627370496 + T) * 1 ≤ (4503599627370496 + T) * 2 ^ (E - F) := Nat.mul_le_mul_left _ b
  intro e
  rw [Int.compare_eq_lt] at e
  omega
theorem cmp_pos {E T : Nat} (h1 : 1 ≤ E) (h2 : E ≤ 2046) (hT : T < 4503599627370496) : FP.dcmp (nm E T) 0 = some .gt := by
  unfold FP.dcmp FP.Core.dcmp FP.Core.cmp
  rw [fp_nm h1 h2 hT, fp_zero]
  unfold FP.Core.order FP.Core.signed FP.Core.inUnits
  dsimp only
  have b1 : 0 < (4503599627370496 + T) * 2 ^ ((E : Int) - 1075 - min ((E : Int) - 1075) (-1074)).toNat := Nat.mul_pos (by omega) (Nat.two_pow_pos _)
  generalize (4503599627370496 + T) * 2 ^ ((E : Int) - 1075 - min ((E : Int) - 1075) (-1074)).toNat = A at b1 ⊢
  simp only [Bool.false_eq_true, if_false, Nat.zero_mul]
  rw [Int.compare_eq_gt.mpr (by omega)]
theorem cmp_self {E T : Nat} (h1 : 1 ≤ E) (h2 : E ≤ 2046) (hT : T < 4503599627370496) : FP.dcmp (nm E T) (nm E T) = some .eq := by
  unfold FP.dcmp FP.Core.dcmp FP.Core.cmp
  rw [fp_nm h1 h2 hT]
  unfold FP.Core.order
  dsimp only
  rw [Int.compare_eq_eq.mpr rfl]
theorem two_nm : (4611686018427387904 : UInt64) = nm 1024 0 := by decide
theorem one_nm : FP.dconst1 = nm 1023 0 := by decide
theorem big_nm : (4841369599423283200 : UInt64) = nm 1075 0 := by decide
theorem halve {E T : Nat} (h1 : 2 ≤ E) (h2 : E ≤ 2046) (hT : T < 4503599627370496) : FP.ddiv (nm E T) (nm 1024 0) = nm (E - 1) T := by
  unfold FP.ddiv FP.Core.ddiv FP.Core.div
  rw [fp_nm (by omega) h2 hT, fp_nm (by omega) (by omega) (by omega)]
  unfold FP.Core.quotient
  dsimp only
  rw [if_neg (by omega)]
  unfold FP.Core.roundRatio FP.Core.roundAt FP.Core.quantum FP.Core.leading
  rw [if_neg (by omega), fp_log (c := 4503599627370496 + T) (by omega) (by omega), fp_log (c := 4503599627370496 + 0) (by omega) (by omega), fp_qmin, fp_p]
  dsimp only
  rw [show (((52 : Nat) : Int) - ((52 : Nat) : Int)) = 0 by omega]
  rw [if_pos (by simp)]
  rw [show max (-1074 : Int) (0 + ((E : Int) - 1075 - (((1024 : Nat) : Int) - 1075)) - (((53 : Nat) : Int) - 1)) = ((E - 1 : Nat) : Int) - 1075 by omega]
  unfold FP.Core.unitsNum FP.Core.unitsDen
  rw [show ((E : Int) - 1075 - (((1024 : Nat) : Int) - 1075) - (((E - 1 : Nat) : Int) - 1075)).toNat = 52 by omega, show ((((E - 1 : Nat) : Int) - 1075) - ((E : Int) - 1075 - (((1024 : Nat) : Int) - 1075))).toNat = 0 by omega, fp_pow52, show (4503599627370496 + 0) * 2 ^ 0 = 4503599627370496 by decide, fp_exact (by decide), show (false != false) = false from rfl, fp_settle (E := E - 1) (by omega) (by omega) (by omega) (by omega) rfl, Nat.add_sub_cancel_left]
  rfl
theorem times {E F T : Nat} (h1 : 1 ≤ E) (h2 : E ≤ 2046) (h3 : 1 ≤ F) (h4 : F ≤ 2046) (hT : T < 4503599627370496) (h5 : 1024 ≤ E + F) (h6 : E + F ≤ 1023 + 2046) : FP.dmul (nm E T) (nm F 0) = nm (E + F - 1023) T := by
  unfold FP.dmul FP.Core.dmul FP.Core.mul
  rw [fp_nm h1 h2 hT, fp_nm h3 h4 (by omega)]
  unfold FP.Core.exactProduct FP.Core.round
  dsimp only
  have hl : ((4503599627370496 + T) * (4503599627370496 + 0)).log2 = 104 := (Nat.log2_eq_iff (by omega)).mpr ⟨by rw [show (2 : Nat) ^ 104 = 4503599627370496 * 4503599627370496 by decide]; omega, by rw [show (2 : Nat) ^ (104 + 1) = 9007199254740992 * 4503599627370496 by decide]; omega⟩
  unfold FP.Core.roundRatio FP.Core.roundAt FP.Core.quantum
  rw [if_neg (by omega), fp_lead1 (by omega), hl, fp_qmin, fp_p]
  rw [show max (-1074 : Int) (((104 : Nat) : Int) + ((E : Int) - 1075 + ((F : Int) - 1075)) - (((53 : Nat) : Int) - 1)) = ((E + F - 1023 : Nat) : Int) - 1075 by omega]
  unfold FP.Core.unitsNum FP.Core.unitsDen
  rw [show ((E : Int) - 1075 + ((F : Int) - 1075) - (((E + F - 1023 : Nat) : Int) - 1075)).toNat = 0 by omega, show ((((E + F - 1023 : Nat) : Int) - 1075) - ((E : Int) - 1075 + ((F : Int) - 1075))).toNat = 52 by omega, fp_pow52, show (4503599627370496 + T) * (4503599627370496 + 0) * 2 ^ 0 = (4503599627370496 + T) * (1 * 4503599627370496) by omega, fp_exact (by decide), show (false != false) = false from rfl, fp_settle (E := E + F - 1023) (by omega) (by omega) (by omega) (by omega) rfl, Nat.add_sub_cancel_left]
  rfl
/-- the fraction of a number from one to two -/
theorem frac0 : FP.d2l (FP.dmul (FP.dsub (nm 1023 0) FP.dconst1) (4841369599423283200 : UInt64)) = 0 ∧ nnB (FP.dsub (nm 1023 0) FP.dconst1) = true ∧ nnB (FP.dmul (FP.dsub (nm 1023 0) FP.dconst1) (4841369599423283200 : UInt64)) = true := by decide +kernel
theorem minus1 {T : Nat} (h0 : T ≠ 0) (hT : T < 4503599627370496) : ∃ k, k ≤ 51 ∧ T * 2 ^ (52 - k) - 4503599627370496 < 4503599627370496 ∧ 4503599627370496 ≤ T * 2 ^ (52 - k) ∧ FP.dsub (nm 1023 T) FP.dconst1 = nm (971 + k) (T * 2 ^ (52 - k) - 4503599627370496) := by
  have k2 : T.log2 < 52 := (Nat.log2_lt h0).mpr hT
  have a1 := Nat.log2_self_le h0
  have a2 : T < 2 ^ (T.log2 + 1) := Nat.lt_log2_self
  have hl := fp_lead1 h0
  generalize T.log2 = k at k2 a1 a2 hl
  have b1 : 2 ^ k * 2 ^ (52 - k) = 4503599627370496 := by rw [← Nat.pow_add, show k + (52 - k) = 52 by omega]
  have b2 : 2 ^ (k + 1) * 2 ^ (52 - k) = 9007199254740992 := by rw [← Nat.pow_add, show k + 1 + (52 - k) = 53 by omega]
  have c1 : 2 ^ k * 2 ^ (52 - k) ≤ T * 2 ^ (52 - k) := Nat.mul_le_mul_right _ a1
  have c2 : T * 2 ^ (52 - k) < 2 ^ (k + 1) * 2 ^ (52 - k) := Nat.mul_lt_mul_of_pos_right a2 (Nat.two_pow_pos _)
  refine ⟨k, by omega, by omega, by omega, ?_⟩
  rw [one_nm]
  unfold FP.dsub FP.Core.dsub FP.Core.sub
  rw [fp_nm (by omega) (by omega) hT, fp_nm (by omega) (by omega) (by omega)]
  unfold FP.Core.negate FP.Core.exactSum FP.Core.sumUnits FP.Core.signed FP.Core.inUnits FP.Core.round
  dsimp only
  rw [show min (((1023 : Nat) : Int) - 1075) (((1023 : Nat) : Int) - 1075) = -52 by omega, show (((1023 : Nat) : Int) - 1075 - -52).toNat = 0 by omega]
  simp only [Bool.false_eq_true, if_false, Bool.not_false, if_true, Nat.pow_zero, Nat.mul_one, Nat.add_zero]
  unfold FP.Core.sumSign
  rw [if_neg (by omega), show decide (((4503599627370496 + T : Nat) : Int) + -((4503599627370496 : Nat) : Int) < 0) = false from decide_eq_false (by omega), show (((4503599627370496 + T : Nat) : Int) + -((4503599627370496 : Nat) : Int)).natAbs = T by omega]
  unfold FP.Core.roundRatio FP.Core.roundAt FP.Core.quantum
  rw [if_neg h0, hl, fp_qmin, fp_p]
  rw [show max (-1074 : Int) ((k : Int) + -52 - (((53 : Nat) : Int) - 1)) = ((971 + k : Nat) : Int) - 1075 by omega]
  unfold FP.Core.unitsNum FP.Core.unitsDen
  rw [show (-52 - (((971 + k : Nat) : Int) - 1075)).toNat = 52 - k by omega, show ((((971 + k : Nat) : Int) - 1075) - -52).toNat = 0 by omega]
  have hx : FP.Core.nearest (T * 2 ^ (52 - k)) (1 * 2 ^ 0) = T * 2 ^ (52 - k) := by
    have := fp_exact (c := T * 2 ^ (52 - k)) (D := 1) (by decide)
    rwa [Nat.mul_one] at this
  rw [hx, fp_settle (E := 971 + k) (by omega) (by omega) (by omega) (by omega) rfl]
  rfl
theorem frac {T : Nat} (hT : T < 4503599627370496) : FP.d2l (FP.dmul (FP.dsub (nm 1023 T) FP.dconst1) (4841369599423283200 : UInt64)) = lN T ∧ nnB (FP.dsub (nm 1023 T) FP.dconst1) = true ∧ nnB (FP.dmul (FP.dsub (nm 1023 T) FP.dconst1) (4841369599423283200 : UInt64)) = true := by
  by_cases h0 : T = 0
  · subst h0
    exact frac0
  · obtain ⟨k, hk, c1, c2, c3⟩ := minus1 h0 hT
    rw [c3, big_nm, times (by omega) (by omega) (by omega) (by omega) c1 (by omega) (by omega)]
    refine ⟨?_, nnB_nm (by omega) c1, nnB_nm (by omega) c1⟩
    unfold FP.d2l FP.Core.d2l
    rw [fp_nm (by omega) (by omega) c1]
    unfold FP.Core.toL FP.Core.toInt FP.Core.truncate FP.Core.signed
    dsimp only
    rw [show 4503599627370496 + (T * 2 ^ (52 - k) - 4503599627370496) = T * 2 ^ (52 - k) by omega]
    rw [show (((971 + k + 1075 - 1023 : Nat) : Int) - 1075).toNat = 0 by omega, show (-(((971 + k + 1075 - 1023 : Nat) : Int) - 1075)).toNat = 52 - k by omega, Nat.pow_zero, Nat.mul_one, Nat.mul_div_cancel _ (Nat.two_pow_pos _)]
    simp only [Bool.false_eq_true, if_false]
    rw [show max (-2 ^ 63 : Int) (min (2 ^ 63 - 1) (T : Int)) = (T : Int) by omega]
    unfold lN
    exact Int64.ofInt_eq_ofNat
theorem bits_end {E T : Nat} (hE : E ≤ 2046) : (nI E).toInt64 * (4503599627370496 : Int64) + lN T = (nm E T).toInt64 := by
  have e1 : (nI E).toInt64 = lN E := by
    refine Int64.toInt_inj.mp ?_
    rw [Int32.toInt_toInt64, nI_toInt (by omega), lN_toInt (by omega)]
  rw [e1, show (4503599627370496 : Int64) = lN 4503599627370496 from rfl]
  unfold lN nm
  rw [← Int64.ofNat_mul, ← Int64.ofNat_add]
  rfl
theorem ng_a (i : Nat) (h : i < 200) : ¬ -nI i ≤ (-1022 : Int32) := by
  rw [show (-1022 : Int32) = -nI 1022 by decide, sb_nle (by omega) (by omega)]
  omega
theorem ng_b (i : Nat) (h : i < 200) : -nI i + (1023 : Int32) = nI (1023 - i) := by
  rw [← pk_sub (show i ≤ 1023 by omega), Int32.sub_eq_add_neg, Int32.add_comm]
  exact congrArg (fun z => z + -nI i) (show (1023 : Int32) = nI 1023 by decide)
theorem ng_s (i : Nat) : -nI i + (-1 : Int32) = -nI (i + 1) := by
  rw [← nI_add1, Int32.neg_add, Int32.sub_eq_add_neg]
theorem cv_lt (o : Ordering) (h : o ≠ .lt) (op : CmpOp) : 0 ≤ Op.cmpValue (some o) op ∧ ¬ Op.cmpValue (some o) op < 0 := by
  cases o
  · exact absurd rfl h
  · cases op <;> exact ⟨by unfold Op.cmpValue; decide, by unfold Op.cmpValue; decide⟩
  · cases op <;> exact ⟨by unfold Op.cmpValue; decide, by unfold Op.cmpValue; decide⟩
theorem b13_in {E T i : Nat} (h1 : 1024 + i ≤ E) (h2 : E ≤ 2000) (hT : T < 4503599627370496) : b_X4_bitsOf_13 (nm (E - i) T, nI i) = some (.inl (nm (E - (i + 1)) T, nI (i + 1))) := by
  unfold b_X4_bitsOf_13
  obtain ⟨o, o1, o2⟩ := cmp_ge (E := E - i) (F := 1024) (T := T) (by omega) (by omega) (by omega) hT
  have q : ¬ (1023 : Int32) ≤ nI i := fun q => absurd ((nI_leI (a := 1023) (b := i) (by omega) (by omega)).mp q) (by omega)
  dsimp only
  rw [two_nm, o1, if_neg (cv_lt o o2 _).2, if_neg q, halve (by omega) (by omega) hT, grd_t (nnB_nm (by omega) hT), nI_add1, show E - i - 1 = E - (i + 1) by omega]
theorem cv_l0 : Op.cmpValue (some .lt) .l < 0 := by decide
theorem cv_g0 : ¬ 0 ≤ Op.cmpValue (some .lt) .g := by decide
theorem cv_gt : 0 < Op.cmpValue (some .gt) .g := by decide
theorem b13_out {E T : Nat} {x : Int32} (h1 : 1 ≤ E) (h2 : E ≤ 1023) (hT : T < 4503599627370496) : b_X4_bitsOf_13 (nm E T, x) = some (.inr (nm E T, x)) := by
  unfold b_X4_bitsOf_13
  dsimp only
  rw [two_nm, cmp_lt h1 (by omega) (by omega) hT, if_pos cv_l0]
theorem b41_in {E T i : Nat} (h1 : 830 ≤ E) (h2 : E + i < 1023) (hT : T < 4503599627370496) : b_X4_bitsOf_41 (nm (E + i) T, -nI i) = some (.inl (nm (E + (i + 1)) T, -nI (i + 1))) := by
  unfold b_X4_bitsOf_41
  dsimp only
  rw [one_nm, cmp_lt (by omega) (by omega) (by omega) hT, if_neg cv_g0, if_neg (ng_a i (by omega)), two_nm, times (by omega) (by omega) (by omega) (by omega) hT (by omega) (by omega), grd_t (nnB_nm (by omega) hT), ng_s, show E + i + 1024 - 1023 = E + (i + 1) by omega]
theorem b41_out {E T : Nat} {x : Int32} (h1 : 1023 ≤ E) (h2 : E ≤ 2046) (hT : T < 4503599627370496) : b_X4_bitsOf_41 (nm E T, x) = some (.inr (nm E T, x)) := by
  unfold b_X4_bitsOf_41
  obtain ⟨o, o1, o2⟩ := cmp_ge (E := E) (F := 1023) (T := T) (by omega) (by omega) (by omega) hT
  dsimp only
  rw [one_nm, o1, if_pos (cv_lt o o2 _).1]
theorem run13 {E T N : Nat} (h1 : 830 ≤ E) (h2 : E ≤ 2000) (hT : T < 4503599627370496) (hN : 1100 ≤ N) : iter b_X4_bitsOf_13 N (nm (E - 0) T, nI 0) = some (nm (E - (E - 1023)) T, nI (E - 1023)) := by
  obtain ⟨u, e1, e2⟩ := iter_for (body := b_X4_bitsOf_13) (E - 1023) (fun i s => s = (nm (E - i) T, nI i)) (fun e => e = (nm (E - (E - 1023)) T, nI (E - 1023))) (fun i s hi hs => by
      rw [hs]
      exact ⟨_, b13_in (by omega) h2 hT, rfl⟩) (fun s hs => by
      rw [hs]
      exact ⟨_, b13_out (by omega) (by omega) hT, rfl⟩) (N := N) (by omega) (s := (nm (E - 0) T, nI 0)) rfl
  rw [e1, e2]
theorem run41 {E T N : Nat} (h1 : 830 ≤ E) (h2 : E ≤ 1023) (hT : T < 4503599627370496) (hN : 1100 ≤ N) : iter b_X4_bitsOf_41 N (nm (E + 0) T, -nI 0) = some (nm (E + (1023 - E)) T, -nI (1023 - E)) := by
  obtain ⟨u, e1, e2⟩ := iter_for (body := b_X4_bitsOf_41) (1023 - E) (fun i s => s = (nm (E + i) T, -nI i)) (fun e => e = (nm (E + (1023 - E)) T, -nI (1023 - E))) (fun i s hi hs => by
      rw [hs]
      exact ⟨_, b41_in h1 (by omega) hT, rfl⟩) (fun s hs => by
      rw [hs]
      exact ⟨_, b41_out (by omega) (by omega) hT, rfl⟩) (N := N) (by omega) (s := (nm (E + 0) T, -nI 0)) rfl
  rw [e1, e2]
theorem i1023 : (1023 : Int32) = nI 1023 := by decide
theorem neg00 : (0 : Int32) = -nI 0 := by decide
theorem z_nI : (0 : Int32) = nI 0 := by decide
theorem iter_out {σ ε : Type} {body : σ → Option (σ ⊕ ε)} {N : Nat} {s : σ} {e : ε} (h : body s = some (.inr e)) : iter body (N + 1) s = some e := by
  unfold iter
  rw [h]
theorem run41b {E T N : Nat} {x : Int32} (h1 : 1023 ≤ E) (h2 : E ≤ 2046) (hT : T < 4503599627370496) : iter b_X4_bitsOf_41 (N + 1) (nm E T, x) = some (nm E T, x) := by
  exact iter_out (b41_out h1 h2 hT)
theorem run2 {E T N : Nat} (h1 : 830 ≤ E) (h2 : E ≤ 2000) (hT : T < 4503599627370496) (hN : 1100 ≤ N) : ∃ u : UInt64 × Int32, iter b_X4_bitsOf_41 N (nm (E - (E - 1023)) T, nI (E - 1023)) = some u ∧ u.1 = nm 1023 T ∧ u.2 + (1023 : Int32) = nI E := by
  rcases Nat.lt_or_ge E 1023 with q | q
  · have r := run41 (N := N) h1 (by omega) hT hN
    rw [show E - 1023 = 0 by omega, ← z_nI, neg00, show E - 0 = E + 0 by omega]
    refine ⟨_, r, ?_, ?_⟩
    · show nm _ _ = _
      rw [show E + (1023 - E) = 1023 by omega]
    · show -nI _ + _ = _
      rw [ng_b _ (by omega), show 1023 - (1023 - E) = E by omega]
  · obtain ⟨N', rfl⟩ : ∃ N', N = N' + 1 := ⟨N - 1, by omega⟩
    refine ⟨_, run41b (by omega) (by omega) hT, ?_, ?_⟩
    · show nm _ _ = _
      rw [show E - (E - 1023) = 1023 by omega]
    · show nI _ + _ = _
      rw [i1023, nI_add, show E - 1023 + 1023 = E by omega]
/-- the class's own reading of the bits -/
theorem bitsOf_n {E T N : Nat} (h1 : 830 ≤ E) (h2 : E ≤ 2000) (hT : T < 4503599627370496) (hN : 1100 ≤ N) : f_X4_bitsOf N (nm E T) = some (nm E T).toInt64 := by
  have r := run13 h1 h2 hT hN
  rw [Nat.sub_zero, ← z_nI] at r
  obtain ⟨⟨v1, v2⟩, f1, f2, f3⟩ := run2 h1 h2 hT hN
  obtain ⟨g1, g2, g3⟩ := frac hT
  change v1 = _ at f2
  change v2 + _ = _ at f3
  have hc := cmp_pos (E := E) (T := T) (by omega) (by omega) hT
  unfold f_X4_bitsOf
  rw [show FP.dconst0 = 0 from rfl, hc, if_pos cv_gt, r, bnd_s, f1, bnd_s]
  dsimp only
  rw [f2, f3, grd_t g2, grd_t g3, g1, bits_end (by omega)]
theorem bitsOf_0 (N : Nat) : f_X4_bitsOf N 0 = some (0 : Int64) := by
  unfold f_X4_bitsOf
  rw [if_neg (by decide +kernel)]
theorem bits_C {lo hi N : Nat} {x : UInt64} (h1 : 830 ≤ lo) (h2 : hi ≤ 2000) (hN : 1100 ≤ N) (h : gd lo hi x) : f_X4_bitsOf N x = some x.toInt64 := by
  rcases h with rfl | ⟨E, T, a1, a2, a3, rfl⟩
  · exact bitsOf_0 N
  · exact bitsOf_n (by omega) (by omega) a3 hN
theorem bits_M {lo hi : Nat} {x : UInt64} (h1 : 830 ≤ lo) (h2 : hi ≤ 2000) (h : gd lo hi x) : f_Jxe99ae_doubleToLongBits_ccdee x = some x.toInt64 := by
  have k : FP.dcmp x x = some .eq := by
    rcases h with rfl | ⟨E, T, a1, a2, a3, rfl⟩
    · decide +kernel
    · exact cmp_self (by omega) (by omega) a3
  unfold f_Jxe99ae_doubleToLongBits_ccdee f_Jxe99ae_isNaN_b9ae7
  rw [k, if_pos (by unfold Op.cmpValue; decide), bnd_s, if_pos rfl]
