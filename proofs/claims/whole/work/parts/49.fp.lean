/-! doubles that are zero or normal and positive -/
def nm (E T : Nat) : UInt64 := UInt64.ofNat (E * 4503599627370496 + T)
def gd (lo hi : Nat) (x : UInt64) : Prop := x = 0 ∨ ∃ E T, lo ≤ E ∧ E ≤ hi ∧ T < 4503599627370496 ∧ x = nm E T
theorem nm_nat {E T : Nat} (hE : E ≤ 2046) (hT : T < 4503599627370496) : (nm E T).toNat = E * 4503599627370496 + T := by
  unfold nm
  rw [UInt64.toNat_ofNat']
  exact Nat.mod_eq_of_lt (by omega)
theorem fp_tails : FP.Core.Fmt.tails FP.Core.b64 = 4503599627370496 := by decide
theorem fp_exps : FP.Core.Fmt.exps FP.Core.b64 = 2048 := by decide
theorem fp_qmin : FP.Core.Fmt.qmin FP.Core.b64 = -1074 := by decide
theorem fp_qmax : FP.Core.Fmt.qmax FP.Core.b64 = 971 := by decide
theorem fp_p : FP.Core.b64.p = 53 := rfl
theorem fp_dec {E T : Nat} (h1 : 1 ≤ E) (hE : E ≤ 2046) (hT : T < 4503599627370496) : FP.Core.decode FP.Core.b64 (E * 4503599627370496 + T) = .fin false (4503599627370496 + T) ((E : Int) - 1075) := by
  unfold FP.Core.decode FP.Core.fieldE FP.Core.fieldT FP.Core.fieldS
  rw [fp_tails, fp_exps, fp_qmin]
  have e1 : (E * 4503599627370496 + T) / 4503599627370496 = E := by omega
  have e2 : (E * 4503599627370496 + T) % 4503599627370496 = T := by omega
  rw [e1, e2, show E % 2048 = E by omega, if_neg (by omega), if_neg (by omega), show E / 2048 % 2 = 0 by omega]
  congr 1
  omega
theorem fp_nm {E T : Nat} (h1 : 1 ≤ E) (hE : E ≤ 2046) (hT : T < 4503599627370496) : FP.Core.decode FP.Core.b64 (nm E T).toNat = .fin false (4503599627370496 + T) ((E : Int) - 1075) := by
  rw [nm_nat hE hT, fp_dec h1 hE hT]
theorem fp_zero : FP.Core.decode FP.Core.b64 (0 : UInt64).toNat = .fin false 0 (-1074) := by decide
theorem fp_enc {E c : Nat} (h1 : 1 ≤ E) (hc : 4503599627370496 ≤ c) {q : Int} (hq : q = (E : Int) - 1075) : FP.Core.encode FP.Core.b64 (.fin false c q) = E * 4503599627370496 + (c - 4503599627370496) := by
  unfold FP.Core.encode FP.Core.assemble
  dsimp only
  rw [fp_tails, fp_exps, fp_qmin, if_neg (by omega), hq]
  rw [show ((E : Int) - 1075 - -1074).toNat + 1 = E by omega]
  simp
theorem fp_enc0 : FP.Core.encode FP.Core.b64 (.fin false 0 (-1074)) = 0 := by decide
theorem fp_near {U D : Nat} (hD : 0 < D) (h1 : 4503599627370496 * D ≤ U) (h2 : U < 9007199254740992 * D) : 4503599627370496 ≤ FP.Core.nearest U D ∧ FP.Core.nearest U D ≤ 9007199254740992 := by
  have a1 : 4503599627370496 ≤ U / D := (Nat.le_div_iff_mul_le hD).mpr h1
  have a2 : U / D < 9007199254740992 := (Nat.div_lt_iff_lt_mul hD).mpr h2
  unfold FP.Core.nearest
  split
  · omega
  · split <;> omega
theorem fp_exact {c D : Nat} (hD : 0 < D) : FP.Core.nearest (c * D) D = c := by
  unfold FP.Core.nearest
  rw [Nat.mul_mod_left, if_pos (by omega), Nat.mul_div_cancel _ hD]
theorem fp_settle {E c : Nat} (h1 : 1 ≤ E) (h2 : E ≤ 2046) (hc : 4503599627370496 ≤ c) (hc2 : c < 9007199254740992) {q : Int} (hq : q = (E : Int) - 1075) : FP.Core.encode FP.Core.b64 (FP.Core.settle FP.Core.b64 false c q) = E * 4503599627370496 + (c - 4503599627370496) := by
  unfold FP.Core.settle FP.Core.bound
  rw [fp_p, fp_qmax, if_pos (by omega), if_pos (by omega)]
  exact fp_enc h1 hc hq
theorem fp_settle2 {E c : Nat} (h1 : 1 ≤ E) (h2 : E + 1 ≤ 2046) (hc : 4503599627370496 ≤ c) (hc2 : c ≤ 9007199254740992) {q : Int} (hq : q = (E : Int) - 1075) : ∃ E' T, E ≤ E' ∧ E' ≤ E + 1 ∧ T < 4503599627370496 ∧ FP.Core.encode FP.Core.b64 (FP.Core.settle FP.Core.b64 false c q) = E' * 4503599627370496 + T := by
  rcases Nat.lt_or_ge c 9007199254740992 with h | h
  · exact ⟨E, c - 4503599627370496, by omega, by omega, by omega, fp_settle h1 (by omega) hc h hq⟩
  · refine ⟨E + 1, 0, by omega, by omega, by omega, ?_⟩
    unfold FP.Core.settle FP.Core.bound
    rw [fp_p, fp_qmax, if_neg (by omega), if_pos (by omega), fp_tails, fp_enc (E := E + 1) (by omega) (Nat.le_refl _) (by omega)]
theorem fp_lead1 {num : Nat} (h : num ≠ 0) : FP.Core.leading num 1 = (num.log2 : Int) := by
  unfold FP.Core.leading
  dsimp only
  rw [show Nat.log2 1 = 0 by decide]
  have := Nat.log2_self_le h
  rw [if_pos]
  · omega
  · simpa using this
/-- a whole number of units, rounded -/
theorem fp_round1 {E num g x : Nat} (h1 : 1 ≤ E) (hl : 2 ^ (52 + g) ≤ num) (hu : num < 2 ^ (54 + x)) (hE : E + x + 2 ≤ 2046) {e : Int} (he : e = (E : Int) - 1075) : ∃ E' T, E + g ≤ E' ∧ E' ≤ E + x + 2 ∧ T < 4503599627370496 ∧ FP.Core.encode FP.Core.b64 (FP.Core.roundRatio FP.Core.b64 false num 1 e) = E' * 4503599627370496 + T := by
  have h0 : num ≠ 0 := by have := Nat.two_pow_pos (52 + g); omega
  have k1 : 52 + g ≤ num.log2 := (Nat.le_log2 h0).mpr hl
  have k2 : num.log2 < 54 + x := (Nat.log2_lt h0).mpr hu
  have a1 := Nat.log2_self_le h0
  have a2 : num < 2 ^ (num.log2 + 1) := Nat.lt_log2_self
  unfold FP.Core.roundRatio FP.Core.roundAt FP.Core.quantum
  rw [if_neg h0, fp_lead1 h0, fp_qmin, fp_p]
  generalize num.log2 = k at k1 k2 a1 a2 ⊢
  obtain ⟨j, rfl⟩ : ∃ j, k = 52 + j := ⟨k - 52, by omega⟩
  rw [show max (-1074 : Int) (((52 + j : Nat) : Int) + e - (((53 : Nat) : Int) - 1)) = ((E + j : Nat) : Int) - 1075 by omega]
  unfold FP.Core.unitsNum FP.Core.unitsDen
  rw [show (e - (((E + j : Nat) : Int) - 1075)).toNat = 0 by omega, show (((E + j : Nat) : Int) - 1075 - e).toNat = j by omega]
  have b := Nat.two_pow_pos j
  rw [show (2 : Nat) ^ (52 + j) = 4503599627370496 * 2 ^ j by rw [Nat.pow_add]] at a1
  rw [show (2 : Nat) ^ (52 + j + 1) = 9007199254740992 * 2 ^ j by rw [show 52 + j + 1 = 53 + j by omega, Nat.pow_add]] at a2
  have hn := fp_near (U := num * 2 ^ 0) (D := 1 * 2 ^ j) (by omega) (by omega) (by omega)
  obtain ⟨E', T, c1, c2, c3, c4⟩ := fp_settle2 (E := E + j) (by omega) (by omega) hn.1 hn.2 rfl
  exact ⟨E', T, by omega, by omega, c3, c4⟩
theorem fp_pow52 : (2 : Nat) ^ 52 = 4503599627370496 := by decide
/-- the sum of two normal ones, the first not the greater in exponent -/
theorem fp_sum {E F T S : Nat} (h1 : 1 ≤ E) (hEF : E ≤ F) (hF : F + 2 ≤ 2046) (hT : T < 4503599627370496) (hS : S < 4503599627370496) {num : Nat} (hn : num = (4503599627370496 + T) + (4503599627370496 + S) * 2 ^ (F - E)) : ∃ E' T', E ≤ E' ∧ E' ≤ F + 2 ∧ T' < 4503599627370496 ∧ FP.Core.encode FP.Core.b64 (FP.Core.roundRatio FP.Core.b64 false num 1 ((E : Int) - 1075)) = E' * 4503599627370496 + T' := by
  obtain ⟨x, rfl⟩ : ∃ x, F = E + x := ⟨F - E, by omega⟩
  rw [show E + x - E = x by omega] at hn
  have b := Nat.two_pow_pos x
  have q1 : (4503599627370496 + S) * 2 ^ x ≤ 9007199254740991 * 2 ^ x := Nat.mul_le_mul_right _ (by omega)
  have q2 : (2 : Nat) ^ (54 + x) = 18014398509481984 * 2 ^ x := by rw [Nat.pow_add]
  obtain ⟨E', T', c1, c2, c3, c4⟩ := fp_round1 (E := E) (num := num) (g := 0) (x := x) h1 (by rw [show (2 : Nat) ^ (52 + 0) = 4503599627370496 by decide]; omega) (by rw [q2]; omega) (by omega) rfl
  exact ⟨E', T', by omega, by omega, c3, c4⟩
theorem fp_sumD {E F T S : Nat} (h1 : 1 ≤ E) (h2 : 1 ≤ F) : FP.Core.exactSum (.fin false (4503599627370496 + T) ((E : Int) - 1075)) (.fin false (4503599627370496 + S) ((F : Int) - 1075)) = .fin false ((4503599627370496 + T) * 2 ^ (E - min E F) + (4503599627370496 + S) * 2 ^ (F - min E F)) (((min E F : Nat) : Int) - 1075) := by
  have e0 : min ((E : Int) - 1075) ((F : Int) - 1075) = ((min E F : Nat) : Int) - 1075 := by omega
  unfold FP.Core.exactSum FP.Core.sumUnits FP.Core.signed FP.Core.inUnits
  dsimp only
  rw [e0, show ((E : Int) - 1075 - (((min E F : Nat) : Int) - 1075)).toNat = E - min E F by omega, show ((F : Int) - 1075 - (((min E F : Nat) : Int) - 1075)).toNat = F - min E F by omega]
  have b1 : 0 < (4503599627370496 + T) * 2 ^ (E - min E F) := Nat.mul_pos (by omega) (Nat.two_pow_pos _)
  generalize (4503599627370496 + T) * 2 ^ (E - min E F) = A at b1 ⊢
  generalize (4503599627370496 + S) * 2 ^ (F - min E F) = B
  simp only [Bool.false_eq_true, if_false]
  unfold FP.Core.sumSign
  rw [if_neg (by omega), show decide ((A : Int) + (B : Int) < 0) = false from decide_eq_false (by omega), show ((A : Int) + (B : Int)).natAbs = A + B by omega]
theorem dadd_nm {lo hi E F T S : Nat} (h1 : 1 ≤ lo) (hh : hi + 2 ≤ 2046) (a1 : lo ≤ E) (a2 : E ≤ hi) (b1 : lo ≤ F) (b2 : F ≤ hi) (hT : T < 4503599627370496) (hS : S < 4503599627370496) : gd lo (hi + 2) (FP.dadd (nm E T) (nm F S)) := by
  refine Or.inr ?_
  unfold FP.dadd FP.Core.dadd FP.Core.add
  rw [fp_nm (by omega) (by omega) hT, fp_nm (by omega) (by omega) hS, fp_sumD (by omega) (by omega)]
  unfold FP.Core.round
  dsimp only
  rcases Nat.le_total E F with q | q
  · rw [show min E F = E by omega, Nat.sub_self, Nat.pow_zero, Nat.mul_one]
    obtain ⟨E', T', c1, c2, c3, c4⟩ := fp_sum (E := E) (F := F) (by omega) q (by omega) hT hS rfl
    exact ⟨E', T', by omega, by omega, c3, by rw [c4]; rfl⟩
  · rw [show min E F = F by omega, Nat.sub_self, Nat.pow_zero, Nat.mul_one]
    obtain ⟨E', T', c1, c2, c3, c4⟩ := fp_sum (E := F) (F := E) (by omega) q (by omega) hS hT (Nat.add_comm _ _)
    exact ⟨E', T', by omega, by omega, c3, by rw [c4]; rfl⟩
theorem fp_r0 {F S : Nat} (h1 : 1 ≤ F) (hF : F + 2 ≤ 2046) (hS : S < 4503599627370496) : ∃ E' T', F ≤ E' ∧ E' ≤ F + 2 ∧ T' < 4503599627370496 ∧ FP.Core.encode FP.Core.b64 (FP.Core.roundRatio FP.Core.b64 false ((4503599627370496 + S) * 2 ^ (F - 1)) 1 (-1074)) = E' * 4503599627370496 + T' := by
  have b := Nat.two_pow_pos (F - 1)
  have q1 : (4503599627370496 + S) * 2 ^ (F - 1) < 18014398509481984 * 2 ^ (F - 1) := Nat.mul_lt_mul_of_pos_right (by omega) b
  have q2 : 4503599627370496 * 2 ^ (F - 1) ≤ (4503599627370496 + S) * 2 ^ (F - 1) := Nat.mul_le_mul_right _ (by omega)
  obtain ⟨E', T', c1, c2, c3, c4⟩ := fp_round1 (E := 1) (num := (4503599627370496 + S) * 2 ^ (F - 1)) (g := F - 1) (x := F - 1) (by omega) (by rw [Nat.pow_add]; exact q2) (by rw [Nat.pow_add]; exact q1) (by omega) (e := -1074) (by omega)
  exact ⟨E', T', by omega, by omega, c3, c4⟩
theorem dadd_0nm {F S : Nat} (h1 : 1 ≤ F) (hF : F + 2 ≤ 2046) (hS : S < 4503599627370496) : ∃ E' T', F ≤ E' ∧ E' ≤ F + 2 ∧ T' < 4503599627370496 ∧ FP.dadd 0 (nm F S) = nm E' T' := by
  obtain ⟨E', T', c1, c2, c3, c4⟩ := fp_r0 h1 hF hS
  refine ⟨E', T', c1, c2, c3, ?_⟩
  unfold FP.dadd FP.Core.dadd FP.Core.add
  rw [fp_zero, fp_nm (by omega) (by omega) hS]
  unfold FP.Core.exactSum FP.Core.sumUnits FP.Core.signed FP.Core.inUnits FP.Core.round
  dsimp only
  rw [show min (-1074 : Int) ((F : Int) - 1075) = -1074 by omega, show ((F : Int) - 1075 - -1074).toNat = F - 1 by omega, Nat.zero_mul]
  have b1 : 0 < (4503599627370496 + S) * 2 ^ (F - 1) := Nat.mul_pos (by omega) (Nat.two_pow_pos _)
  generalize (4503599627370496 + S) * 2 ^ (F - 1) = B at b1 c4 ⊢
  simp only [Bool.false_eq_true, if_false]
  unfold FP.Core.sumSign
  rw [if_neg (by omega), show decide (((0 : Nat) : Int) + (B : Int) < 0) = false from decide_eq_false (by omega), show (((0 : Nat) : Int) + (B : Int)).natAbs = B by omega, c4]
  rfl
theorem dadd_nm0 {F S : Nat} (h1 : 1 ≤ F) (hF : F + 2 ≤ 2046) (hS : S < 4503599627370496) : ∃ E' T', F ≤ E' ∧ E' ≤ F + 2 ∧ T' < 4503599627370496 ∧ FP.dadd (nm F S) 0 = nm E' T' := by
  obtain ⟨E', T', c1, c2, c3, c4⟩ := fp_r0 h1 hF hS
  refine ⟨E', T', c1, c2, c3, ?_⟩
  unfold FP.dadd FP.Core.dadd FP.Core.add
  rw [fp_zero, fp_nm (by omega) (by omega) hS]
  unfold FP.Core.exactSum FP.Core.sumUnits FP.Core.signed FP.Core.inUnits FP.Core.round
  dsimp only
  rw [show min ((F : Int) - 1075) (-1074 : Int) = -1074 by omega, show ((F : Int) - 1075 - -1074).toNat = F - 1 by omega, Nat.zero_mul]
  have b1 : 0 < (4503599627370496 + S) * 2 ^ (F - 1) := Nat.mul_pos (by omega) (Nat.two_pow_pos _)
  generalize (4503599627370496 + S) * 2 ^ (F - 1) = B at b1 c4 ⊢
  simp only [Bool.false_eq_true, if_false]
  unfold FP.Core.sumSign
  rw [if_neg (by omega), show decide ((B : Int) + ((0 : Nat) : Int) < 0) = false from decide_eq_false (by omega), show ((B : Int) + ((0 : Nat) : Int)).natAbs = B by omega, c4]
  rfl
theorem dadd_00 : FP.dadd 0 0 = 0 := by decide
theorem dadd_gd {lo hi : Nat} {x y : UInt64} (h1 : 1 ≤ lo) (hh : hi + 2 ≤ 2046) (hx : gd lo hi x) (hy : gd lo hi y) : gd lo (hi + 2) (FP.dadd x y) := by
  rcases hx with rfl | ⟨E, T, a1, a2, a3, rfl⟩
  · rcases hy with rfl | ⟨F, S, b1, b2, b3, rfl⟩
    · exact Or.inl dadd_00
    · obtain ⟨E', T', c1, c2, c3, c4⟩ := dadd_0nm (F := F) (S := S) (by omega) (by omega) b3
      exact Or.inr ⟨E', T', by omega, by omega, c3, c4⟩
  · rcases hy with rfl | ⟨F, S, b1, b2, b3, rfl⟩
    · obtain ⟨E', T', c1, c2, c3, c4⟩ := dadd_nm0 (F := E) (S := T) (by omega) (by omega) a3
      exact Or.inr ⟨E', T', by omega, by omega, c3, c4⟩
    · exact dadd_nm h1 hh a1 a2 b1 b2 a3 b3
theorem fp_log {c : Nat} (h1 : 4503599627370496 ≤ c) (h2 : c < 9007199254740992) : c.log2 = 52 := (Nat.log2_eq_iff (by omega)).mpr ⟨h1, h2⟩
/-- a quotient of two normal ones -/
theorem ddiv_nm {E F T S : Nat} (h1 : 1 ≤ E) (h2 : E ≤ 2046) (h3 : 1 ≤ F) (h4 : F ≤ 2046) (hT : T < 4503599627370496) (hS : S < 4503599627370496) (h5 : F + 1 ≤ E + 1022) (h6 : E + 1023 + 1 ≤ F + 2046) : ∃ E' T', E + 1022 ≤ E' + F ∧ E' + F ≤ E + 1024 ∧ T' < 4503599627370496 ∧ FP.ddiv (nm E T) (nm F S) = nm E' T' := by
  unfold FP.ddiv FP.Core.ddiv FP.Core.div
  rw [fp_nm h1 h2 hT, fp_nm h3 h4 hS]
  unfold FP.Core.quotient
  dsimp only
  rw [if_neg (by omega)]
  unfold FP.Core.roundRatio FP.Core.roundAt FP.Core.quantum FP.Core.leading
  rw [if_neg (by omega), fp_log (c := 4503599627370496 + T) (by omega) (by omega), fp_log (c := 4503599627370496 + S) (by omega) (by omega), fp_qmin, fp_p]
  dsimp only
  rw [show (((52 : Nat) : Int) - ((52 : Nat) : Int)) = 0 by omega]
  by_cases q : S ≤ T
  · rw [if_pos (by simp; omega)]
    rw [show max (-1074 : Int) (0 + ((E : Int) - 1075 - ((F : Int) - 1075)) - (((53 : Nat) : Int) - 1)) = ((E + 1023 - F : Nat) : Int) - 1075 by omega]
    unfold FP.Core.unitsNum FP.Core.unitsDen
    rw [show ((E : Int) - 1075 - ((F : Int) - 1075) - (((E + 1023 - F : Nat) : Int) - 1075)).toNat = 52 by omega, show ((((E + 1023 - F : Nat) : Int) - 1075) - ((E : Int) - 1075 - ((F : Int) - 1075))).toNat = 0 by omega, fp_pow52]
    have hn := fp_near (U := (4503599627370496 + T) * 4503599627370496) (D := (4503599627370496 + S) * 2 ^ 0) (by omega) (by omega) (by omega)
    obtain ⟨E', T', c1, c2, c3, c4⟩ := fp_settle2 (E := E + 1023 - F) (by omega) (by omega) hn.1 hn.2 rfl
    refine ⟨E', T', by omega, by omega, c3, ?_⟩
    rw [show (false != false) = false from rfl, c4]
    rfl
  · rw [if_neg (by simp; omega)]
    rw [show max (-1074 : Int) (0 - 1 + ((E : Int) - 1075 - ((F : Int) - 1075)) - (((53 : Nat) : Int) - 1)) = ((E + 1022 - F : Nat) : Int) - 1075 by omega]
    unfold FP.Core.unitsNum FP.Core.unitsDen
    rw [show ((E : Int) - 1075 - ((F : Int) - 1075) - (((E + 1022 - F : Nat) : Int) - 1075)).toNat = 53 by omega, show ((((E + 1022 - F : Nat) : Int) - 1075) - ((E : Int) - 1075 - ((F : Int) - 1075))).toNat = 0 by omega, show (2 : Nat) ^ 53 = 9007199254740992 by decide]
    have hn := fp_near (U := (4503599627370496 + T) * 9007199254740992) (D := (4503599627370496 + S) * 2 ^ 0) (by omega) (by omega) (by omega)
    obtain ⟨E', T', c1, c2, c3, c4⟩ := fp_settle2 (E := E + 1022 - F) (by omega) (by omega) hn.1 hn.2 rfl
    refine ⟨E', T', by omega, by omega, c3, ?_⟩
    rw [show (false != false) = false from rfl, c4]
    rfl
theorem ddiv_0 {F S : Nat} (h3 : 1 ≤ F) (h4 : F ≤ 2046) (hS : S < 4503599627370496) : FP.ddiv 0 (nm F S) = 0 := by
  unfold FP.ddiv FP.Core.ddiv FP.Core.div
  rw [fp_zero, fp_nm h3 h4 hS]
  unfold FP.Core.quotient
  dsimp only
  rw [if_neg (by omega)]
  unfold FP.Core.roundRatio
  rw [if_pos rfl, fp_qmin]
  exact congrArg UInt64.ofNat fp_enc0
theorem i2d_n : ∀ k, 1 ≤ k → k ≤ 7 → ∃ E T, 1023 ≤ E ∧ E ≤ 1025 ∧ T < 4503599627370496 ∧ FP.i2d (nI k) = nm E T
  | 1, _, _ => ⟨1023, 0, by omega, by omega, by omega, by decide⟩
  | 2, _, _ => ⟨1024, 0, by omega, by omega, by omega, by decide⟩
  | 3, _, _ => ⟨1024, 2251799813685248, by omega, by omega, by omega, by decide⟩
  | 4, _, _ => ⟨1025, 0, by omega, by omega, by omega, by decide⟩
  | 5, _, _ => ⟨1025, 1125899906842624, by omega, by omega, by omega, by decide⟩
  | 6, _, _ => ⟨1025, 2251799813685248, by omega, by omega, by omega, by decide⟩
  | 7, _, _ => ⟨1025, 3377699720527872, by omega, by omega, by omega, by decide⟩
  | 0, h, _ => absurd h (by omega)
  | k + 8, _, h => absurd h (by omega)
theorem ddiv_gd {lo hi k : Nat} {x : UInt64} (h1 : 4 ≤ lo) (hh : hi ≤ 1900) (hk : 1 ≤ k) (hk7 : k ≤ 7) (hx : gd lo hi x) : gd (lo - 3) (hi + 1) (FP.ddiv x (FP.i2d (nI k))) := by
  obtain ⟨F, S, b1, b2, b3, e⟩ := i2d_n k hk hk7
  rw [e]
  rcases hx with rfl | ⟨E, T, a1, a2, a3, rfl⟩
  · exact Or.inl (ddiv_0 (by omega) (by omega) b3)
  · obtain ⟨E', T', c1, c2, c3, c4⟩ := ddiv_nm (E := E) (F := F) (T := T) (S := S) (by omega) (by omega) (by omega) (by omega) a3 b3 (by omega) (by omega)
    exact Or.inr ⟨E', T', by omega, by omega, c3, c4⟩
theorem gd_mono {lo hi lo' hi' : Nat} {x : UInt64} (h1 : lo' ≤ lo) (h2 : hi ≤ hi') (h : gd lo hi x) : gd lo' hi' x := by
  rcases h with rfl | ⟨E, T, a1, a2, a3, rfl⟩
  · exact Or.inl rfl
  · exact Or.inr ⟨E, T, by omega, by omega, a3, rfl⟩
theorem nnB_nm {E T : Nat} (hE : E ≤ 2046) (hT : T < 4503599627370496) : nnB (nm E T) = true := by
  unfold nnB
  refine decide_eq_true ?_
  rw [UInt64.le_iff_toNat_le, UInt64.toNat_and, nm_nat hE hT]
  refine Nat.le_trans Nat.and_le_left ?_
  show _ ≤ 9218868437227405312
  omega
theorem nnB_gd {lo hi : Nat} {x : UInt64} (hh : hi ≤ 2046) (h : gd lo hi x) : nnB x = true := by
  rcases h with rfl | ⟨E, T, a1, a2, a3, rfl⟩
  · decide
  · exact nnB_nm (by omega) a3
