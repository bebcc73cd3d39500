/-! stepsToCycle and coverTime -/
theorem nI_or (a b : Nat) : nI a ||| nI b = nI (a ||| b) := by
  apply Int32.toBitVec_inj.1
  show BitVec.ofNat 32 a ||| BitVec.ofNat 32 b = BitVec.ofNat 32 (a ||| b)
  apply BitVec.eq_of_getLsbD_eq
  intro i hi
  simp [hi]
theorem nI_shl : ∀ v, v < 9 → (1 : Int32) <<< (nI v &&& 31) = nI (2 ^ v) := by decide
theorem nI_all {n : Nat} (h : n < 9) : (1 : Int32) <<< (nI n &&& 31) - (1 : Int32) = nI (2 ^ n - 1) := by
  rw [nI_shl n h, nI_sub1 Nat.one_le_two_pow]
/-- node and rotors of a walk, as the programs hold them -/
def PR (n : Nat) (c : Cf) (node : Int32) (prot : Nat → Int32) : Prop := node = nI c.1 ∧ ∀ v, v < n → prot v = nI (c.2 v)
def sameAt (n m : Nat) (d : Nat → Nat) (nb : Nat → Nat → Nat) (c : Cf) (t : Nat) : Prop := (run d nb c t).1 = (run d nb c (2 * m + t)).1 ∧ ∀ v, v < n → (run d nb c t).2 v = (run d nb c (2 * m + t)).2 v
noncomputable def cycT (n m : Nat) (d : Nat → Nat) (nb : Nat → Nat → Nat) (c : Cf) : Nat := Classical.epsilon (fun t => t ≤ SB ∧ sameAt n m d nb c t ∧ ∀ j, j < t → ¬ sameAt n m d nb c j)
/-- the nodes seen by time t, as a mask -/
def sn (d : Nat → Nat) (nb : Nat → Nat → Nat) (c : Cf) : Nat → Nat
  | 0 => 2 ^ c.1
  | t + 1 => sn d nb c t ||| 2 ^ (run d nb c (t + 1)).1
noncomputable def covT (n : Nat) (d : Nat → Nat) (nb : Nat → Nat → Nat) (c : Cf) : Nat := Classical.epsilon (fun t => t ≤ SB ∧ sn d nb c t = 2 ^ n - 1 ∧ ∀ j, j < t → sn d nb c j ≠ 2 ^ n - 1)
section PB
variable {n m k : Nat} {d : Nat → Nat} {nb : Nat → Nat → Nat} {nodes links mnodes mlinks wk mwk : Int32} {deg nbr mdeg tab rot arv dep pos mrot plc marr mdep : Nat → Int32} {c : Cf}
theorem cycT_spec (G : GR n m d nb) (hc : vld n d c) : cycT n m d nb c ≤ SB ∧ sameAt n m d nb c (cycT n m d nb c) ∧ ∀ j, j < cycT n m d nb c → ¬ sameAt n m d nb c j := by
  refine Classical.epsilon_spec (p := fun t => t ≤ SB ∧ sameAt n m d nb c t ∧ ∀ j, j < t → ¬ sameAt n m d nb c j) ?_
  obtain ⟨b, h1, h2⟩ := cycle_in G hc
  have hb : sameAt n m d nb c b := by
    unfold sameAt
    rw [Nat.add_comm (2 * m) b, ← h2]
    exact ⟨rfl, fun _ _ => rfl⟩
  obtain ⟨t, h3, h4, h5⟩ := leastP (sameAt n m d nb c) hb
  exact ⟨t, by omega, h4, h5⟩
theorem sn_bit (t v : Nat) : (sn d nb c t).testBit v = true ↔ ∃ i, i ≤ t ∧ (run d nb c i).1 = v := by
  induction t with
  | zero =>
    show (2 ^ c.1).testBit v = true ↔ _
    rw [Nat.testBit_two_pow, decide_eq_true_iff]
    constructor
    · intro h; exact ⟨0, Nat.le_refl 0, h⟩
    · rintro ⟨i, h1, h2⟩
      have e : i = 0 := by omega
      subst e
      exact h2
  | succ t ih =>
    show (sn d nb c t ||| 2 ^ (run d nb c (t + 1)).1).testBit v = true ↔ _
    rw [Nat.testBit_or, Nat.testBit_two_pow, Bool.or_eq_true, decide_eq_true_iff, ih]
    constructor
    · rintro (⟨i, h1, h2⟩ | h)
      · exact ⟨i, by omega, h2⟩
      · exact ⟨t + 1, Nat.le_refl _, h⟩
    · rintro ⟨i, h1, h2⟩
      by_cases e : i = t + 1
      · subst e; exact Or.inr h2
      · exact Or.inl ⟨i, by omega, h2⟩
theorem sn_lt (G : GR n m d nb) (hc : vld n d c) (t : Nat) : sn d nb c t < 2 ^ 8 := by
  have hn := G.2.1
  induction t with
  | zero => exact Nat.pow_lt_pow_right (by decide) (show c.1 < 8 from Nat.lt_of_lt_of_le hc.1 hn)
  | succ t ih => exact Nat.or_lt_two_pow ih (Nat.pow_lt_pow_right (by decide) (Nat.lt_of_lt_of_le (run_vld G hc (t + 1)).1 hn))
theorem sn_all (G : GR n m d nb) (hc : vld n d c) (t : Nat) : sn d nb c t = 2 ^ n - 1 ↔ ∀ v, v < n → ∃ i, i ≤ t ∧ (run d nb c i).1 = v := by
  constructor
  · intro h v hv
    refine (sn_bit t v).mp ?_
    rw [h, Nat.testBit_two_pow_sub_one, decide_eq_true_iff]
    exact hv
  · intro h
    refine Nat.eq_of_testBit_eq (fun v => ?_)
    rw [Nat.testBit_two_pow_sub_one]
    by_cases hv : v < n
    · rw [decide_eq_true hv]; exact (sn_bit t v).mpr (h v hv)
    · rw [decide_eq_false hv]
      cases hb : (sn d nb c t).testBit v with
      | false => rfl
      | true =>
        obtain ⟨i, -, h2⟩ := (sn_bit t v).mp hb
        exact absurd (h2 ▸ (run_vld G hc i).1) hv
theorem covT_spec (G : GR n m d nb) (hc : vld n d c) : covT n d nb c ≤ SB ∧ sn d nb c (covT n d nb c) = 2 ^ n - 1 ∧ ∀ j, j < covT n d nb c → sn d nb c j ≠ 2 ^ n - 1 := by
  refine Classical.epsilon_spec (p := fun t => t ≤ SB ∧ sn d nb c t = 2 ^ n - 1 ∧ ∀ j, j < t → sn d nb c j ≠ 2 ^ n - 1) ?_
  have hb : sn d nb c SB = 2 ^ n - 1 := (sn_all G hc SB).mpr (reach G hc)
  obtain ⟨t, h3, h4, h5⟩ := leastP (fun t => sn d nb c t = 2 ^ n - 1) hb
  exact ⟨t, h3, h4, h5⟩
/-- no walk sees n nodes in fewer than n - 1 steps -/
theorem covT_ge (G : GR n m d nb) (hc : vld n d c) : n - 1 ≤ covT n d nb c := by
  obtain ⟨-, h2, -⟩ := covT_spec G hc
  rw [sn_all G hc] at h2
  refine Classical.byContradiction (fun q => ?_)
  have hx : ∀ v, ∃ i, v < n → i ≤ covT n d nb c ∧ (run d nb c i).1 = v := by
    intro v
    by_cases hv : v < n
    · obtain ⟨i, h3, h4⟩ := h2 v hv
      exact ⟨i, fun _ => ⟨h3, h4⟩⟩
    · exact ⟨0, fun h => absurd h hv⟩
  obtain ⟨f, hf⟩ := Classical.axiomOfChoice hx
  obtain ⟨i, j, h3, h4, h5⟩ := pigeon (covT n d nb c + 1) f (fun v hv => by have := (hf v (by omega)).1; omega)
  have h6 := (hf i (by omega)).2
  have h7 := (hf j (by omega)).2
  rw [h5, h7] at h6
  omega
/-- a probe's move keeps the picture -/
theorem PR_C (G : GR n m d nb) (hG : GC n m d nb nodes links deg nbr) {node : Int32} {prot : Nat → Int32} (hc : vld n d c) (h : PR n c node prot) : ∃ u, f_X2_move node prot deg nbr = some u ∧ PR n (stp d nb c) u.1 u.2 := by
  obtain ⟨rfl, h2⟩ := h
  exact ⟨_, probe_n G hG hc h2, rfl, step_src h2⟩
theorem PR_M (G : GR n m d nb) (hG : GM n m d nb nodes links mdeg tab) {node : Int32} {prot : Nat → Int32} (hc : vld n d c) (h : PR n c node prot) : ∃ u, f_X5_go tab mdeg prot node = some u ∧ PR n (stp d nb c) u.1 u.2 := by
  obtain ⟨rfl, h2⟩ := h
  exact ⟨_, go_n G hG hc h2, rfl, step_src h2⟩
theorem same_C {c1 c2 : Cf} (hn : n ≤ 8) (h1 : vld n d c1) (h2 : vld n d c2) (hd : ∀ v, v < n → d v ≤ 7) {node1 node2 : Int32} {prot1 prot2 : Nat → Int32} (p1 : PR n c1 node1 prot1) (p2 : PR n c2 node2 prot2) {N : Nat} (hN : 8 < N) : (c1.1 = c2.1 ∧ (∀ v, v < n → c1.2 v = c2.2 v) ∧ f_X2_isSameAs N node1 prot1 node2 prot2 (nI n) = some 1) ∨ (¬ (c1.1 = c2.1 ∧ ∀ v, v < n → c1.2 v = c2.2 v) ∧ f_X2_isSameAs N node1 prot1 node2 prot2 (nI n) = some 0) := by
  obtain ⟨rfl, p1⟩ := p1
  obtain ⟨rfl, p2⟩ := p2
  have b1 := h1.1
  have b2 := h2.1
  unfold f_X2_isSameAs
  by_cases e : c1.1 = c2.1
  · rw [if_pos (congrArg nI e)]
    obtain ⟨u, g1, g2⟩ := iter_inv (body := b_X2_isSameAs_15 prot1 prot2 (nI n)) (T := n) (fun i st => st = nI i ∧ ∀ v, v < i → c1.2 v = c2.2 v) (fun u => u = .inl () ∧ (∀ v, v < n → c1.2 v = c2.2 v) ∨ u = .inr () ∧ ¬ ∀ v, v < n → c1.2 v = c2.2 v) (by
      rintro i st hi ⟨rfl, hI⟩
      unfold b_X2_isSameAs_15
      rcases Nat.lt_or_ge i n with q | q
      · rw [if_neg (nI_ge q (by omega)), grd_t (inB_n (show i < 8 by omega) (by decide)), grd_t (inB_n (show i < 8 by omega) (by decide)), nI_clamp (by omega), p1 i q, p2 i q]
        have x1 := h1.2 i q
        have x2 := h2.2 i q
        have x3 := hd i q
        by_cases f : c1.2 i = c2.2 i
        · left
          rw [if_pos (congrArg nI f), nI_1]
          refine ⟨_, q, rfl, rfl, fun v hv => ?_⟩
          by_cases g : v = i
          · rw [g]; exact f
          · exact hI v (by omega)
        · right
          rw [if_neg (fun g => f ((nI_eq (by omega) (by omega)).mp g))]
          exact ⟨_, rfl, Or.inr ⟨rfl, fun g => f (g i q)⟩⟩
      · have e2 : i = n := by omega
        subst e2
        right
        rw [if_pos (nI_le (Nat.le_refl i) (by omega))]
        exact ⟨_, rfl, Or.inl ⟨rfl, hI⟩⟩) N 0 (0 : Int32) (Nat.zero_le _) (by omega) ⟨rfl, fun v h => absurd h (by omega)⟩
    rw [g1]
    rcases g2 with ⟨rfl, g2⟩ | ⟨rfl, g2⟩
    · exact Or.inl ⟨e, g2, rfl⟩
    · exact Or.inr ⟨fun q => g2 q.2, rfl⟩
  · rw [if_neg (fun q => e ((nI_eq (by omega) (by omega)).mp q))]
    exact Or.inr ⟨fun q => e q.1, rfl⟩
theorem equal_M {c1 c2 : Cf} (hn : n ≤ 8) (h1 : vld n d c1) (h2 : vld n d c2) (hd : ∀ v, v < n → d v ≤ 7) {prot1 prot2 : Nat → Int32} (p1 : ∀ v, v < n → prot1 v = nI (c1.2 v)) (p2 : ∀ v, v < n → prot2 v = nI (c2.2 v)) {N : Nat} (hN : 8 < N) : ((∀ v, v < n → c1.2 v = c2.2 v) ∧ f_X5_areEqual N (nI n) prot1 prot2 = some 1) ∨ (¬ (∀ v, v < n → c1.2 v = c2.2 v) ∧ f_X5_areEqual N (nI n) prot1 prot2 = some 0) := by
  unfold f_X5_areEqual
  obtain ⟨u, g1, g2⟩ := iter_for (body := b_X5_areEqual_4 (nI n) prot1 prot2) n (fun i st => st.2 = nI i ∧ (st.1 = 1 ∧ (∀ v, v < i → c1.2 v = c2.2 v) ∨ st.1 = 0 ∧ ¬ ∀ v, v < i → c1.2 v = c2.2 v)) (fun u => u = 1 ∧ (∀ v, v < n → c1.2 v = c2.2 v) ∨ u = 0 ∧ ¬ ∀ v, v < n → c1.2 v = c2.2 v) (by
    intro i st q hI
    obtain ⟨e, hI⟩ := hI
    unfold b_X5_areEqual_4
    rw [e, if_neg (nI_ge q (by omega))]
    rcases hI with ⟨e1, hI⟩ | ⟨e1, hI⟩
    · rw [e1, if_neg i10, grd_t (inB_n (show i < 8 by omega) (by decide)), grd_t (inB_n (show i < 8 by omega) (by decide)), nI_clamp (by omega), p1 i q, p2 i q]
      have x1 := h1.2 i q
      have x2 := h2.2 i q
      have x3 := hd i q
      by_cases f : c1.2 i = c2.2 i
      · rw [if_pos (congrArg nI f), nI_1]
        refine ⟨_, rfl, rfl, Or.inl ⟨rfl, fun v hv => ?_⟩⟩
        by_cases g : v = i
        · rw [g]; exact f
        · exact hI v (by omega)
      · rw [if_neg (fun g => f ((nI_eq (by omega) (by omega)).mp g)), nI_1]
        exact ⟨_, rfl, rfl, Or.inr ⟨rfl, fun g => f (g i (by omega))⟩⟩
    · rw [e1, if_pos rfl, nI_1]
      exact ⟨_, rfl, rfl, Or.inr ⟨rfl, fun g => hI (fun v hv => g v (by omega))⟩⟩) (by
    intro st hI
    obtain ⟨e, hI⟩ := hI
    unfold b_X5_areEqual_4
    rw [e, if_pos (nI_le (Nat.le_refl n) (by omega))]
    exact ⟨_, rfl, hI⟩) (N := N) (by omega) (s := ((1 : Int32), (0 : Int32))) ⟨rfl, Or.inl ⟨rfl, fun v h => absurd h (by omega)⟩⟩
  rw [g1, bnd_s]
  rcases g2 with ⟨rfl, g2⟩ | ⟨rfl, g2⟩
  · exact Or.inl ⟨g2, rfl⟩
  · exact Or.inr ⟨g2, rfl⟩
/-- the steps before the cycle, in the class -/
theorem cycle_C (G : GR n m d nb) (hG : GC n m d nb nodes links deg nbr) (hk : k ≤ 4) {w : Nat} (hw : w < k) {ps r : Nat → Nat} (hc : vld n d (ps w, r)) (hp : pos w = nI (ps w)) (hr : ∀ v, v < n → rot v = nI (r v)) (node : Int32) (prot : Nat → Int32) (nodeA : Int32) (protA : Nat → Int32) : ∃ u, f_X4_stepsToCycle FUEL nodes links deg nbr (nI k) rot pos node prot nodeA protA (nI w) = some u ∧ u.1 = nI (cycT n m d nb (ps w, r)) := by
  have hSB : SB = 52488 := rfl
  have hFU : FUEL = 1100000 := rfl
  obtain ⟨-, hn8, hm, hd, -⟩ := id G
  obtain ⟨rfl, rfl, -, -⟩ := id hG
  obtain ⟨t1, t2, t3⟩ := cycT_spec G hc
  have hs : ∀ v, v < n → va_cpy rot prot 0 0 8 v = nI (r v) := fun v hv => (cpy_lo (by omega)).trans (hr v hv)
  have hsA : ∀ v, v < n → va_cpy rot protA 0 0 8 v = nI (r v) := fun v hv => (cpy_lo (by omega)).trans (hr v hv)
  obtain ⟨u, g1, g2⟩ := iter_for (body := b_X4_stepsToCycle_72 deg nbr (nI (2 * m))) (2 * m) (fun i st => st.1 = nI i ∧ PR n (run d nb (ps w, r) i) st.2.1 st.2.2) (fun u => PR n (run d nb (ps w, r) (2 * m)) u.1 u.2) (by
    intro i st hi hI
    obtain ⟨e, hI⟩ := hI
    obtain ⟨u, h1, h2⟩ := PR_C G hG (run_vld G hc i) hI
    refine ⟨(st.1 + 1, u.1, u.2), ?_, by rw [e]; exact nI_1 i, h2⟩
    unfold b_X4_stepsToCycle_72
    rw [e, if_neg (nI_ge hi (by omega)), h1]
    rfl) (by
    intro st hI
    obtain ⟨e, hI⟩ := hI
    refine ⟨(st.2.1, st.2.2), ?_, hI⟩
    unfold b_X4_stepsToCycle_72
    rw [e, if_pos (nI_le (Nat.le_refl _) (by omega))]) (N := FUEL) (by omega) (s := ((0 : Int32), nI (ps w), va_cpy rot protA 0 0 8)) ⟨rfl, rfl, hsA⟩
  obtain ⟨u2, g3, g4⟩ := iter_for (body := b_X4_stepsToCycle_96 FUEL (nI n) deg nbr) (cycT n m d nb (ps w, r)) (fun i st => st.1 = nI i ∧ PR n (run d nb (ps w, r) i) st.2.1 st.2.2.1 ∧ PR n (run d nb (ps w, r) (2 * m + i)) st.2.2.2.1 st.2.2.2.2) (fun u => u.1 = nI (cycT n m d nb (ps w, r))) (by
    intro i st hi hI
    obtain ⟨e, hI, hI2⟩ := hI
    have hne := t3 i hi
    rcases same_C hn8 (run_vld G hc i) (run_vld G hc (2 * m + i)) (fun v hv => (hd v hv).2) hI hI2 (N := FUEL) (by decide) with ⟨q1, q2, -⟩ | ⟨-, q⟩
    · exact absurd ⟨q1, q2⟩ hne
    · obtain ⟨u, h1, h2⟩ := PR_C G hG (run_vld G hc i) hI
      obtain ⟨v, h3, h4⟩ := PR_C G hG (run_vld G hc (2 * m + i)) hI2
      refine ⟨(st.1 + 1, u.1, u.2, v.1, v.2), ?_, by rw [e]; exact nI_1 i, h2, h4⟩
      unfold b_X4_stepsToCycle_96
      rw [e, if_neg (show ¬ (1000000 : Int32) ≤ nI i from nI_ge (b := 1000000) (by omega) (by decide)), q, bnd_s, if_pos rfl, h1, bnd_s, h3]
      rfl) (by
    intro st hI
    obtain ⟨e, hI, hI2⟩ := hI
    rcases same_C hn8 (run_vld G hc _) (run_vld G hc _) (fun v hv => (hd v hv).2) hI hI2 (N := FUEL) (by decide) with ⟨-, -, q⟩ | ⟨q1, q⟩
    · refine ⟨_, ?_, e⟩
      unfold b_X4_stepsToCycle_96
      rw [e, if_neg (show ¬ (1000000 : Int32) ≤ nI _ from nI_ge (b := 1000000) (by omega) (by decide)), q, bnd_s, if_neg i10, ← e]
    · exact absurd t2 q1) (N := FUEL) (by omega) (s := ((0 : Int32), nI (ps w), va_cpy rot prot 0 0 8, u.1, u.2)) ⟨rfl, ⟨rfl, hs⟩, g2⟩
  unfold f_X4_stepsToCycle f_X2_start
  have hw1 : f_X3_hasWalker (nI k) (nI w) = some 1 := by
    rcases walker_cases (n := k) (by omega) (nI w) with ⟨q, -⟩ | ⟨v, -, -, q, -⟩
    · unfold f_X3_hasWalker at q
      rw [if_neg (nI_pos (by omega)), if_neg (nI_ge hw (by omega))] at q
      cases q
    · exact q
  simp only [hw1, bnd_s, if_neg i10, grd_t (inB_n (show w < 4 by omega) (by decide)), nI_clamp (show w < 2 ^ 31 by omega), hp, show (2 : Int32) * nI m = nI (2 * m) from pk_mul 2 m, g1, g3]
  exact ⟨_, rfl, g4⟩
theorem cycle_M (G : GR n m d nb) (hG : GM n m d nb mnodes mlinks mdeg tab) {w : Nat} (hw : w < 4) {ps r : Nat → Nat} (hc : vld n d (ps w, r)) (hp : plc w = nI (ps w)) (hr : ∀ v, v < n → mrot v = nI (r v)) (fsr snr : Nat → Int32) : ∃ u, f_X5_cycleOf FUEL mnodes mlinks tab mdeg mrot plc fsr snr (nI w) = some u ∧ u.1 = nI (cycT n m d nb (ps w, r)) := by
  have hSB : SB = 52488 := rfl
  have hFU : FUEL = 1100000 := rfl
  obtain ⟨-, hn8, hm, hd, -⟩ := id G
  obtain ⟨rfl, rfl, -, -⟩ := id hG
  obtain ⟨t1, t2, t3⟩ := cycT_spec G hc
  obtain ⟨f1, f2, f3⟩ := copyRotors_n mrot fsr (N := FUEL) (by decide)
  obtain ⟨s1, s2, s3⟩ := copyRotors_n mrot snr (N := FUEL) (by decide)
  have hs : ∀ v, v < n → f1 v = nI (r v) := fun v hv => (f3 v (by omega)).trans (hr v hv)
  have hsA : ∀ v, v < n → s1 v = nI (r v) := fun v hv => (s3 v (by omega)).trans (hr v hv)
  obtain ⟨u, g1, g2⟩ := iter_for (body := b_X5_cycleOf_36 (nI m) tab mdeg) (2 * m) (fun i st => st.2.1 = nI i ∧ PR n (run d nb (ps w, r) i) st.1 st.2.2) (fun u => PR n (run d nb (ps w, r) (2 * m)) u.1 u.2) (by
    intro i st hi hI
    obtain ⟨e, hI⟩ := hI
    obtain ⟨u, h1, h2⟩ := PR_M G hG (run_vld G hc i) hI
    refine ⟨(u.1, st.2.1 + 1, u.2), ?_, by rw [e]; exact nI_1 i, h2⟩
    unfold b_X5_cycleOf_36
    rw [e, show (2 : Int32) * nI m = nI (2 * m) from pk_mul 2 m, if_neg (nI_ge hi (by omega)), h1]
    rfl) (by
    intro st hI
    obtain ⟨e, hI⟩ := hI
    refine ⟨(st.1, st.2.2), ?_, hI⟩
    unfold b_X5_cycleOf_36
    rw [e, show (2 : Int32) * nI m = nI (2 * m) from pk_mul 2 m, if_pos (nI_le (Nat.le_refl _) (by omega))]) (N := FUEL) (by omega) (s := (nI (ps w), (0 : Int32), s1)) ⟨rfl, rfl, hsA⟩
  obtain ⟨u2, g3, g4⟩ := iter_for (body := b_X5_cycleOf_66 FUEL (nI n) tab mdeg) (cycT n m d nb (ps w, r)) (fun i st => st.2.2.1 = nI i ∧ PR n (run d nb (ps w, r) i) st.1 st.2.2.2.1 ∧ PR n (run d nb (ps w, r) (2 * m + i)) st.2.1 st.2.2.2.2) (fun u => u.1 = nI (cycT n m d nb (ps w, r))) (by
    intro i st hi hI
    obtain ⟨e, hI, hI2⟩ := hI
    have hne := t3 i hi
    have b1 := (run_vld G hc i).1
    have b2 := (run_vld G hc (2 * m + i)).1
    obtain ⟨u, h1, h2⟩ := PR_M G hG (run_vld G hc i) hI
    obtain ⟨v, h3, h4⟩ := PR_M G hG (run_vld G hc (2 * m + i)) hI2
    refine ⟨(u.1, v.1, st.2.2.1 + 1, u.2, v.2), ?_, by rw [e]; exact nI_1 i, h2, h4⟩
    unfold b_X5_cycleOf_66
    by_cases c0 : st.1 = st.2.1
    · have c1 : (run d nb (ps w, r) i).1 = (run d nb (ps w, r) (2 * m + i)).1 := by
        rw [hI.1, hI2.1] at c0
        exact (nI_eq (by omega) (by omega)).mp c0
      rcases equal_M hn8 (run_vld G hc i) (run_vld G hc (2 * m + i)) (fun v hv => (hd v hv).2) hI.2 hI2.2 (N := FUEL) (by decide) with ⟨q2, -⟩ | ⟨-, q⟩
      · exact absurd ⟨c1, q2⟩ hne
      · rw [if_pos c0, q, bnd_s, if_pos rfl, h1, bnd_s, h3]
        rfl
    · rw [if_neg c0, h1, bnd_s, h3]
      rfl) (by
    intro st hI
    obtain ⟨e, hI, hI2⟩ := hI
    refine ⟨(st.2.2.1, st.2.2.2.1, st.2.2.2.2), ?_, e⟩
    have c0 : st.1 = st.2.1 := by rw [hI.1, hI2.1, t2.1]
    unfold b_X5_cycleOf_66
    rcases equal_M hn8 (run_vld G hc _) (run_vld G hc _) (fun v hv => (hd v hv).2) hI.2 hI2.2 (N := FUEL) (by decide) with ⟨-, q⟩ | ⟨q1, q⟩
    · rw [if_pos c0, q, bnd_s, if_neg i10]
    · exact absurd t2.2 q1) (N := FUEL) (by omega) (s := (nI (ps w), u.1, (0 : Int32), f1, u.2)) ⟨rfl, ⟨rfl, hs⟩, g2⟩
  unfold f_X5_cycleOf
  simp only [f2, s2, bnd_s, grd_t (inB_n hw (by decide)), nI_clamp (show w < 2 ^ 31 by omega), hp, g1, g3]
  exact ⟨_, rfl, g4⟩
/-- the cover time up to a limit, in the class -/
theorem cover_C (G : GR n m d nb) (hG : GC n m d nb nodes links deg nbr) (hc : vld n d c) {src : Nat → Int32} (hs : ∀ v, v < n → src v = nI (c.2 v)) {lim : Nat} (hl : lim ≤ 1000000) (node : Int32) (prot : Nat → Int32) : ∃ u, f_X4_coverTimeBelow FUEL nodes deg nbr node prot src (nI lim) (nI c.1) = some u ∧ u.1 = nI (min (covT n d nb c) lim) := by
  have hSB : SB = 52488 := rfl
  have hFU : FUEL = 1100000 := rfl
  obtain ⟨-, hn8, hm, hd, -⟩ := id G
  obtain ⟨rfl, rfl, -, -⟩ := id hG
  obtain ⟨t1, t2, t3⟩ := covT_spec G hc
  have hp : 2 ^ n - 1 < 2 ^ 31 := by
    have : 2 ^ n ≤ 2 ^ 8 := Nat.pow_le_pow_right (by decide) hn8
    omega
  have hs1 : ∀ v, v < n → va_cpy src prot 0 0 8 v = nI (c.2 v) := fun v hv => (cpy_lo (by omega)).trans (hs v hv)
  have hc1 := hc.1
  obtain ⟨u, g1, g2⟩ := iter_for (body := b_X4_coverTimeBelow_30 deg nbr (nI lim) (nI (2 ^ n - 1))) (min (covT n d nb c) lim) (fun i st => st.1 = nI (sn d nb c i) ∧ st.2.1 = nI i ∧ PR n (run d nb c i) st.2.2.1 st.2.2.2) (fun u => u.1 = nI (min (covT n d nb c) lim)) (by
    intro i st hi hI
    obtain ⟨e, e2, hI⟩ := hI
    have b := sn_lt G hc i
    obtain ⟨u, h1, h2⟩ := PR_C G hG (run_vld G hc i) hI
    refine ⟨(st.1 ||| ((1 : Int32) <<< (u.1 &&& 31)), st.2.1 + 1, u.1, u.2), ?_, ?_, by rw [e2]; exact nI_1 i, h2⟩
    · unfold b_X4_coverTimeBelow_30
      rw [e, if_neg (fun q => t3 i (by omega) ((nI_eq (by omega) hp).mp q)), e2, if_neg (nI_ge (show i < lim by omega) (by omega)), h1]
      rfl
    · show st.1 ||| ((1 : Int32) <<< (u.1 &&& 31)) = _
      have b2 : (stp d nb (run d nb c i)).1 < n := (run_vld G hc (i + 1)).1
      rw [e, h2.1, nI_shl _ (by omega), nI_or]
      rfl) (by
    intro st hI
    obtain ⟨e, e2, hI⟩ := hI
    refine ⟨(st.2.1, st.2.2.1, st.2.2.2), ?_, e2⟩
    unfold b_X4_coverTimeBelow_30
    by_cases q : covT n d nb c ≤ lim
    · rw [e, show min (covT n d nb c) lim = covT n d nb c by omega, t2, if_pos rfl]
    · rw [e2, if_pos (nI_le (show lim ≤ min (covT n d nb c) lim by omega) (by omega))]
      by_cases q2 : st.1 = nI (2 ^ n - 1)
      · rw [if_pos q2]
      · rw [if_neg q2]) (N := FUEL) (by omega) (s := (nI (2 ^ c.1), (0 : Int32), nI c.1, va_cpy src prot 0 0 8)) ⟨rfl, rfl, rfl, hs1⟩
  unfold f_X4_coverTimeBelow f_X2_start
  simp only [bnd_s, nI_shl c.1 (by omega), nI_all (show n < 9 by omega), g1]
  exact ⟨_, rfl, g2⟩
theorem cover_M (G : GR n m d nb) (hG : GM n m d nb mnodes mlinks mdeg tab) (hc : vld n d c) {src : Nat → Int32} (hs : ∀ v, v < n → src v = nI (c.2 v)) : ∃ u, f_X5_coverFrom FUEL mnodes tab mdeg src (nI c.1) = some u ∧ u.1 = nI (covT n d nb c) := by
  have hSB : SB = 52488 := rfl
  have hFU : FUEL = 1100000 := rfl
  obtain ⟨-, hn8, hm, hd, -⟩ := id G
  obtain ⟨rfl, rfl, -, -⟩ := id hG
  obtain ⟨t1, t2, t3⟩ := covT_spec G hc
  have hp : 2 ^ n - 1 < 2 ^ 31 := by
    have : 2 ^ n ≤ 2 ^ 8 := Nat.pow_le_pow_right (by decide) hn8
    omega
  have hc1 := hc.1
  obtain ⟨u, g1, g2⟩ := iter_for (body := b_X5_coverFrom_9 (nI n) tab mdeg) (covT n d nb c) (fun i st => st.2.1 = nI (sn d nb c i) ∧ st.2.2.1 = nI i ∧ PR n (run d nb c i) st.1 st.2.2.2) (fun u => u.1 = nI (covT n d nb c)) (by
    intro i st hi hI
    obtain ⟨e, e2, hI⟩ := hI
    have b := sn_lt G hc i
    obtain ⟨u, h1, h2⟩ := PR_M G hG (run_vld G hc i) hI
    refine ⟨(u.1, st.2.1 ||| ((1 : Int32) <<< (u.1 &&& 31)), st.2.2.1 + 1, u.2), ?_, ?_, by rw [e2]; exact nI_1 i, h2⟩
    · unfold b_X5_coverFrom_9
      rw [nI_all (show n < 9 by omega), e, if_neg (fun q => t3 i hi ((nI_eq (by omega) hp).mp q)), h1]
      rfl
    · show st.2.1 ||| ((1 : Int32) <<< (u.1 &&& 31)) = _
      have b2 : (stp d nb (run d nb c i)).1 < n := (run_vld G hc (i + 1)).1
      rw [e, h2.1, nI_shl _ (by omega), nI_or]
      rfl) (by
    intro st hI
    obtain ⟨e, e2, hI⟩ := hI
    refine ⟨(st.2.2.1, st.2.2.2), ?_, e2⟩
    unfold b_X5_coverFrom_9
    rw [nI_all (show n < 9 by omega), e, t2, if_pos rfl]) (N := FUEL) (by omega) (s := (nI c.1, nI (2 ^ c.1), (0 : Int32), src)) ⟨rfl, rfl, rfl, hs⟩
  unfold f_X5_coverFrom
  simp only [nI_shl c.1 (by omega), g1, bnd_s]
  exact ⟨_, rfl, g2⟩
end PB
theorem st_stepsToCycle : St_stepsToCycle LInv FUEL := by
  intro hask len codes nodes links deg nbr wk rot arv dep pos wkK rotK arvK depK posK node prot nodeA protA tri bst chs nxt mlen mnodes mlinks mwk bcode hass kwk hsh buf tab mdeg mrot plc marr mdep fsr snr chn aft krot kplc karr kdep y1 y2 y3 hI
  obtain ⟨hB, hH, n, m, d, nb, hG, hC, hM, ⟨k, a, hk, ha, hCR, hMR⟩, hK⟩ := id hI
  obtain ⟨rfl, -⟩ := id hCR
  obtain ⟨rfl, -⟩ := id hMR
  rcases walker_cases (n := k) (by omega) y1 with ⟨e1, e2⟩ | ⟨w, hw, rfl, e1, e2⟩
  · unfold f_X4_stepsToCycle f_X5_stepsToCycle
    simp only [e1, e2, bnd_s, if_true]
    exact ⟨_, _, rfl, rfl, rfl, hI⟩
  · have G := g_gr hG (ha.1 w hw)
    obtain ⟨u, h1, h2⟩ := cycle_C G hC hk hw (ps := a.1.1) (r := a.1.2) ⟨ha.1 w hw, ha.2⟩ (hCR.2.2.2.2 w hw) hCR.2.1 node prot nodeA protA
    obtain ⟨v, h3, h4⟩ := cycle_M G hM (show w < 4 by omega) (ps := a.1.1) (r := a.1.2) ⟨ha.1 w hw, ha.2⟩ (hMR.2.2.2.2 w hw) hMR.2.1 fsr snr
    unfold f_X5_stepsToCycle
    simp only [e2, bnd_s, if_neg i10, h1, h3]
    exact ⟨_, _, rfl, rfl, h2.trans h4.symm, hI⟩
theorem coverOf_n {n m : Nat} {d : Nat → Nat} {nb : Nat → Nat → Nat} {mnodes mlinks : Int32} {mdeg tab mrot plc : Nat → Int32} (G : GR n m d nb) (hG : GM n m d nb mnodes mlinks mdeg tab) {w : Nat} (hw : w < 4) {ps r : Nat → Nat} (hc : vld n d (ps w, r)) (hp : plc w = nI (ps w)) (hr : ∀ v, v < n → mrot v = nI (r v)) (fsr : Nat → Int32) : ∃ u, f_X5_coverOf FUEL mnodes tab mdeg mrot plc fsr (nI w) = some u ∧ u.1 = nI (covT n d nb (ps w, r)) := by
  have hn8 := G.2.1
  obtain ⟨f1, f2, f3⟩ := copyRotors_n mrot fsr (N := FUEL) (by decide)
  obtain ⟨u, h1, h2⟩ := cover_M G hG hc (src := f1) (fun v hv => (f3 v (by omega)).trans (hr v hv))
  unfold f_X5_coverOf
  have h1 : f_X5_coverFrom FUEL mnodes tab mdeg f1 (nI (ps w)) = some u := h1
  simp only [f2, bnd_s, grd_t (inB_n hw (by decide)), nI_clamp (show w < 2 ^ 31 by omega), hp, h1]
  exact ⟨_, rfl, h2⟩
theorem coverTime_n {n m k : Nat} {d : Nat → Nat} {nb : Nat → Nat → Nat} {nodes links : Int32} {deg nbr rot pos : Nat → Int32} (G : GR n m d nb) (hG : GC n m d nb nodes links deg nbr) (hk : k ≤ 4) {w : Nat} (hw : w < k) {ps r : Nat → Nat} (hc : vld n d (ps w, r)) (hp : pos w = nI (ps w)) (hr : ∀ v, v < n → rot v = nI (r v)) (node : Int32) (prot : Nat → Int32) : ∃ u, f_X4_coverTime FUEL nodes deg nbr (nI k) rot pos node prot (nI w) = some u ∧ u.1 = nI (covT n d nb (ps w, r)) := by
  have hSB : SB = 52488 := rfl
  have hFU : FUEL = 1100000 := rfl
  obtain ⟨u, h1, h2⟩ := cover_C G hG hc (src := rot) hr (lim := 1000000) (Nat.le_refl _) node prot
  have t1 := (covT_spec G hc).1
  rw [show min (covT n d nb (ps w, r)) 1000000 = covT n d nb (ps w, r) by omega] at h2
  have h1 : f_X4_coverTimeBelow FUEL nodes deg nbr node prot rot (1000000 : Int32) (nI (ps w)) = some u := h1
  have hw1 : f_X3_hasWalker (nI k) (nI w) = some 1 := by
    unfold f_X3_hasWalker
    rw [if_neg (nI_pos (by omega)), if_neg (nI_ge hw (by omega))]
  unfold f_X4_coverTime
  simp only [hw1, bnd_s, if_neg i10, grd_t (inB_n (show w < 4 by omega) (by decide)), nI_clamp (show w < 2 ^ 31 by omega), hp, h1]
  exact ⟨_, rfl, h2⟩
theorem st_coverTime : St_coverTime LInv FUEL := by
  intro hask len codes nodes links deg nbr wk rot arv dep pos wkK rotK arvK depK posK node prot nodeA protA tri bst chs nxt mlen mnodes mlinks mwk bcode hass kwk hsh buf tab mdeg mrot plc marr mdep fsr snr chn aft krot kplc karr kdep y1 y2 y3 hI
  obtain ⟨hB, hH, n, m, d, nb, hG, hC, hM, ⟨k, a, hk, ha, hCR, hMR⟩, hK⟩ := id hI
  obtain ⟨rfl, -⟩ := id hCR
  obtain ⟨rfl, -⟩ := id hMR
  rcases walker_cases (n := k) (by omega) y1 with ⟨e1, e2⟩ | ⟨w, hw, rfl, e1, e2⟩
  · unfold f_X4_coverTime f_X5_coverTime
    simp only [e1, e2, bnd_s, if_true]
    exact ⟨_, _, rfl, rfl, rfl, hI⟩
  · have G := g_gr hG (ha.1 w hw)
    obtain ⟨u, h1, h2⟩ := coverTime_n G hC hk hw (ps := a.1.1) (r := a.1.2) ⟨ha.1 w hw, ha.2⟩ (hCR.2.2.2.2 w hw) hCR.2.1 node prot
    obtain ⟨v, h3, h4⟩ := coverOf_n G hM (show w < 4 by omega) (ps := a.1.1) (r := a.1.2) ⟨ha.1 w hw, ha.2⟩ (hMR.2.2.2.2 w hw) hMR.2.1 fsr
    unfold f_X5_coverTime
    simp only [e2, bnd_s, if_neg i10, h1, h3]
    exact ⟨_, _, rfl, rfl, h2.trans h4.symm, hI⟩
