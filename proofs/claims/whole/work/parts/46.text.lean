/-! the rules of the text -/
def lnk (f : Nat → Int32) (q : Nat) (x y : Int32) : Prop := (f q = x ∧ f (q + 1) = y) ∨ (f q = y ∧ f (q + 1) = x)
def okAt (f : Nat → Int32) (i : Nat) : Prop :=
  (i = 0 → ¬ f 0 < 50 ∧ ¬ 56 < f 0) ∧ (i = 1 → f 1 = 58) ∧ (2 ≤ i → i % 3 = 2 → ¬ f i < 48 ∧ ¬ f 0 ≤ f i) ∧
  (2 ≤ i → i % 3 = 0 → (¬ f i < 48 ∧ ¬ f 0 ≤ f i) ∧ ¬ f i = f (i - 1) ∧ ∀ j, 3 * j + 2 < i - 1 → ¬ lnk f (3 * j + 2) (f (i - 1)) (f i)) ∧ (2 ≤ i → i % 3 = 1 → f i = 44 ∧ i ≤ 34)
section SY
variable {f : Nat → Int32} {N : Nat}
theorem newlink_body {i q : Nat} {x y : Int32} (h : q + 1 < i) (hi : i ≤ 40) : b_X1_isNewLink_19 f (nI i) x y (nI q) = some (.inr (.inr ())) ∧ lnk f q x y ∨ b_X1_isNewLink_19 f (nI i) x y (nI q) = some (.inl (nI (q + 3))) ∧ ¬ lnk f q x y := by
  have i1 := inB_n (show q < 40 by omega) (by decide)
  have i2 := inB_n (show q + 1 < 40 by omega) (by decide)
  have e3 : nI q + 3 = nI (q + 3) := nI_add q 3
  unfold b_X1_isNewLink_19 lnk
  simp only [nI_sub1 (show 1 ≤ i by omega), if_neg (nI_ge (show q < i - 1 by omega) (by omega)), nI_add1, nI_clamp (show q < 2 ^ 31 by omega), nI_clamp (show q + 1 < 2 ^ 31 by omega), grd_t i1, grd_t i2, e3]
  by_cases c1 : f q = x <;> by_cases c2 : f (q + 1) = y <;> by_cases c3 : f q = y <;> by_cases c4 : f (q + 1) = x <;> simp only [c1, c2, c3, c4, if_true, if_false] <;> simp_all
theorem newlink_C (hN : 40 < N) {e : Nat} (he : 1 ≤ e) (he2 : 3 * e < 40) : ((∀ j, j < e - 1 → ¬ lnk f (3 * j + 2) (f (3 * e - 1)) (f (3 * e))) ∧ f_X1_isNewLink N f (nI (3 * e)) = some 1) ∨ ((¬ ∀ j, j < e - 1 → ¬ lnk f (3 * j + 2) (f (3 * e - 1)) (f (3 * e))) ∧ f_X1_isNewLink N f (nI (3 * e)) = some 0) := by
  obtain ⟨u, g1, g2⟩ := iter_inv (body := b_X1_isNewLink_19 f (nI (3 * e)) (f (3 * e - 1)) (f (3 * e))) (T := e - 1) (fun j st => st = nI (3 * j + 2) ∧ ∀ i, i < j → ¬ lnk f (3 * i + 2) (f (3 * e - 1)) (f (3 * e))) (fun u => u = .inl () ∧ (∀ j, j < e - 1 → ¬ lnk f (3 * j + 2) (f (3 * e - 1)) (f (3 * e))) ∨ u = .inr () ∧ ¬ ∀ j, j < e - 1 → ¬ lnk f (3 * j + 2) (f (3 * e - 1)) (f (3 * e))) (by
    rintro j st hj ⟨rfl, hI⟩
    rcases Nat.lt_or_ge j (e - 1) with q | q
    · rcases newlink_body (f := f) (i := 3 * e) (q := 3 * j + 2) (x := f (3 * e - 1)) (y := f (3 * e)) (by omega) (by omega) with ⟨h1, h2⟩ | ⟨h1, h2⟩
      · exact Or.inr ⟨_, h1, Or.inr ⟨rfl, fun h => h j q h2⟩⟩
      · refine Or.inl ⟨_, q, h1, by rw [show 3 * (j + 1) + 2 = 3 * j + 2 + 3 by omega], fun i hi => ?_⟩
        by_cases z : i = j
        · rw [z]; exact h2
        · exact hI i (by omega)
    · have z : j = e - 1 := by omega
      subst z
      refine Or.inr ⟨.inl (), ?_, Or.inl ⟨rfl, hI⟩⟩
      unfold b_X1_isNewLink_19
      rw [nI_sub1 (by omega), if_pos (nI_le (by omega) (by omega))]) N 0 (2 : Int32) (Nat.zero_le _) (by omega) ⟨rfl, fun i h => absurd h (by omega)⟩
  unfold f_X1_isNewLink
  rw [nI_sub1 (by omega), nI_clamp (by omega), nI_clamp (by omega), grd_t (inB_n (by omega) (by decide)), grd_t (inB_n (by omega) (by decide)), g1]
  rcases g2 with ⟨rfl, g2⟩ | ⟨rfl, g2⟩
  · exact Or.inl ⟨g2, rfl⟩
  · exact Or.inr ⟨g2, rfl⟩
theorem second_body {i q : Nat} {x y z : Int32} (h : q + 2 < i) (hi : i ≤ 40) (hz : z = 0 ∨ z = 1) : (z = 0 ∨ lnk f q x y) ∧ b_X5_isSecondNode_39 f (nI i) x y (z, nI q) = some (.inl (0, nI (q + 3))) ∨ (z = 1 ∧ ¬ lnk f q x y) ∧ b_X5_isSecondNode_39 f (nI i) x y (z, nI q) = some (.inl (1, nI (q + 3))) := by
  have i1 := inB_n (show q < 40 by omega) (by decide)
  have i2 := inB_n (show q + 1 < 40 by omega) (by decide)
  have e3 : nI q + 3 = nI (q + 3) := nI_add q 3
  unfold b_X5_isSecondNode_39 lnk
  simp only [nI_sub1 (show 1 ≤ i by omega), nI_add1, if_neg (nI_ge (show q + 1 < i - 1 by omega) (by omega)), nI_clamp (show q < 2 ^ 31 by omega), nI_clamp (show q + 1 < 2 ^ 31 by omega), grd_t i1, grd_t i2, e3]
  rcases hz with rfl | rfl
  · left
    refine ⟨Or.inl rfl, ?_⟩
    by_cases c1 : f q = x <;> by_cases c2 : f (q + 1) = y <;> by_cases c3 : f q = y <;> by_cases c4 : f (q + 1) = x <;> simp only [c1, c2, c3, c4, if_true, if_false] <;> simp_all
  · by_cases c1 : f q = x <;> by_cases c2 : f (q + 1) = y <;> by_cases c3 : f q = y <;> by_cases c4 : f (q + 1) = x <;> simp only [c1, c2, c3, c4, if_true, if_false, if_neg i10] <;> simp_all
theorem second_loop (hN : 40 < N) {e : Nat} {z : Int32} (hz : z = 0 ∨ z = 1) (he : 1 ≤ e) (he2 : 3 * e < 40) : ((z = 1 ∧ ∀ j, j < e - 1 → ¬ lnk f (3 * j + 2) (f (3 * e - 1)) (f (3 * e))) ∧ iter (b_X5_isSecondNode_39 f (nI (3 * e)) (f (3 * e - 1)) (f (3 * e))) N (z, 2) = some 1) ∨ ((¬ (z = 1 ∧ ∀ j, j < e - 1 → ¬ lnk f (3 * j + 2) (f (3 * e - 1)) (f (3 * e)))) ∧ iter (b_X5_isSecondNode_39 f (nI (3 * e)) (f (3 * e - 1)) (f (3 * e))) N (z, 2) = some 0) := by
  obtain ⟨u, g1, g2⟩ := iter_for (body := b_X5_isSecondNode_39 f (nI (3 * e)) (f (3 * e - 1)) (f (3 * e))) (e - 1) (fun j st => st.2 = nI (3 * j + 2) ∧ (st.1 = 1 ∧ (z = 1 ∧ ∀ i, i < j → ¬ lnk f (3 * i + 2) (f (3 * e - 1)) (f (3 * e))) ∨ st.1 = 0 ∧ ¬ (z = 1 ∧ ∀ i, i < j → ¬ lnk f (3 * i + 2) (f (3 * e - 1)) (f (3 * e))))) (fun u => u = 1 ∧ (z = 1 ∧ ∀ j, j < e - 1 → ¬ lnk f (3 * j + 2) (f (3 * e - 1)) (f (3 * e))) ∨ u = 0 ∧ ¬ (z = 1 ∧ ∀ j, j < e - 1 → ¬ lnk f (3 * j + 2) (f (3 * e - 1)) (f (3 * e)))) (by
    rintro j ⟨s1, s2⟩ hj ⟨e2, hI⟩
    dsimp only at e2 hI
    subst e2
    have hs : s1 = 0 ∨ s1 = 1 := by
      rcases hI with ⟨h, -⟩ | ⟨h, -⟩
      · exact Or.inr h
      · exact Or.inl h
    rcases second_body (f := f) (i := 3 * e) (q := 3 * j + 2) (x := f (3 * e - 1)) (y := f (3 * e)) (by omega) (by omega) hs with ⟨h1, h2⟩ | ⟨h1, h2⟩
    · refine ⟨_, h2, by rw [show 3 * (j + 1) + 2 = 3 * j + 2 + 3 by omega], Or.inr ⟨rfl, fun h => ?_⟩⟩
      rcases h1 with h1 | h1
      · rcases hI with ⟨h3, -⟩ | ⟨-, h3⟩
        · rw [h1] at h3; exact absurd h3 (by decide)
        · exact h3 ⟨h.1, fun i hi => h.2 i (by omega)⟩
      · exact h.2 j (by omega) h1
    · refine ⟨_, h2, by rw [show 3 * (j + 1) + 2 = 3 * j + 2 + 3 by omega], Or.inl ⟨rfl, ?_⟩⟩
      rcases hI with ⟨-, h3⟩ | ⟨h3, -⟩
      · refine ⟨h3.1, fun i hi => ?_⟩
        by_cases q : i = j
        · rw [q]; exact h1.2
        · exact h3.2 i (by omega)
      · rw [h1.1] at h3; exact absurd h3 (by decide)) (by
    rintro ⟨s1, s2⟩ ⟨e2, hI⟩
    dsimp only at e2 hI
    subst e2
    refine ⟨s1, ?_, hI⟩
    unfold b_X5_isSecondNode_39
    dsimp only
    rw [nI_sub1 (by omega), nI_add1, if_pos (nI_le (by omega) (by omega))]) (N := N) (by omega) (s := (z, (2 : Int32))) ⟨rfl, by
      rcases hz with rfl | rfl
      · exact Or.inr ⟨rfl, fun h => absurd h.1 (by decide)⟩
      · exact Or.inl ⟨rfl, rfl, fun i h => absurd h (by omega)⟩⟩
  rcases g2 with ⟨rfl, g2⟩ | ⟨rfl, g2⟩
  · exact Or.inl ⟨g2, g1⟩
  · exact Or.inr ⟨g2, g1⟩
theorem node_C (x : Int32) : ((¬ x < 48 ∧ ¬ f 0 ≤ x) ∧ f_X1_isNode f x = some 1) ∨ ((¬ (¬ x < 48 ∧ ¬ f 0 ≤ x)) ∧ f_X1_isNode f x = some 0) := by
  unfold f_X1_isNode
  by_cases c1 : x < 48
  · rw [if_pos c1]; exact Or.inr ⟨fun h => h.1 c1, rfl⟩
  · rw [if_neg c1]
    by_cases c2 : f 0 ≤ x
    · rw [if_pos c2]; exact Or.inr ⟨fun h => h.2 c2, rfl⟩
    · rw [if_neg c2]; exact Or.inl ⟨⟨c1, c2⟩, rfl⟩
theorem node_M {i : Nat} (hi : i < 40) : ((¬ f i < 48 ∧ ¬ f 0 ≤ f i) ∧ f_X5_isNodeDigit f (nI i) = some 1) ∨ ((¬ (¬ f i < 48 ∧ ¬ f 0 ≤ f i)) ∧ f_X5_isNodeDigit f (nI i) = some 0) := by
  unfold f_X5_isNodeDigit
  rw [nI_clamp (by omega), grd_t (inB_n hi (by decide)), grd_t (inB_n hi (by decide))]
  exact node_C (f i)
/-- a rule at an index: both sides judge as okAt does -/
theorem rules_both (hN : 40 < N) {i : Nat} (hi : i < 40) : (okAt f i ∧ f_X1_keepsRules N f (nI i) = some 1 ∧ f_X5_isRight N f (nI i) = some 1) ∨ (¬ okAt f i ∧ f_X1_keepsRules N f (nI i) = some 0 ∧ f_X5_isRight N f (nI i) = some 0) := by
  have i0 := inB_n hi (by decide)
  unfold f_X1_keepsRules f_X5_isRight
  simp only [grd_t i0, nI_clamp (show i < 2 ^ 31 by omega)]
  by_cases c0 : i = 0
  · subst c0
    have e0 : nI 0 = 0 := rfl
    simp only [e0, if_true, if_neg (show ¬ (2 : Int32) ≤ 0 by decide)]
    unfold f_X5_within
    by_cases c1 : f 0 < 50
    · simp only [if_pos c1, bnd_s]
      exact Or.inr ⟨fun h => (h.1 rfl).1 c1, trivial, rfl⟩
    · by_cases c2 : 56 < f 0
      · simp only [if_neg c1, if_pos c2, bnd_s]
        exact Or.inr ⟨fun h => (h.1 rfl).2 c2, trivial, rfl⟩
      · simp only [if_neg c1, if_neg c2, bnd_s]
        exact Or.inl ⟨⟨fun _ => ⟨c1, c2⟩, fun h => absurd h (by decide), fun h => absurd h (by decide), fun h => absurd h (by decide), fun h => absurd h (by decide)⟩, trivial, rfl⟩
  · by_cases c1 : i = 1
    · subst c1
      have e1 : nI 1 = 1 := rfl
      simp only [e1, if_neg i10, if_true, if_neg (show ¬ (2 : Int32) ≤ 1 by decide)]
      by_cases c2 : f 1 = 58
      · simp only [if_pos c2]
        exact Or.inl ⟨⟨fun h => absurd h (by decide), fun _ => c2, fun h => absurd h (by decide), fun h => absurd h (by decide), fun h => absurd h (by decide)⟩, trivial, trivial⟩
      · simp only [if_neg c2]
        exact Or.inr ⟨fun h => c2 (h.2.1 rfl), trivial, trivial⟩
    · have h2 : 2 ≤ i := by omega
      have n0 : ¬ nI i = 0 := fun h => c0 ((nI_z (by omega)).mp h)
      have n1 : ¬ nI i = 1 := fun h => c1 ((nI_eq (by omega) (b := 1) (by decide)).mp h)
      have m2 : (2 : Int32) ≤ nI i := nI_le (a := 2) h2 (by omega)
      have hpl : f_X1_placeInGroup (nI i) = some (nI ((i - 2) % 3)) := by
        unfold f_X1_placeInGroup
        rw [show nI i - (2 : Int32) = nI (i - 2) from pk_sub (b := 2) h2]
        exact congrArg some (pk_rem (d := 3) (by omega) (by decide) (by decide))
      have hrm : nI i - nI i / (3 : Int32) * (3 : Int32) = nI (i % 3) := pk_rem (d := 3) (by omega) (by decide) (by decide)
      simp only [if_neg n0, if_neg n1, if_pos m2, hpl, bnd_s, hrm]
      have hm3 : i % 3 = 0 ∨ i % 3 = 1 ∨ i % 3 = 2 := by omega
      rcases hm3 with r | r | r
      · -- a second node
        obtain ⟨e, rfl⟩ : ∃ e, i = 3 * e := ⟨i / 3, by omega⟩
        have he : 1 ≤ e := by omega
        have e1 : (3 * e - 2) % 3 = 1 := by omega
        have a1 : ¬ nI 1 = 0 := i10
        have a2 : nI 1 = (1 : Int32) := rfl
        have a3 : nI 0 = (0 : Int32) := rfl
        have hq : (∀ j, 3 * j + 2 < 3 * e - 1 → ¬ lnk f (3 * j + 2) (f (3 * e - 1)) (f (3 * e))) ↔ ∀ j, j < e - 1 → ¬ lnk f (3 * j + 2) (f (3 * e - 1)) (f (3 * e)) := ⟨fun h j hj => h j (by omega), fun h j hj => h j (by omega)⟩
        have hok : okAt f (3 * e) ↔ (¬ f (3 * e) < 48 ∧ ¬ f 0 ≤ f (3 * e)) ∧ ¬ f (3 * e) = f (3 * e - 1) ∧ ∀ j, j < e - 1 → ¬ lnk f (3 * j + 2) (f (3 * e - 1)) (f (3 * e)) := by
          rw [← hq]
          constructor
          · intro h; exact h.2.2.2.1 h2 r
          · intro h; exact ⟨fun q => absurd q c0, fun q => absurd q c1, fun _ q => absurd q (by omega), fun _ _ => h, fun _ q => absurd q (by omega)⟩
        simp only [e1, r, if_neg a1, a2, if_true, a3]
        unfold f_X5_isSecondNode
        simp only [nI_sub1 (show 1 ≤ 3 * e by omega), nI_clamp (show 3 * e - 1 < 2 ^ 31 by omega), nI_clamp (show 3 * e < 2 ^ 31 by omega), grd_t (inB_n (show 3 * e - 1 < 40 by omega) (by decide)), grd_t i0]
        rcases node_C (f := f) (f (3 * e)) with ⟨q1, q2⟩ | ⟨q1, q2⟩
        · rcases node_M (f := f) (i := 3 * e) hi with ⟨-, q3⟩ | ⟨q3, -⟩
          · simp only [q2, q3, bnd_s, if_neg i10]
            by_cases c2 : f (3 * e) = f (3 * e - 1)
            · right
              rcases second_loop (f := f) hN (z := 0) (Or.inl rfl) he hi with ⟨q4, -⟩ | ⟨-, q4⟩
              · exact absurd q4.1 (by decide)
              · simp only [if_pos c2, if_pos c2.symm, q4, bnd_s]
                exact ⟨fun h => (hok.mp h).2.1 c2, trivial, rfl⟩
            · simp only [if_neg c2, if_neg (fun z => c2 (Eq.symm z))]
              rcases newlink_C (f := f) hN he hi with ⟨q5, q6⟩ | ⟨q5, q6⟩
              · left
                rcases second_loop (f := f) hN (z := 1) (Or.inr rfl) he hi with ⟨-, q4⟩ | ⟨q4, -⟩
                · simp only [q6, q4, bnd_s, if_neg i10]
                  exact ⟨hok.mpr ⟨q1, c2, q5⟩, trivial, rfl⟩
                · exact absurd ⟨rfl, q5⟩ q4
              · right
                rcases second_loop (f := f) hN (z := 1) (Or.inr rfl) he hi with ⟨q4, -⟩ | ⟨-, q4⟩
                · exact absurd q4.2 q5
                · simp only [q6, q4, bnd_s, if_true]
                  exact ⟨fun h => q5 (hok.mp h).2.2, trivial, rfl⟩
          · exact absurd q1 q3
        · rcases node_M (f := f) (i := 3 * e) hi with ⟨q3, -⟩ | ⟨-, q3⟩
          · exact absurd q3 q1
          · right
            rcases second_loop (f := f) hN (z := 0) (Or.inl rfl) he hi with ⟨q4, -⟩ | ⟨-, q4⟩
            · exact absurd q4.1 (by decide)
            · simp only [q2, q3, bnd_s, if_true, q4, if_neg i10]
              exact ⟨fun h => q1 (hok.mp h).1, trivial, rfl⟩
      · -- a comma
        have e1 : (i - 2) % 3 = 2 := by omega
        have a1 : ¬ nI 2 = 0 := by decide
        have a2 : ¬ nI 2 = 1 := by decide
        have a3 : ¬ nI 1 = 0 := i10
        have a4 : ¬ nI 1 = (2 : Int32) := by decide
        have hdv : (nI i - (1 : Int32)) / (3 : Int32) = nI ((i - 1) / 3) := by
          rw [nI_sub1 (by omega)]
          exact pk_div (d := 3) (by omega) (by decide) (by decide)
        have hok : okAt f i ↔ f i = 44 ∧ i ≤ 34 := by
          constructor
          · intro h; exact h.2.2.2.2 h2 r
          · intro h; exact ⟨fun q => absurd q c0, fun q => absurd q c1, fun _ q => absurd q (by omega), fun _ q => absurd q (by omega), fun _ _ => h⟩
        simp only [e1, r, if_neg a1, if_neg a2, if_neg a3, if_neg a4, hdv]
        by_cases c2 : f i = 44
        · by_cases c3 : i ≤ 34
          · simp only [if_pos c2, if_neg (show ¬ (34 : Int32) < nI i from nI_nlt (b := i) (a := 34) c3 (by decide)), if_neg (show ¬ (12 : Int32) ≤ nI ((i - 1) / 3) from nI_ge (b := 12) (by omega) (by decide))]
            exact Or.inl ⟨hok.mpr ⟨c2, c3⟩, trivial, trivial⟩
          · simp only [if_pos c2, if_pos (show (34 : Int32) < nI i from nI_lt (a := 34) (by omega) (by omega)), if_pos (show (12 : Int32) ≤ nI ((i - 1) / 3) from nI_le (a := 12) (by omega) (by omega))]
            exact Or.inr ⟨fun h => c3 (hok.mp h).2, trivial, trivial⟩
        · simp only [if_neg c2]
          exact Or.inr ⟨fun h => c2 (hok.mp h).1, trivial, trivial⟩
      · -- a first node
        have e1 : (i - 2) % 3 = 0 := by omega
        have a1 : nI 0 = (0 : Int32) := rfl
        have a2 : ¬ nI 2 = 0 := by decide
        have a3 : nI 2 = (2 : Int32) := rfl
        have hok : okAt f i ↔ ¬ f i < 48 ∧ ¬ f 0 ≤ f i := by
          constructor
          · intro h; exact h.2.2.1 h2 r
          · intro h; exact ⟨fun q => absurd q c0, fun q => absurd q c1, fun _ _ => h, fun _ q => absurd q (by omega), fun _ q => absurd q (by omega)⟩
        simp only [e1, r, if_pos a1, if_neg a2, if_pos a3]
        rcases node_C (f := f) (f i) with ⟨q1, q2⟩ | ⟨q1, q2⟩
        · rcases node_M (f := f) hi with ⟨-, q3⟩ | ⟨q3, -⟩
          · simp only [q2, q3, bnd_s]
            exact Or.inl ⟨hok.mpr q1, rfl, rfl⟩
          · exact absurd q1 q3
        · rcases node_M (f := f) hi with ⟨q3, -⟩ | ⟨-, q3⟩
          · exact absurd q3 q1
          · simp only [q2, q3, bnd_s]
            exact Or.inr ⟨fun h => q1 (hok.mp h), rfl, rfl⟩
/-- the first broken index, on both sides -/
theorem broken_both (hN : 40 < N) {q : Nat} (hq : q ≤ 40) : ∃ t, t ≤ q ∧ (∀ j, j < t → okAt f j) ∧ (t = q ∨ ¬ okAt f t) ∧ f_X1_firstBrokenIndex N (nI q) f = some (nI t) ∧ f_X5_rightLength N (nI q) f = some (nI t) := by
  have hx : ∃ t, t ≤ q ∧ (∀ j, j < t → okAt f j) ∧ (t = q ∨ ¬ okAt f t) := by
    by_cases h : ∃ t, t < q ∧ ¬ okAt f t
    · obtain ⟨b, hb, hb2⟩ := h
      obtain ⟨t, h1, h2, h3⟩ := leastP (fun t => ¬ okAt f t) hb2
      exact ⟨t, by omega, fun j hj => Classical.byContradiction (h3 j hj), Or.inr h2⟩
    · exact ⟨q, Nat.le_refl q, fun j hj => Classical.byContradiction (fun z => h ⟨j, hj, z⟩), Or.inl rfl⟩
  obtain ⟨t, h1, h2, h3⟩ := hx
  refine ⟨t, h1, h2, h3, ?_, ?_⟩
  · obtain ⟨u, g1, g2⟩ := iter_for (body := b_X1_firstBrokenIndex_2 N (nI q) f) t (fun i st => st = nI i) (fun u => u = nI t) (by
      rintro i st hi rfl
      refine ⟨_, ?_, rfl⟩
      unfold b_X1_firstBrokenIndex_2
      rcases rules_both (f := f) hN (show i < 40 by omega) with ⟨-, z, -⟩ | ⟨z, -⟩
      · rw [if_neg (nI_ge (show i < q by omega) (by omega)), z, bnd_s, if_neg i10, nI_1]
      · exact absurd (h2 i hi) z) (by
      rintro st rfl
      refine ⟨_, ?_, rfl⟩
      unfold b_X1_firstBrokenIndex_2
      by_cases z0 : t = q
      · rw [z0, if_pos (nI_le (Nat.le_refl q) (by omega))]
      · rcases h3 with h3 | h3
        · exact absurd h3 z0
        · rcases rules_both (f := f) hN (show t < 40 by omega) with ⟨z, -⟩ | ⟨-, z, -⟩
          · exact absurd z h3
          · rw [if_neg (nI_ge (show t < q by omega) (by omega)), z, bnd_s, if_pos rfl]) (N := N) (by omega) (s := (0 : Int32)) rfl
    unfold f_X1_firstBrokenIndex
    rw [g1, g2]
    rfl
  · obtain ⟨u, g1, g2⟩ := iter_for (body := b_X5_rightLength_2 N (nI q) f) t (fun i st => st = nI i) (fun u => u = nI t) (by
      rintro i st hi rfl
      refine ⟨_, ?_, rfl⟩
      unfold b_X5_rightLength_2
      rcases rules_both (f := f) hN (show i < 40 by omega) with ⟨-, -, z⟩ | ⟨z, -⟩
      · rw [if_neg (nI_ge (show i < q by omega) (by omega)), z, bnd_s, if_neg i10, nI_1]
      · exact absurd (h2 i hi) z) (by
      rintro st rfl
      refine ⟨_, ?_, rfl⟩
      unfold b_X5_rightLength_2
      by_cases z0 : t = q
      · rw [z0, if_pos (nI_le (Nat.le_refl q) (by omega))]
      · rcases h3 with h3 | h3
        · exact absurd h3 z0
        · rcases rules_both (f := f) hN (show t < 40 by omega) with ⟨z, -⟩ | ⟨-, -, z⟩
          · exact absurd z h3
          · rw [if_neg (nI_ge (show t < q by omega) (by omega)), z, bnd_s, if_pos rfl]) (N := N) (by omega) (s := (0 : Int32)) rfl
    unfold f_X5_rightLength
    rw [g1, g2]
    rfl
end SY
theorem st_firstError : St_firstError LInv FUEL := by
  intro hask len codes nodes links deg nbr wk rot arv dep pos wkK rotK arvK depK posK node prot nodeA protA tri bst chs nxt mlen mnodes mlinks mwk bcode hass kwk hsh buf tab mdeg mrot plc marr mdep fsr snr chn aft krot kplc karr kdep y1 y2 y3 hI
  obtain ⟨⟨rfl, rfl, q, hq, rfl⟩, hR⟩ := id hI
  obtain ⟨t, -, -, -, h1, h2⟩ := broken_both (f := buf) (N := FUEL) (by decide) hq
  unfold f_X4_firstError f_X5_firstError
  rw [h1, h2]
  exact ⟨_, _, rfl, rfl, rfl, hI⟩
