/-! load -/
theorem nI_and (a b : Nat) : nI a &&& nI b = nI (a &&& b) := by
  apply Int32.toBitVec_inj.1
  show BitVec.ofNat 32 a &&& BitVec.ofNat 32 b = BitVec.ofNat 32 (a &&& b)
  apply BitVec.eq_of_getLsbD_eq
  intro i hi
  simp [hi]
theorem digit {x : Int32} {n : Nat} (hn : n ≤ 8) (h1 : ¬ x < 48) (h2 : ¬ nI (48 + n) ≤ x) : x = nI (48 + (x.toNatClampNeg - 48)) ∧ x.toNatClampNeg - 48 < n := by
  have e48 : (48 : Int32).toInt = 48 := by decide
  have e0 : (0 : Int32).toInt = 0 := by decide
  have h3 : ¬ x < 0 := by
    intro h
    refine h1 (Int32.lt_iff_toInt_lt.mpr ?_)
    have := Int32.lt_iff_toInt_lt.mp h
    omega
  obtain ⟨j, hj, rfl⟩ := nI_of h3
  have a1 : 48 ≤ j := by
    rcases Nat.lt_or_ge j 48 with q | q
    · exact absurd (nI_lt (b := 48) q (by decide)) h1
    · exact q
  have a2 : j < 48 + n := by
    rcases Nat.lt_or_ge j (48 + n) with q | q
    · exact q
    · exact absurd (nI_le q hj) h2
  rw [nI_clamp hj]
  exact ⟨by rw [show 48 + (j - 48) = j by omega], by omega⟩
def fL (f : Nat → Int32) (k : Nat) : Nat := (f (3 * k + 2)).toNatClampNeg - 48
def sL (f : Nat → Int32) (k : Nat) : Nat := (f (3 * k + 3)).toNatClampNeg - 48
/-- a complete text is a list of links -/
theorem parse {f : Nat → Int32} {m : Nat} (hm1 : 1 ≤ m) (hq : 3 * m + 1 ≤ 40) (h : ∀ j, j < 3 * m + 1 → okAt f j) : ∃ n, 2 ≤ n ∧ n ≤ 8 ∧ m ≤ 12 ∧ f 0 = nI (48 + n) ∧ LK n m (fL f) (sL f) ∧ ∀ k, k < m → f (3 * k + 2) = nI (48 + fL f k) ∧ f (3 * k + 3) = nI (48 + sL f k) := by
  have h0 := (h 0 (by omega)).1 rfl
  have e50 : (50 : Int32).toInt = 50 := by decide
  have e0 : (0 : Int32).toInt = 0 := by decide
  have hx : ¬ f 0 < 0 := by
    intro z
    refine h0.1 (Int32.lt_iff_toInt_lt.mpr ?_)
    have := Int32.lt_iff_toInt_lt.mp z
    omega
  obtain ⟨c, hc, e⟩ := nI_of hx
  have c1 : 50 ≤ c := by
    rcases Nat.lt_or_ge c 50 with q | q
    · exact absurd (by rw [e]; exact nI_lt (b := 50) q (by decide)) h0.1
    · exact q
  have c2 : c ≤ 56 := by
    rcases Nat.lt_or_ge 56 c with q | q
    · exact absurd (by rw [e]; exact nI_lt (a := 56) q hc) h0.2
    · exact q
  have hf0 : f 0 = nI (48 + (c - 48)) := by rw [e, show 48 + (c - 48) = c by omega]
  have hfs : ∀ k, k < m → (f (3 * k + 2) = nI (48 + fL f k) ∧ fL f k < c - 48) ∧ (f (3 * k + 3) = nI (48 + sL f k) ∧ sL f k < c - 48) := by
    intro k hk
    have a1 := (h (3 * k + 2) (by omega)).2.2.1 (by omega) (by omega)
    have a2 := ((h (3 * k + 3) (by omega)).2.2.2.1 (by omega) (by omega)).1
    rw [hf0] at a1 a2
    exact ⟨digit (by omega) a1.1 a1.2, digit (by omega) a2.1 a2.2⟩
  refine ⟨c - 48, by omega, by omega, ?_, hf0, fun k hk => ?_, fun k hk => ⟨(hfs k hk).1.1, (hfs k hk).2.1⟩⟩
  · rcases Nat.lt_or_ge 12 m with q | q
    · have := ((h 37 (by omega)).2.2.2.2 (by omega) (by decide)).2
      omega
    · exact q
  · obtain ⟨⟨p1, p2⟩, p3, p4⟩ := hfs k hk
    obtain ⟨-, a2, a3⟩ := (h (3 * k + 3) (by omega)).2.2.2.1 (by omega) (by omega)
    rw [show 3 * k + 3 - 1 = 3 * k + 2 by omega] at a2 a3
    refine ⟨p2, p4, fun z => a2 (by rw [p1, p3, z]), fun j hj => ?_⟩
    obtain ⟨⟨q1, -⟩, q3, -⟩ := hfs j (by omega)
    have a4 := a3 j (by omega)
    refine ⟨fun z => a4 (Or.inl ⟨?_, ?_⟩), fun z => a4 (Or.inr ⟨?_, ?_⟩)⟩
    · rw [q1, p1, z.1]
    · rw [q3, p3, z.2]
    · rw [q1, p3, z.1]
    · rw [q3, p1, z.2]
section LD
variable {n m : Nat} {f : Nat → Int32} {fl sl : Nat → Nat} {N : Nat}
theorem links_n (hm1 : 1 ≤ m) (hm : m ≤ 12) : (nI (3 * m + 1) - (1 : Int32)) / (3 : Int32) = nI m := by
  rw [nI_sub1 (by omega), Nat.add_sub_cancel]
  refine (pk_div (d := 3) (by omega) (by decide) (by decide)).trans ?_
  rw [Nat.mul_div_cancel_left _ (by decide)]
theorem c48 (a : Nat) : nI (48 + a) - (48 : Int32) = nI a := by
  refine (pk_sub (b := 48) (by omega)).trans ?_
  rw [Nat.add_sub_cancel_left]
theorem first_n (hf : ∀ k, k < m → f (3 * k + 2) = nI (48 + fl k) ∧ f (3 * k + 3) = nI (48 + sl k)) (hm : m ≤ 12) {k : Nat} (hk : k < m) : f_X1_firstNode f (nI k) = some (nI (fl k)) ∧ f_X1_secondNode f (nI k) = some (nI (sl k)) := by
  unfold f_X1_firstNode f_X1_secondNode
  rw [show (3 : Int32) * nI k = nI (3 * k) from pk_mul 3 k, show (2 : Int32) + nI (3 * k) = nI (2 + 3 * k) from nI_add 2 (3 * k), nI_add1, nI_clamp (by omega), nI_clamp (by omega), show 2 + 3 * k = 3 * k + 2 by omega, (hf k hk).1, (hf k hk).2, c48, c48, grd_t (inB_n (by omega) (by decide)), grd_t (inB_n (by omega) (by decide))]
  exact ⟨rfl, rfl⟩
theorem eM_lt (L : LK n m fl sl) (hn8 : n ≤ 8) {k : Nat} (hk : k < m) : eM fl sl k < 2 ^ 8 := by
  obtain ⟨h1, h2, -, -⟩ := L k hk
  exact Nat.or_lt_two_pow (Nat.pow_lt_pow_right (by decide) (by omega)) (Nat.pow_lt_pow_right (by decide) (by omega))
theorem ms_lt (L : LK n m fl sl) (hn8 : n ≤ 8) {R : Nat} (hR : R < 2 ^ 8) {k : Nat} (hk : k ≤ m) : ms fl sl R k < 2 ^ 8 := by
  induction k with
  | zero => exact hR
  | succ k ih =>
    have h1 := ih (by omega)
    unfold ms
    by_cases c : ms fl sl R k &&& eM fl sl k = 0
    · rw [if_pos c]; exact h1
    · rw [if_neg c]; exact Nat.or_lt_two_pow h1 (eM_lt L hn8 (by omega))
theorem mR_lt8 (L : LK n m fl sl) (hn8 : n ≤ 8) (t : Nat) : mR fl sl m t < 2 ^ 8 := by
  induction t with
  | zero => show 1 < 2 ^ 8; decide
  | succ t ih => exact ms_lt L hn8 ih (Nat.le_refl m)
theorem ends_n (L : LK n m fl sl) (hn8 : n ≤ 8) {k : Nat} (hk : k < m) : ((1 : Int32) <<< (nI (fl k) &&& 31)) ||| ((1 : Int32) <<< (nI (sl k) &&& 31)) = nI (eM fl sl k) := by
  obtain ⟨h1, h2, -, -⟩ := L k hk
  rw [nI_shl _ (by omega), nI_shl _ (by omega), nI_or]
  rfl
theorem and0 (L : LK n m fl sl) (hn8 : n ≤ 8) {R k : Nat} (hR : R < 2 ^ 8) (hk : k < m) : nI R &&& nI (eM fl sl k) = 0 ↔ R &&& eM fl sl k = 0 := by
  rw [nI_and]
  refine nI_z ?_
  have : R &&& eM fl sl k ≤ R := Nat.and_le_left
  omega
theorem conn_C (L : LK n m fl sl) (hn : 2 ≤ n) (hn8 : n ≤ 8) (hm1 : 1 ≤ m) (hm : m ≤ 12) (hf0 : f 0 = nI (48 + n)) (hf : ∀ k, k < m → f (3 * k + 2) = nI (48 + fl k) ∧ f (3 * k + 3) = nI (48 + sl k)) (hN : 40 < N) : f_X1_isConnected N (nI (3 * m + 1)) f = some (if mR fl sl m (n - 1) = 2 ^ n - 1 then 1 else 0) := by
  have hnod : f_X1_nodes f = some (nI n) := by
    unfold f_X1_nodes
    rw [hf0, c48]
  have hlk : f_X1_links (nI (3 * m + 1)) = some (nI m) := by
    unfold f_X1_links
    rw [links_n hm1 hm]
  have hin : ∀ R, R < 2 ^ 8 → iter (b_X1_isConnected_14 (nI (3 * m + 1)) f) N (nI R, 0) = some (nI (ms fl sl R m)) := by
    intro R hR
    obtain ⟨u, g1, rfl⟩ := iter_for (body := b_X1_isConnected_14 (nI (3 * m + 1)) f) m (fun k st => st.1 = nI (ms fl sl R k) ∧ st.2 = nI k) (fun u => u = nI (ms fl sl R m)) (by
      rintro k ⟨s1, s2⟩ hk ⟨e1, e2⟩
      dsimp only at e1 e2
      subst e1; subst e2
      obtain ⟨p1, p2⟩ := first_n hf hm hk
      have hb := ms_lt L hn8 hR (show k ≤ m by omega)
      unfold b_X1_isConnected_14
      simp only [hlk, bnd_s, if_neg (nI_ge hk (show m < 2 ^ 31 by omega)), p1, p2, ends_n L hn8 hk, and0 L hn8 hb hk, nI_1, nI_or]
      by_cases c : ms fl sl R k &&& eM fl sl k = 0
      · rw [if_pos c]
        refine ⟨_, rfl, ?_, rfl⟩
        show _ = nI (ms fl sl R (k + 1))
        rw [show ms fl sl R (k + 1) = if ms fl sl R k &&& eM fl sl k = 0 then ms fl sl R k else ms fl sl R k ||| eM fl sl k from rfl, if_pos c]
      · rw [if_neg c]
        refine ⟨_, rfl, ?_, rfl⟩
        show _ = nI (ms fl sl R (k + 1))
        rw [show ms fl sl R (k + 1) = if ms fl sl R k &&& eM fl sl k = 0 then ms fl sl R k else ms fl sl R k ||| eM fl sl k from rfl, if_neg c]) (by
      rintro ⟨s1, s2⟩ ⟨e1, e2⟩
      dsimp only at e1 e2
      subst e1; subst e2
      refine ⟨_, ?_, rfl⟩
      unfold b_X1_isConnected_14
      rw [hlk, bnd_s, if_pos (nI_le (Nat.le_refl m) (by omega))]) (N := N) (by omega) (s := (nI R, (0 : Int32))) ⟨rfl, rfl⟩
    exact g1
  obtain ⟨u, g1, rfl⟩ := iter_for (body := b_X1_isConnected_4 N (nI (3 * m + 1)) f) (n - 1) (fun t st => st.1 = nI (mR fl sl m t) ∧ st.2 = nI (t + 1)) (fun u => u = nI (mR fl sl m (n - 1))) (by
    rintro t ⟨s1, s2⟩ ht ⟨e1, e2⟩
    dsimp only at e1 e2
    subst e1; subst e2
    refine ⟨(nI (mR fl sl m (t + 1)), nI (t + 1 + 1)), ?_, rfl, rfl⟩
    unfold b_X1_isConnected_4
    simp only [hnod, bnd_s, if_neg (nI_ge (show t + 1 < n by omega) (show n < 2 ^ 31 by omega)), hin _ (mR_lt8 L hn8 t), nI_1]
    rfl) (by
    rintro ⟨s1, s2⟩ ⟨e1, e2⟩
    dsimp only at e1 e2
    subst e1; subst e2
    refine ⟨_, ?_, rfl⟩
    unfold b_X1_isConnected_4
    rw [hnod, bnd_s, if_pos (nI_le (by omega) (by omega))]) (N := N) (by omega) (s := ((1 : Int32), (1 : Int32))) ⟨rfl, rfl⟩
  have hb := mR_lt8 L hn8 (n - 1)
  have hp : 2 ^ n - 1 < 2 ^ 31 := by
    have : 2 ^ n ≤ 2 ^ 8 := Nat.pow_le_pow_right (by decide) hn8
    omega
  unfold f_X1_isConnected
  simp only [g1, bnd_s, hnod, nI_all (show n < 9 by omega)]
  by_cases c : mR fl sl m (n - 1) = 2 ^ n - 1
  · rw [if_pos c, c, if_pos rfl]
  · rw [if_neg c, if_neg (fun z => c ((nI_eq (by omega) hp).mp z))]
theorem conn_M (L : LK n m fl sl) (hn : 2 ≤ n) (hn8 : n ≤ 8) (hm1 : 1 ≤ m) (hm : m ≤ 12) (hf0 : f 0 = nI (48 + n)) (hf : ∀ k, k < m → f (3 * k + 2) = nI (48 + fl k) ∧ f (3 * k + 3) = nI (48 + sl k)) (hN : 40 < N) : f_X5_isConnected N (nI (3 * m + 1)) f = some (if mR fl sl m 8 = 2 ^ n - 1 then 1 else 0) := by
  have hin : ∀ R, R < 2 ^ 8 → iter (b_X5_isConnected_12 (nI (3 * m + 1)) f) N (nI R, 2) = some (nI (ms fl sl R m)) := by
    intro R hR
    obtain ⟨u, g1, rfl⟩ := iter_for (body := b_X5_isConnected_12 (nI (3 * m + 1)) f) m (fun k st => st.1 = nI (ms fl sl R k) ∧ st.2 = nI (3 * k + 2)) (fun u => u = nI (ms fl sl R m)) (by
      rintro k ⟨s1, s2⟩ hk ⟨e1, e2⟩
      dsimp only at e1 e2
      subst e1; subst e2
      have hb := ms_lt L hn8 hR (show k ≤ m by omega)
      have e3 : nI (3 * k + 2) + 3 = nI (3 * (k + 1) + 2) := (nI_add _ 3).trans (by rw [show 3 * k + 2 + 3 = 3 * (k + 1) + 2 by omega])
      have ez : nI (ms fl sl R k) ||| (0 : Int32) = nI (ms fl sl R k) := (nI_or _ 0).trans (by rw [Nat.or_zero])
      unfold b_X5_isConnected_12
      simp only [if_neg (nI_ge (show 3 * k + 2 < 3 * m + 1 by omega) (show 3 * m + 1 < 2 ^ 31 by omega)), nI_add1, nI_clamp (show 3 * k + 2 < 2 ^ 31 by omega), nI_clamp (show 3 * k + 2 + 1 < 2 ^ 31 by omega), grd_t (inB_n (show 3 * k + 2 < 40 by omega) (by decide)), grd_t (inB_n (show 3 * k + 2 + 1 < 40 by omega) (by decide)), (hf k hk).1, show f (3 * k + 2 + 1) = nI (48 + sl k) from (hf k hk).2, c48, ends_n L hn8 hk, and0 L hn8 hb hk, nI_or, e3, ez]
      by_cases c : ms fl sl R k &&& eM fl sl k = 0
      · rw [if_pos c]
        refine ⟨_, rfl, ?_, rfl⟩
        show _ = nI (ms fl sl R (k + 1))
        rw [show ms fl sl R (k + 1) = if ms fl sl R k &&& eM fl sl k = 0 then ms fl sl R k else ms fl sl R k ||| eM fl sl k from rfl, if_pos c]
      · rw [if_neg c]
        refine ⟨_, rfl, ?_, rfl⟩
        show _ = nI (ms fl sl R (k + 1))
        rw [show ms fl sl R (k + 1) = if ms fl sl R k &&& eM fl sl k = 0 then ms fl sl R k else ms fl sl R k ||| eM fl sl k from rfl, if_neg c]) (by
      rintro ⟨s1, s2⟩ ⟨e1, e2⟩
      dsimp only at e1 e2
      subst e1; subst e2
      refine ⟨_, ?_, rfl⟩
      unfold b_X5_isConnected_12
      rw [if_pos (nI_le (by omega) (by omega))]) (N := N) (by omega) (s := (nI R, (2 : Int32))) ⟨rfl, rfl⟩
    exact g1
  obtain ⟨u, g1, rfl⟩ := iter_for (body := b_X5_isConnected_4 N (nI (3 * m + 1)) f) 8 (fun t st => st.1 = nI (mR fl sl m t) ∧ st.2 = nI t) (fun u => u = nI (mR fl sl m 8)) (by
    rintro t ⟨s1, s2⟩ ht ⟨e1, e2⟩
    dsimp only at e1 e2
    subst e1; subst e2
    refine ⟨(nI (mR fl sl m (t + 1)), nI (t + 1)), ?_, rfl, rfl⟩
    unfold b_X5_isConnected_4
    simp only [if_neg (show ¬ (8 : Int32) ≤ nI t from nI_ge (b := 8) ht (by decide)), hin _ (mR_lt8 L hn8 t), nI_1, bnd_s]
    rfl) (by
    rintro ⟨s1, s2⟩ ⟨e1, e2⟩
    dsimp only at e1 e2
    subst e1; subst e2
    refine ⟨_, ?_, rfl⟩
    unfold b_X5_isConnected_4
    rw [if_pos (show (8 : Int32) ≤ nI 8 by decide)]) (N := N) (by omega) (s := ((1 : Int32), (0 : Int32))) ⟨rfl, rfl⟩
  have hb := mR_lt8 L hn8 8
  have hp : 2 ^ n - 1 < 2 ^ 31 := by
    have : 2 ^ n ≤ 2 ^ 8 := Nat.pow_le_pow_right (by decide) hn8
    omega
  unfold f_X5_isConnected
  simp only [g1, bnd_s, hf0, c48, nI_all (show n < 9 by omega)]
  by_cases c : mR fl sl m 8 = 2 ^ n - 1
  · rw [if_pos c, c, if_pos rfl]
  · rw [if_neg c, if_neg (fun z => c ((nI_eq (by omega) hp).mp z))]
/-- the rows of a graph being built: width w -/
def GB (w n : Nat) (g : Gt) (deg nbr : Nat → Int32) : Prop := (∀ v, v < n → deg v = nI (g.1 v)) ∧ ∀ v, v < n → ∀ i, i < g.1 v → nbr (w * v + i) = nI (g.2 v i)
theorem GB_add {w : Nat} {g : Gt} {deg nbr : Nat → Int32} (h : GB w n g deg nbr) {a b : Nat} (ha : a < n) (hw : ∀ v, v < n → g.1 v ≤ w) (hw2 : g.1 a < w) : GB w n (addN g a b) (upd deg a (nI (g.1 a + 1))) (upd nbr (w * a + g.1 a) (nI b)) := by
  refine ⟨fun v hv => ?_, fun v hv i hi => ?_⟩
  · show upd _ _ _ v = nI (va_up _ _ _ v)
    unfold va_up
    by_cases e : v = a
    · rw [if_pos e, e, upd_at]
    · rw [if_neg e, upd_ne _ _ e]; exact h.1 v hv
  · unfold addN at hi ⊢
    dsimp only at hi ⊢
    unfold va_up at hi ⊢
    by_cases e : v = a
    · subst e
      rw [if_pos rfl] at hi ⊢
      by_cases q : i = g.1 v
      · rw [if_pos q, q, upd_at]
      · rw [if_neg q, upd_ne _ _ (by omega)]; exact h.2 v hv i (by omega)
    · rw [if_neg e] at hi ⊢
      have h1 := hw v hv
      rw [upd_ne _ _ ?_]
      · exact h.2 v hv i hi
      · rcases Nat.lt_or_gt_of_ne e with q | q
        · obtain ⟨c, rfl⟩ : ∃ c, a = v + 1 + c := ⟨a - v - 1, by omega⟩
          rw [Nat.mul_add, Nat.mul_add]
          omega
        · obtain ⟨c, rfl⟩ : ∃ c, v = a + 1 + c := ⟨v - a - 1, by omega⟩
          rw [Nat.mul_add, Nat.mul_add]
          omega
theorem add_C {g : Gt} {deg nbr : Nat → Int32} (hn8 : n ≤ 8) (h : GB 7 n g deg nbr) {a b : Nat} (ha : a < n) (hw : ∀ v, v < n → g.1 v ≤ 7) (hw2 : g.1 a < 7) : ∃ u, f_X0_addNeighbor deg nbr (nI a) (nI b) = some u ∧ GB 7 n (addN g a b) u.1 u.2 := by
  refine ⟨(upd deg a (nI (g.1 a + 1)), upd nbr (7 * a + g.1 a) (nI b)), ?_, GB_add (b := b) h ha hw hw2⟩
  unfold f_X0_addNeighbor
  have i1 := inB_n (show a < 8 by omega) (by decide)
  have i2 := inB_n (show 7 * a + g.1 a < 56 by omega) (by decide)
  rw [nI_clamp (show a < 2 ^ 31 by omega), h.1 a ha, slot_n, bnd_s, nI_clamp (show 7 * a + g.1 a < 2 ^ 31 by omega), grd_t i1, grd_t i2, grd_t i1, grd_t i1, nI_add1]
theorem add_M {g : Gt} {tab mdeg : Nat → Int32} (hn8 : n ≤ 8) (h : GB 8 n g mdeg tab) {a b : Nat} (ha : a < n) (hw : ∀ v, v < n → g.1 v ≤ 7) (hw2 : g.1 a < 7) : ∃ u, f_X5_join tab mdeg (nI a) (nI b) = some u ∧ GB 8 n (addN g a b) u.2 u.1 := by
  refine ⟨(upd tab (8 * a + g.1 a) (nI b), upd mdeg a (nI (g.1 a + 1))), ?_, GB_add (b := b) h ha (fun v hv => by have := hw v hv; omega) (by omega)⟩
  unfold f_X5_join
  have i1 := inB_n (show a < 8 by omega) (by decide)
  have i2 := inB_n (show 8 * a + g.1 a < 64 by omega) (by decide)
  rw [nI_clamp (show a < 2 ^ 31 by omega), h.1 a ha, show (8 : Int32) * nI a = nI (8 * a) from pk_mul 8 a, nI_add, nI_clamp (show 8 * a + g.1 a < 2 ^ 31 by omega), grd_t i1, grd_t i2, grd_t i1, grd_t i1, nI_add1]
theorem gst_room (L : LK n m fl sl) (hn8 : n ≤ 8) {k : Nat} (hk : k < m) : (∀ v, v < n → (gst fl sl k).1 v ≤ 7) ∧ (gst fl sl k).1 (fl k) < 7 ∧ (∀ v, v < n → (addN (gst fl sl k) (fl k) (sl k)).1 v ≤ 7) ∧ (addN (gst fl sl k) (fl k) (sl k)).1 (sl k) < 7 := by
  obtain ⟨h1, h2, h3, -⟩ := L k hk
  have a1 : ∀ v, v < n → (gst fl sl k).1 v ≤ 7 := fun v hv => by have := gst_deg L (show k ≤ m by omega) hv; omega
  have b1 : ∀ v, v < n → (gst fl sl (k + 1)).1 v ≤ 7 := fun v hv => by have := gst_deg L (show k + 1 ≤ m by omega) hv; omega
  have e1 : (addN (gst fl sl k) (fl k) (sl k)).1 (fl k) = (gst fl sl k).1 (fl k) + 1 := by
    show va_up _ _ _ _ = _
    unfold va_up; rw [if_pos rfl]
  have e2 : (addN (gst fl sl k) (fl k) (sl k)).1 (sl k) = (gst fl sl k).1 (sl k) := by
    show va_up _ _ _ _ = _
    unfold va_up; rw [if_neg (fun z => h3 z.symm)]
  have f1 : (gst fl sl (k + 1)).1 (sl k) = (addN (gst fl sl k) (fl k) (sl k)).1 (sl k) + 1 := by
    show va_up _ _ _ _ = _
    unfold va_up; rw [if_pos rfl]
  have f2 : ∀ v, v ≠ sl k → (gst fl sl (k + 1)).1 v = (addN (gst fl sl k) (fl k) (sl k)).1 v := by
    intro v hv
    show va_up _ _ _ _ = _
    unfold va_up; rw [if_neg hv]
  have g1 := b1 (fl k) h1
  have g2 := b1 (sl k) h2
  rw [f2 (fl k) h3, e1] at g1
  rw [f1] at g2
  refine ⟨a1, by omega, fun v hv => ?_, by omega⟩
  by_cases q : v = sl k
  · rw [q]; omega
  · rw [← f2 v q]; exact b1 v hv
theorem zero_loop {z : Nat} (hz : z ≤ 64) (dst : Nat → Int32) {body : Int32 × (Nat → Int32) → Option ((Int32 × (Nat → Int32)) ⊕ (Nat → Int32))} (hb : ∀ st, body st = if nI z ≤ st.1 then some (.inr st.2) else grd (inB st.1 z = true) <| some (.inl (st.1 + 1, upd st.2 st.1.toNatClampNeg 0))) (hN : z < N) : ∃ u, iter body N (0, dst) = some u ∧ ∀ j, j < z → u j = 0 := by
  refine iter_for (body := body) z (fun i st => st.1 = nI i ∧ ∀ j, j < i → st.2 j = 0) (fun u => ∀ j, j < z → u j = 0) ?_ ?_ hN ⟨rfl, fun j h => absurd h (by omega)⟩
  · rintro i ⟨x, g⟩ hi ⟨e, h⟩
    dsimp only at e h
    subst e
    refine ⟨(nI (i + 1), upd g i 0), ?_, rfl, fun j hj => ?_⟩
    · rw [hb]
      dsimp only
      rw [if_neg (nI_ge hi (by omega)), grd_t (inB_n hi (by omega)), nI_clamp (by omega), nI_1]
    · show upd g i 0 j = 0
      by_cases e : j = i
      · rw [e, upd_at]
      · rw [upd_ne _ _ e]; exact h j (by omega)
  · rintro ⟨x, g⟩ ⟨e, h⟩
    dsimp only at e h
    subst e
    refine ⟨g, ?_, h⟩
    rw [hb]
    dsimp only
    rw [if_pos (nI_le (Nat.le_refl z) (by omega))]
theorem build_C (L : LK n m fl sl) (hn : 2 ≤ n) (hn8 : n ≤ 8) (hm1 : 1 ≤ m) (hm : m ≤ 12) (hf0 : f 0 = nI (48 + n)) (hf : ∀ k, k < m → f (3 * k + 2) = nI (48 + fl k) ∧ f (3 * k + 3) = nI (48 + sl k)) (hN : 64 < N) (nodes links : Int32) (deg nbr : Nat → Int32) : ∃ u, f_X0_build N nodes links deg nbr (nI (3 * m + 1)) f = some u ∧ u.1 = nI n ∧ u.2.1 = nI m ∧ GB 7 n (gst fl sl m) u.2.2.1 u.2.2.2 := by
  obtain ⟨u1, g1, g2⟩ := zero_loop (z := 8) (by omega) deg (body := b_X0_build_18) (fun st => rfl) (N := N) (by omega)
  obtain ⟨u2, g3, g4⟩ := iter_for (body := b_X0_build_39 (nI m) f) m (fun k st => st.1 = nI k ∧ GB 7 n (gst fl sl k) st.2.1 st.2.2) (fun u => GB 7 n (gst fl sl m) u.1 u.2) (by
    rintro k ⟨s1, s2, s3⟩ hk ⟨e1, hI⟩
    dsimp only at e1 hI
    subst e1
    obtain ⟨p1, p2⟩ := first_n hf hm hk
    obtain ⟨l1, l2, -, -⟩ := L k hk
    obtain ⟨r1, r2, r3, r4⟩ := gst_room L hn8 hk
    obtain ⟨u, h1, h2⟩ := add_C hn8 hI l1 r1 r2 (b := sl k)
    obtain ⟨v, h3, h4⟩ := add_C hn8 h2 l2 r3 r4 (b := fl k)
    refine ⟨(nI (k + 1), v.1, v.2), ?_, rfl, h4⟩
    unfold b_X0_build_39
    simp only [if_neg (nI_ge hk (show m < 2 ^ 31 by omega)), p1, p2, bnd_s, h1, h3, nI_1]) (by
    rintro ⟨s1, s2, s3⟩ ⟨e1, hI⟩
    dsimp only at e1 hI
    subst e1
    refine ⟨(s2, s3), ?_, hI⟩
    unfold b_X0_build_39
    rw [if_pos (nI_le (Nat.le_refl m) (by omega))]) (N := N) (by omega) (s := ((0 : Int32), u1, nbr)) ⟨rfl, fun v hv => g2 v (by omega), fun v hv i hi => absurd hi (Nat.not_lt_zero _)⟩
  unfold f_X0_build f_X1_nodes f_X1_links
  simp only [hf0, c48, links_n hm1 hm, bnd_s, g1, g3]
  exact ⟨_, rfl, rfl, rfl, g4⟩
theorem build_M (L : LK n m fl sl) (hn : 2 ≤ n) (hn8 : n ≤ 8) (hm1 : 1 ≤ m) (hm : m ≤ 12) (hf : ∀ k, k < m → f (3 * k + 2) = nI (48 + fl k) ∧ f (3 * k + 3) = nI (48 + sl k)) (hN : 64 < N) (tab mdeg : Nat → Int32) (hz : ∀ v, v < 8 → mdeg v = 0) : ∃ u, iter (b_X5_load_117 (nI (3 * m + 1)) f) N (2, tab, mdeg) = some u ∧ GB 8 n (gst fl sl m) u.2 u.1 := by
  refine iter_for (body := b_X5_load_117 (nI (3 * m + 1)) f) m (fun k st => st.1 = nI (3 * k + 2) ∧ GB 8 n (gst fl sl k) st.2.2 st.2.1) (fun u => GB 8 n (gst fl sl m) u.2 u.1) ?_ ?_ (by omega) ⟨rfl, fun v hv => hz v (by omega), fun v hv i hi => absurd hi (Nat.not_lt_zero _)⟩
  · rintro k ⟨s1, s2, s3⟩ hk ⟨e1, hI⟩
    dsimp only at e1 hI
    subst e1
    obtain ⟨l1, l2, -, -⟩ := L k hk
    obtain ⟨r1, r2, r3, r4⟩ := gst_room L hn8 hk
    obtain ⟨u, h1, h2⟩ := add_M hn8 hI l1 r1 r2 (b := sl k)
    obtain ⟨v, h3, h4⟩ := add_M hn8 h2 l2 r3 r4 (b := fl k)
    have e3 : nI (3 * k + 2) + 3 = nI (3 * (k + 1) + 2) := (nI_add _ 3).trans (by rw [show 3 * k + 2 + 3 = 3 * (k + 1) + 2 by omega])
    refine ⟨(nI (3 * (k + 1) + 2), v.1, v.2), ?_, rfl, h4⟩
    unfold b_X5_load_117
    simp only [if_neg (nI_ge (show 3 * k + 2 < 3 * m + 1 by omega) (show 3 * m + 1 < 2 ^ 31 by omega)), nI_add1, nI_clamp (show 3 * k + 2 < 2 ^ 31 by omega), nI_clamp (show 3 * k + 2 + 1 < 2 ^ 31 by omega), grd_t (inB_n (show 3 * k + 2 < 40 by omega) (by decide)), grd_t (inB_n (show 3 * k + 2 + 1 < 40 by omega) (by decide)), (hf k hk).1, show f (3 * k + 2 + 1) = nI (48 + sl k) from (hf k hk).2, c48, h1, h3, bnd_s, e3]
  · rintro ⟨s1, s2, s3⟩ ⟨e1, hI⟩
    dsimp only at e1 hI
    subst e1
    refine ⟨(s2, s3), ?_, hI⟩
    unfold b_X5_load_117
    rw [if_pos (nI_le (by omega) (by omega))]
theorem reset_C (hN : 64 < N) (wk : Int32) (rot arv dep : Nat → Int32) : ∃ u, f_X3_reset N wk rot arv dep = some u ∧ u.1 = 0 ∧ (∀ v, v < 8 → u.2.1 v = 0 ∧ u.2.2.1 v = 0) ∧ ∀ j, j < 56 → u.2.2.2 j = 0 := by
  obtain ⟨u1, g1, g2⟩ := iter_for (body := b_X3_reset_2) 8 (fun i st => st.1 = nI i ∧ ∀ v, v < i → st.2.1 v = 0 ∧ st.2.2 v = 0) (fun u => ∀ v, v < 8 → u.1 v = 0 ∧ u.2 v = 0) (by
    rintro i ⟨s1, s2, s3⟩ hi ⟨e1, hI⟩
    dsimp only at e1 hI
    subst e1
    refine ⟨(nI (i + 1), upd s2 i 0, upd s3 i 0), ?_, rfl, fun v hv => ?_⟩
    · unfold b_X3_reset_2
      dsimp only
      rw [if_neg (show ¬ (8 : Int32) ≤ nI i from nI_ge (b := 8) hi (by decide)), grd_t (inB_n hi (by decide)), grd_t (inB_n hi (by decide)), nI_clamp (by omega), nI_1]
    · show upd s2 i 0 v = 0 ∧ upd s3 i 0 v = 0
      by_cases e : v = i
      · rw [e, upd_at, upd_at]; exact ⟨rfl, rfl⟩
      · rw [upd_ne _ _ e, upd_ne _ _ e]; exact hI v (by omega)) (by
    rintro ⟨s1, s2, s3⟩ ⟨e1, hI⟩
    dsimp only at e1 hI
    subst e1
    refine ⟨(s2, s3), ?_, hI⟩
    unfold b_X3_reset_2
    rw [if_pos (show (8 : Int32) ≤ nI 8 by decide)]) (N := N) (by omega) (s := ((0 : Int32), rot, arv)) ⟨rfl, fun v h => absurd h (by omega)⟩
  obtain ⟨u2, g3, g4⟩ := zero_loop (z := 56) (by omega) dep (body := b_X3_reset_30) (fun st => rfl) (N := N) (by omega)
  unfold f_X3_reset
  simp only [g1, g3, bnd_s]
  exact ⟨_, rfl, rfl, g2, g4⟩
theorem reset_M (hN : 64 < N) (mdeg mrot marr mdep : Nat → Int32) : ∃ u, iter (b_X5_load_66) N ((0 : Int32), mdeg, mrot, marr, mdep) = some u ∧ (∀ v, v < 8 → u.1 v = 0 ∧ u.2.1 v = 0 ∧ u.2.2.1 v = 0) ∧ ∀ j, j < 64 → u.2.2.2 j = 0 := by
  obtain ⟨u1, g1, g2, g3⟩ := iter_for (body := b_X5_load_66) 64 (fun i st => st.1 = nI i ∧ (∀ v, v < 8 → v < i → st.2.1 v = 0 ∧ st.2.2.1 v = 0 ∧ st.2.2.2.1 v = 0) ∧ ∀ j, j < i → st.2.2.2.2 j = 0) (fun u => (∀ v, v < 8 → v < 64 → u.1 v = 0 ∧ u.2.1 v = 0 ∧ u.2.2.1 v = 0) ∧ ∀ j, j < 64 → u.2.2.2 j = 0) (by
    rintro i ⟨s1, s2, s3, s4, s5⟩ hi ⟨e1, hI, hJ⟩
    dsimp only at e1 hI hJ
    subst e1
    have hrm : nI i - nI i / (8 : Int32) * (8 : Int32) = nI (i % 8) := pk_rem (d := 8) (by omega) (by decide) (by decide)
    refine ⟨(nI (i + 1), upd s2 (i % 8) 0, upd s3 (i % 8) 0, upd s4 (i % 8) 0, upd s5 i 0), ?_, rfl, fun v hv hvi => ?_, fun j hj => ?_⟩
    · unfold b_X5_load_66
      dsimp only
      rw [if_neg (show ¬ (64 : Int32) ≤ nI i from nI_ge (b := 64) hi (by decide)), hrm, nI_clamp (show i % 8 < 2 ^ 31 by omega), grd_t (inB_n hi (by decide)), grd_t (inB_n (show i % 8 < 8 by omega) (by decide)), grd_t (inB_n (show i % 8 < 8 by omega) (by decide)), grd_t (inB_n (show i % 8 < 8 by omega) (by decide)), nI_clamp (by omega), nI_1]
    · show upd s2 (i % 8) 0 v = 0 ∧ upd s3 (i % 8) 0 v = 0 ∧ upd s4 (i % 8) 0 v = 0
      by_cases e : v = i % 8
      · rw [e, upd_at, upd_at, upd_at]; exact ⟨rfl, rfl, rfl⟩
      · rw [upd_ne _ _ e, upd_ne _ _ e, upd_ne _ _ e]; exact hI v hv (by omega)
    · show upd s5 i 0 j = 0
      by_cases e : j = i
      · rw [e, upd_at]
      · rw [upd_ne _ _ e]; exact hJ j (by omega)) (by
    rintro ⟨s1, s2, s3, s4, s5⟩ ⟨e1, hI, hJ⟩
    dsimp only at e1 hI hJ
    subst e1
    refine ⟨(s2, s3, s4, s5), ?_, hI, hJ⟩
    unfold b_X5_load_66
    rw [if_pos (show (64 : Int32) ≤ nI 64 by decide)]) (N := N) (by omega) (s := ((0 : Int32), mdeg, mrot, marr, mdep)) ⟨rfl, fun v _ h => absurd h (by omega), fun v h => absurd h (by omega)⟩
  exact ⟨u1, g1, fun v hv => g2 v hv (by omega), g3⟩
/-- complete, or not, on both sides -/
theorem complete_both {q : Nat} (hq : q ≤ 40) (hN : 40 < N) : (f_X1_isComplete N (nI q) f = some 0 ∧ ∀ (x : Option (Int32 × Int32 × Int32 × Int32 × Int32 × Int32 × (Nat → Int32) × (Nat → Int32) × (Nat → Int32) × (Nat → Int32) × (Nat → Int32))) (y : Option (Int32 × Int32 × Int32 × Int32 × Int32 × Int32 × (Nat → Int32) × (Nat → Int32) × (Nat → Int32) × (Nat → Int32) × (Nat → Int32))), (if nI q < (4 : Int32) then x else (if (nI q - nI q / (3 : Int32) * (3 : Int32)) = (1 : Int32) then (f_X5_rightLength N (nI q) f).bind fun u15 => (if u15 < nI q then x else y) else x)) = x) ∨ (∃ m, 1 ≤ m ∧ q = 3 * m + 1 ∧ (∀ j, j < q → okAt f j) ∧ f_X1_isComplete N (nI q) f = some 1 ∧ ∀ (x : Option (Int32 × Int32 × Int32 × Int32 × Int32 × Int32 × (Nat → Int32) × (Nat → Int32) × (Nat → Int32) × (Nat → Int32) × (Nat → Int32))) (y : Option (Int32 × Int32 × Int32 × Int32 × Int32 × Int32 × (Nat → Int32) × (Nat → Int32) × (Nat → Int32) × (Nat → Int32) × (Nat → Int32))), (if nI q < (4 : Int32) then x else (if (nI q - nI q / (3 : Int32) * (3 : Int32)) = (1 : Int32) then (f_X5_rightLength N (nI q) f).bind fun u15 => (if u15 < nI q then x else y) else x)) = y) := by
  obtain ⟨t, h1, h2, h3, h4, h5⟩ := broken_both (f := f) hN hq
  have hrm : nI q - nI q / (3 : Int32) * (3 : Int32) = nI (q % 3) := pk_rem (d := 3) (by omega) (by decide) (by decide)
  unfold f_X1_isComplete
  simp only [hrm, h4, h5, bnd_s]
  by_cases c1 : q ≤ 2
  · left
    rw [if_pos (show nI q ≤ (2 : Int32) from nI_le (b := 2) c1 (by decide))]
    exact ⟨rfl, fun x y => by rw [if_pos (show nI q < (4 : Int32) from nI_lt (b := 4) (by omega) (by decide))]⟩
  · have hpl : f_X1_placeInGroup (nI q - (1 : Int32)) = some (nI ((q - 3) % 3)) := by
      unfold f_X1_placeInGroup
      rw [nI_sub1 (by omega), show nI (q - 1) - (2 : Int32) = nI (q - 3) from (pk_sub (b := 2) (by omega)).trans (by rw [show q - 1 - 2 = q - 3 by omega])]
      exact congrArg some (pk_rem (d := 3) (by omega) (by decide) (by decide))
    rw [if_neg (show ¬ nI q ≤ (2 : Int32) from nI_ge (a := 2) (by omega) (by omega)), hpl, bnd_s]
    by_cases c2 : q % 3 = 1
    · have e1 : nI ((q - 3) % 3) = (1 : Int32) := by rw [show (q - 3) % 3 = 1 by omega]; rfl
      have e2 : nI (q % 3) = (1 : Int32) := by rw [c2]; rfl
      have e3 : ¬ nI q < (4 : Int32) := nI_nlt (b := 4) (by omega) (by omega)
      simp only [if_pos e1, if_pos e2, if_neg e3]
      by_cases c3 : t = q
      · right
        subst c3
        refine ⟨t / 3, by omega, by omega, h2, by rw [if_pos rfl], fun x y => by rw [if_neg (nI_nlt (Nat.le_refl t) (by omega))]⟩
      · left
        rw [if_neg (fun z => c3 ((nI_eq (by omega) (by omega)).mp z))]
        exact ⟨rfl, fun x y => by rw [if_pos (nI_lt (by omega) (by omega))]⟩
    · left
      have e1 : ¬ nI ((q - 3) % 3) = (1 : Int32) := fun z => c2 (by have := (nI_eq (by omega) (b := 1) (by decide)).mp z; omega)
      have e2 : ¬ nI (q % 3) = (1 : Int32) := fun z => c2 ((nI_eq (by omega) (b := 1) (by decide)).mp z)
      rw [if_neg e1]
      refine ⟨rfl, fun x y => ?_⟩
      rw [if_neg e2]
      by_cases c4 : nI q < (4 : Int32)
      · rw [if_pos c4]
      · rw [if_neg c4]
end LD
theorem st_load : St_load LInv FUEL := by
  intro hask len codes nodes links deg nbr wk rot arv dep pos wkK rotK arvK depK posK node prot nodeA protA tri bst chs nxt mlen mnodes mlinks mwk bcode hass kwk hsh buf tab mdeg mrot plc marr mdep fsr snr chn aft krot kplc karr kdep y1 y2 y3 hI
  have hI0 := hI
  obtain ⟨⟨rfl, rfl, q, hq, rfl⟩, hR⟩ := hI
  unfold f_X4_load f_X5_load
  rcases complete_both (f := buf) hq (N := FUEL) (by decide) with ⟨a1, a2⟩ | ⟨m, hm1, hqm, hok, a1, a2⟩
  · rw [a1, a2]
    exact ⟨_, _, rfl, rfl, rfl, ⟨rfl, rfl, q, hq, rfl⟩, hR⟩
  · rw [a1, a2, bnd_s, if_neg i10]
    subst hqm
    obtain ⟨n, n2, n8, m12, hf0, L, hf⟩ := parse hm1 hq hok
    have hcc := conn_C L n2 n8 hm1 m12 hf0 hf (N := FUEL) (by decide)
    have hcm := conn_M L n2 n8 hm1 m12 hf0 hf (N := FUEL) (by decide)
    have hre := rounds_eq L (by omega) n8
    by_cases c : mR (fL buf) (sL buf) m 8 = 2 ^ n - 1
    · rw [if_pos (hre.mpr c)] at hcc
      rw [if_pos c] at hcm
      have G := gst_GR L n2 n8 m12 c
      obtain ⟨u1, p1, p2, p3, p4⟩ := build_C L n2 n8 hm1 m12 hf0 hf (N := FUEL) (by decide) nodes links deg nbr
      obtain ⟨u2, q1, q2, q3, q4⟩ := reset_C (N := FUEL) (by decide) wk rot arv dep
      obtain ⟨v1, r1, r2, r3⟩ := reset_M (N := FUEL) (by decide) mdeg mrot marr mdep
      obtain ⟨v2, s1, s2⟩ := build_M L n2 n8 hm1 m12 hf (N := FUEL) (by decide) tab v1.1 (fun v hv => (r2 v hv).1)
      simp only [hcc, hcm, bnd_s, if_neg i10, p1, q1, r1, s1, hf0, c48, links_n hm1 m12]
      refine ⟨_, _, rfl, rfl, p2, ⟨rfl, rfl, 0, by omega, rfl⟩, rfl, n, m, (gst (fL buf) (sL buf) m).1, (gst (fL buf) (sL buf) m).2, Or.inr G, ⟨p2, p3, p4.1, p4.2⟩, ⟨rfl, rfl, s2.1, s2.2⟩, ⟨0, ((fun _ => 0, fun _ => 0), fun _ => 0, fun _ _ => 0), by omega, ⟨fun w h => absurd h (by omega), fun v hv => (G.2.2.2.1 v hv).1⟩, ⟨q2, fun v hv => (q3 v (by omega)).1, fun v hv => (q3 v (by omega)).2, fun v hv i hi => ?_, fun w h => absurd h (by omega)⟩, ⟨rfl, fun v hv => (r2 v (by omega)).2.1, fun v hv => (r2 v (by omega)).2.2, fun v hv i hi => ?_, fun w h => absurd h (by omega)⟩⟩, Or.inl rfl⟩
      · have := (G.2.2.2.1 v hv).2
        exact q4 _ (by omega)
      · have := (G.2.2.2.1 v hv).2
        exact r3 _ (by omega)
    · rw [if_neg (fun z => c (hre.mp z))] at hcc
      rw [if_neg c] at hcm
      simp only [hcc, hcm, bnd_s, if_true]
      exact ⟨_, _, rfl, rfl, rfl, ⟨rfl, rfl, _, hq, rfl⟩, hR⟩
