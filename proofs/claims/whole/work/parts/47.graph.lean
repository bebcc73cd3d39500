/-! the graph that the links make -/
abbrev Gt : Type := (Nat → Nat) × (Nat → Nat → Nat)
def addN (g : Gt) (a b : Nat) : Gt := (va_up g.1 a (g.1 a + 1), va_up g.2 a (va_up (g.2 a) (g.1 a) b))
def gst (fl sl : Nat → Nat) : Nat → Gt
  | 0 => (fun _ => 0, fun _ _ => 0)
  | k + 1 => addN (addN (gst fl sl k) (fl k) (sl k)) (sl k) (fl k)
def LK (n m : Nat) (fl sl : Nat → Nat) : Prop := ∀ k, k < m → fl k < n ∧ sl k < n ∧ fl k ≠ sl k ∧ ∀ j, j < k → ¬ (fl j = fl k ∧ sl j = sl k) ∧ ¬ (fl j = sl k ∧ sl j = fl k)
def cnt (fl sl : Nat → Nat) (k v w : Nat) : Nat := sm (fun j => (if fl j = v ∧ sl j = w then 1 else 0) + if sl j = v ∧ fl j = w then 1 else 0) k
theorem gA_add (g : Gt) (a b v w : Nat) : gA (addN g a b).1 (addN g a b).2 v w = gA g.1 g.2 v w + if a = v ∧ b = w then 1 else 0 := by
  unfold gA addN
  dsimp only
  by_cases e : a = v
  · subst e
    have h1 : va_up g.1 a (g.1 a + 1) a = g.1 a + 1 := by unfold va_up; rw [if_pos rfl]
    have h2 : ∀ i, va_up g.2 a (va_up (g.2 a) (g.1 a) b) a i = va_up (g.2 a) (g.1 a) b i := by intro i; unfold va_up; rw [if_pos rfl]
    rw [h1]
    show sm _ (g.1 a) + _ = _
    congr 1
    · refine sm_congr (fun i hi => ?_)
      have : va_up (g.2 a) (g.1 a) b i = g.2 a i := by unfold va_up; rw [if_neg (by omega)]
      simp only [h2, this]
    · have : va_up (g.2 a) (g.1 a) b (g.1 a) = b := by unfold va_up; rw [if_pos rfl]
      simp only [h2, this, true_and]
  · have h1 : va_up g.1 a (g.1 a + 1) v = g.1 v := by unfold va_up; rw [if_neg (fun z => e z.symm)]
    have h2 : va_up g.2 a (va_up (g.2 a) (g.1 a) b) v = g.2 v := by unfold va_up; rw [if_neg (fun z => e z.symm)]
    rw [h1, if_neg (fun z => e z.1)]
    simp only [h2]
    rfl
theorem gA_cnt (fl sl : Nat → Nat) (k v w : Nat) : gA (gst fl sl k).1 (gst fl sl k).2 v w = cnt fl sl k v w := by
  induction k with
  | zero => rfl
  | succ k ih =>
    show gA (addN (addN (gst fl sl k) (fl k) (sl k)) (sl k) (fl k)).1 (addN (addN (gst fl sl k) (fl k) (sl k)) (sl k) (fl k)).2 v w = _
    rw [gA_add, gA_add, ih]
    unfold cnt
    simp only [sm]
    omega
theorem cnt_sym (fl sl : Nat → Nat) (k v w : Nat) : cnt fl sl k v w = cnt fl sl k w v := by
  unfold cnt
  refine sm_congr (fun j _ => ?_)
  by_cases h1 : fl j = v ∧ sl j = w <;> by_cases h2 : sl j = v ∧ fl j = w
  · have e : v = w := h1.1.symm.trans h2.2
    subst e; rfl
  · simp only [if_pos h1, if_neg h2, if_pos (show sl j = w ∧ fl j = v from ⟨h1.2, h1.1⟩), if_neg (fun z : fl j = w ∧ sl j = v => h2 ⟨z.2, z.1⟩)]
  · simp only [if_neg h1, if_pos h2, if_neg (fun z : sl j = w ∧ fl j = v => h1 ⟨z.2, z.1⟩), if_pos (show fl j = w ∧ sl j = v from ⟨h2.2, h2.1⟩)]
  · simp only [if_neg h1, if_neg h2, if_neg (fun z : sl j = w ∧ fl j = v => h1 ⟨z.2, z.1⟩), if_neg (fun z : fl j = w ∧ sl j = v => h2 ⟨z.2, z.1⟩)]
theorem sm_le1 {f : Nat → Nat} {k : Nat} (h1 : ∀ j, j < k → f j ≤ 1) (h2 : ∀ i j, i < j → j < k → 0 < f i → 0 < f j → False) : sm f k ≤ 1 := by
  induction k with
  | zero => exact Nat.zero_le _
  | succ k ih =>
    simp only [sm]
    have a1 := ih (fun j hj => h1 j (by omega)) (fun i j hi hj => h2 i j hi (by omega))
    have a2 := h1 k (by omega)
    rcases Nat.eq_zero_or_pos (f k) with z | z
    · omega
    · rcases Nat.eq_zero_or_pos (sm f k) with z2 | z2
      · omega
      · obtain ⟨i, hi, hf⟩ := sm_pos z2
        exact (h2 i k hi (by omega) hf z).elim
section GB
variable {n m : Nat} {fl sl : Nat → Nat}
theorem cnt_le1 (L : LK n m fl sl) {k : Nat} (hk : k ≤ m) (v w : Nat) : cnt fl sl k v w ≤ 1 := by
  unfold cnt
  have pos : ∀ j, 0 < (if fl j = v ∧ sl j = w then 1 else 0) + (if sl j = v ∧ fl j = w then 1 else 0) → (fl j = v ∧ sl j = w) ∨ (sl j = v ∧ fl j = w) := by
    intro j h
    by_cases h1 : fl j = v ∧ sl j = w
    · exact Or.inl h1
    · by_cases h2 : sl j = v ∧ fl j = w
      · exact Or.inr h2
      · rw [if_neg h1, if_neg h2] at h; omega
  refine sm_le1 (fun j hj => ?_) (fun i j hi hj p q => ?_)
  · obtain ⟨-, -, h3, -⟩ := L j (by omega)
    by_cases h1 : fl j = v ∧ sl j = w
    · have h2 : ¬ (sl j = v ∧ fl j = w) := fun z => h3 (by rw [h1.1, z.1])
      rw [if_pos h1, if_neg h2]; exact Nat.le_refl _
    · rw [if_neg h1]
      by_cases h2 : sl j = v ∧ fl j = w
      · rw [if_pos h2]; exact Nat.le_refl _
      · rw [if_neg h2]; exact Nat.zero_le _
  · obtain ⟨-, -, -, h4⟩ := L j (by omega)
    obtain ⟨h5, h6⟩ := h4 i hi
    rcases pos i p with ⟨a1, a2⟩ | ⟨a1, a2⟩ <;> rcases pos j q with ⟨b1, b2⟩ | ⟨b1, b2⟩
    · exact h5 ⟨by rw [a1, b1], by rw [a2, b2]⟩
    · exact h6 ⟨by rw [a1, b1], by rw [a2, b2]⟩
    · exact h6 ⟨by rw [a2, b2], by rw [a1, b1]⟩
    · exact h5 ⟨by rw [a2, b2], by rw [a1, b1]⟩
theorem cnt_self (L : LK n m fl sl) {k : Nat} (hk : k ≤ m) (v : Nat) : cnt fl sl k v v = 0 := by
  unfold cnt
  refine (sm_congr (fun j hj => ?_)).trans (sm_zero k)
  obtain ⟨-, -, h3, -⟩ := L j (by omega)
  rw [if_neg (fun z => h3 (by rw [z.1, z.2])), if_neg (fun z => h3 (by rw [z.1, z.2]))]
theorem addN_in {g : Gt} {a b : Nat} (hb : b < n) (h : ∀ v i, i < g.1 v → g.2 v i < n) : ∀ v i, i < (addN g a b).1 v → (addN g a b).2 v i < n := by
  intro v i hi
  unfold addN at hi ⊢
  dsimp only at hi ⊢
  unfold va_up at hi ⊢
  by_cases e : v = a
  · subst e
    rw [if_pos rfl] at hi ⊢
    by_cases q : i = g.1 v
    · rw [if_pos q]; exact hb
    · rw [if_neg q]; exact h v i (by omega)
  · rw [if_neg e] at hi ⊢; exact h v i hi
theorem gst_in (L : LK n m fl sl) {k : Nat} (hk : k ≤ m) : ∀ v i, i < (gst fl sl k).1 v → (gst fl sl k).2 v i < n := by
  induction k with
  | zero => intro v i hi; exact absurd hi (Nat.not_lt_zero _)
  | succ k ih =>
    obtain ⟨h1, h2, -, -⟩ := L k (by omega)
    exact addN_in h1 (addN_in h2 (ih (by omega)))
theorem gst_sum (L : LK n m fl sl) {k : Nat} (hk : k ≤ m) : sm (gst fl sl k).1 n = 2 * k := by
  induction k with
  | zero => exact sm_zero n
  | succ k ih =>
    obtain ⟨h1, h2, -, -⟩ := L k (by omega)
    show sm (va_up (addN (gst fl sl k) (fl k) (sl k)).1 (sl k) _) n = _
    rw [odo_sum h2]
    show sm (va_up (gst fl sl k).1 (fl k) _) n + 1 = _
    rw [odo_sum h1, ih (by omega)]
    omega
theorem deg_sum {d : Nat → Nat} {nb : Nat → Nat → Nat} {v : Nat} (h : ∀ i, i < d v → nb v i < n) : sm (fun w => gA d nb v w) n = d v := by
  unfold gA
  rw [sm_swap (fun w i => if nb v i = w then 1 else 0) n (d v)]
  rw [show sm (fun i => sm (fun w => if nb v i = w then 1 else 0) n) (d v) = sm (fun _ => 1) (d v) from sm_congr (fun i hi => by
    rw [show sm (fun w => if nb v i = w then 1 else 0) n = sm (fun w => if w = nb v i then 1 else 0) n from sm_congr (fun w _ => by
      by_cases e : nb v i = w
      · rw [if_pos e, if_pos e.symm]
      · rw [if_neg e, if_neg (fun z => e z.symm)]), sm_one, if_pos (h i hi)]), sm_const]
  omega
theorem gst_deg (L : LK n m fl sl) {k : Nat} (hk : k ≤ m) {v : Nat} (hv : v < n) : (gst fl sl k).1 v + 1 ≤ n := by
  rw [← deg_sum (n := n) (fun i hi => gst_in L hk v i hi)]
  have h1 : sm (fun w => gA (gst fl sl k).1 (gst fl sl k).2 v w + if w = v then 1 else 0) n ≤ sm (fun _ => 1) n := sm_le (fun w hw => by
    rw [gA_cnt]
    by_cases e : w = v
    · rw [e, cnt_self L hk, if_pos rfl]; exact Nat.le_refl _
    · rw [if_neg e]; exact cnt_le1 L hk v w)
  rw [sm_upd (fun w => gA (gst fl sl k).1 (gst fl sl k).2 v w) 1 hv, sm_const] at h1
  omega
end GB
/-! which nodes are reached -/
def eM (fl sl : Nat → Nat) (k : Nat) : Nat := 2 ^ fl k ||| 2 ^ sl k
def ms (fl sl : Nat → Nat) (R : Nat) : Nat → Nat
  | 0 => R
  | k + 1 => if ms fl sl R k &&& eM fl sl k = 0 then ms fl sl R k else ms fl sl R k ||| eM fl sl k
def mR (fl sl : Nat → Nat) (m : Nat) : Nat → Nat
  | 0 => 1
  | t + 1 => ms fl sl (mR fl sl m t) m
section CN
variable {n m : Nat} {fl sl : Nat → Nat}
theorem eM_bit (k v : Nat) : (eM fl sl k).testBit v = true ↔ fl k = v ∨ sl k = v := by
  unfold eM
  rw [Nat.testBit_or, Nat.testBit_two_pow, Nat.testBit_two_pow, Bool.or_eq_true, decide_eq_true_iff, decide_eq_true_iff]
theorem ms_mono {R v : Nat} (h : R.testBit v = true) (k : Nat) : (ms fl sl R k).testBit v = true := by
  induction k with
  | zero => exact h
  | succ k ih =>
    unfold ms
    by_cases c : ms fl sl R k &&& eM fl sl k = 0
    · rw [if_pos c]; exact ih
    · rw [if_neg c, Nat.testBit_or, ih]; rfl
theorem ms_in {R : Nat} (T : Nat → Prop) (hT : ∀ k, k < m → (T (fl k) ↔ T (sl k))) (h : ∀ v, R.testBit v = true → T v) {k : Nat} (hk : k ≤ m) : ∀ v, (ms fl sl R k).testBit v = true → T v := by
  induction k with
  | zero => exact h
  | succ k ih =>
    have ih := ih (by omega)
    intro v hv
    unfold ms at hv
    by_cases c : ms fl sl R k &&& eM fl sl k = 0
    · rw [if_pos c] at hv; exact ih v hv
    · rw [if_neg c, Nat.testBit_or, Bool.or_eq_true, eM_bit] at hv
      rcases hv with hv | hv
      · exact ih v hv
      · obtain ⟨i, hi⟩ := Nat.exists_testBit_of_ne_zero c
        rw [Nat.testBit_and, Bool.and_eq_true, eM_bit] at hi
        have h1 := ih i hi.1
        have h2 := hT k (by omega)
        have hb : T (fl k) ∧ T (sl k) := by
          rcases hi.2 with e | e
          · rw [← e] at h1; exact ⟨h1, h2.mp h1⟩
          · rw [← e] at h1; exact ⟨h2.mpr h1, h1⟩
        rcases hv with e | e
        · rw [← e]; exact hb.1
        · rw [← e]; exact hb.2
theorem mR_in (T : Nat → Prop) (h0 : T 0) (hT : ∀ k, k < m → (T (fl k) ↔ T (sl k))) (t : Nat) : ∀ v, (mR fl sl m t).testBit v = true → T v := by
  induction t with
  | zero =>
    intro v hv
    have hv : (2 ^ 0).testBit v = true := hv
    rw [Nat.testBit_two_pow, decide_eq_true_iff] at hv
    rw [← hv]; exact h0
  | succ t ih => exact ms_in T hT ih (Nat.le_refl m)
theorem mR_lt (L : LK n m fl sl) (hn : 1 ≤ n) (t v : Nat) (h : (mR fl sl m t).testBit v = true) : v < n :=
  mR_in (fun v => v < n) (by omega) (fun k hk => ⟨fun _ => (L k hk).2.1, fun _ => (L k hk).1⟩) t v h
theorem mR_mono {s t v : Nat} (hst : s ≤ t) (h : (mR fl sl m s).testBit v = true) : (mR fl sl m t).testBit v = true := by
  obtain ⟨c, rfl⟩ := Nat.le.dest hst
  clear hst
  induction c with
  | zero => exact h
  | succ c ih => exact ms_mono ih m
theorem mask_eq {n R : Nat} : R = 2 ^ n - 1 ↔ (∀ v, v < n → R.testBit v = true) ∧ ∀ v, R.testBit v = true → v < n := by
  constructor
  · rintro rfl
    refine ⟨fun v hv => ?_, fun v hv => ?_⟩
    · rw [Nat.testBit_two_pow_sub_one]; exact decide_eq_true hv
    · rw [Nat.testBit_two_pow_sub_one] at hv; exact of_decide_eq_true hv
  · rintro ⟨h1, h2⟩
    refine Nat.eq_of_testBit_eq (fun v => ?_)
    rw [Nat.testBit_two_pow_sub_one]
    by_cases hv : v < n
    · rw [h1 v hv, decide_eq_true hv]
    · rw [decide_eq_false hv]
      cases hb : R.testBit v with
      | false => rfl
      | true => exact absurd (h2 v hb) hv
def crd (n R : Nat) : Nat := sm (fun v => if R.testBit v = true then 1 else 0) n
/-- n - 1 rounds reach as much as 8 -/
theorem rounds_eq (L : LK n m fl sl) (hn : 1 ≤ n) (hn8 : n ≤ 8) : mR fl sl m (n - 1) = 2 ^ n - 1 ↔ mR fl sl m 8 = 2 ^ n - 1 := by
  have hlt := fun t v => mR_lt L hn t v
  constructor
  · intro h
    rw [mask_eq] at h ⊢
    exact ⟨fun v hv => mR_mono (by omega) (h.1 v hv), hlt 8⟩
  · intro h8
    by_cases hx : ∃ t, t < n - 1 ∧ mR fl sl m (t + 1) = mR fl sl m t
    · obtain ⟨t, h1, h2⟩ := hx
      have hst : ∀ c, mR fl sl m (t + c) = mR fl sl m t := by
        intro c
        induction c with
        | zero => rfl
        | succ c ih =>
          show ms fl sl (mR fl sl m (t + c)) m = _
          rw [ih]; exact h2
      have e1 := hst (n - 1 - t)
      have e2 := hst (8 - t)
      rw [show t + (n - 1 - t) = n - 1 by omega] at e1
      rw [show t + (8 - t) = 8 by omega] at e2
      rw [e1, ← e2]; exact h8
    · have hgrow : ∀ t, t ≤ n - 1 → t + 1 ≤ crd n (mR fl sl m t) := by
        intro t
        induction t with
        | zero =>
          intro _
          have := sm_term (f := fun v => if (1 : Nat).testBit v = true then 1 else 0) (i := 0) (n := n) (by omega)
          exact this
        | succ t ih =>
          intro ht
          have h1 := ih (by omega)
          rcases Nat.lt_or_ge (crd n (mR fl sl m t)) (crd n (mR fl sl m (t + 1))) with q | q
          · omega
          · exfalso
            have h2 := sm_tight (f := fun v => if (mR fl sl m t).testBit v = true then 1 else 0) (g := fun v => if (mR fl sl m (t + 1)).testBit v = true then 1 else 0) (n := n) (fun v _ => by
              by_cases c : (mR fl sl m t).testBit v = true
              · rw [if_pos c, if_pos (mR_mono (by omega) c)]; exact Nat.le_refl _
              · rw [if_neg c]; exact Nat.zero_le _) q
            refine hx ⟨t, by omega, Nat.eq_of_testBit_eq (fun v => ?_)⟩
            cases hb : (mR fl sl m (t + 1)).testBit v with
            | true =>
              have h3 := h2 v (hlt _ v hb)
              by_cases c : (mR fl sl m t).testBit v = true
              · exact c.symm
              · rw [if_neg c, if_pos hb] at h3; omega
            | false =>
              cases hc : (mR fl sl m t).testBit v with
              | false => rfl
              | true => rw [mR_mono (by omega) hc] at hb; cases hb
      have h1 := hgrow (n - 1) (Nat.le_refl _)
      rw [mask_eq]
      refine ⟨fun v hv => ?_, hlt _⟩
      have h2 := sm_tight (f := fun v => if (mR fl sl m (n - 1)).testBit v = true then 1 else 0) (g := fun _ => 1) (n := n) (fun v _ => by
        by_cases c : (mR fl sl m (n - 1)).testBit v = true
        · rw [if_pos c]; exact Nat.le_refl _
        · rw [if_neg c]; exact Nat.zero_le _) (by rw [sm_const]; unfold crd at h1; omega) v hv
      by_cases c : (mR fl sl m (n - 1)).testBit v = true
      · exact c
      · rw [if_neg c] at h2; omega
/-- what is loaded is a graph as GR says -/
theorem gst_GR (L : LK n m fl sl) (hn : 2 ≤ n) (hn8 : n ≤ 8) (hm : m ≤ 12) (hc : mR fl sl m 8 = 2 ^ n - 1) : GR n m (gst fl sl m).1 (gst fl sl m).2 := by
  have hreach : ∀ T : Nat → Prop, T 0 → (∀ k, k < m → (T (fl k) ↔ T (sl k))) → ∀ v, v < n → T v := by
    intro T h0 hT v hv
    refine mR_in T h0 hT 8 v ?_
    rw [mask_eq] at hc
    exact hc.1 v hv
  have hnb : ∀ k, k < m → ∀ v w, (fl k = v ∧ sl k = w) ∨ (sl k = v ∧ fl k = w) → ∃ i, i < (gst fl sl m).1 v ∧ (gst fl sl m).2 v i = w := by
    intro k hk v w h
    have h1 : 0 < gA (gst fl sl m).1 (gst fl sl m).2 v w := by
      rw [gA_cnt]
      refine Nat.lt_of_lt_of_le ?_ (sm_term (f := fun j => (if fl j = v ∧ sl j = w then 1 else 0) + if sl j = v ∧ fl j = w then 1 else 0) hk)
      rcases h with h | h
      · rw [if_pos h]; omega
      · rw [if_pos h]; omega
    obtain ⟨i, h2, h3⟩ := sm_pos h1
    refine ⟨i, h2, ?_⟩
    by_cases c : (gst fl sl m).2 v i = w
    · exact c
    · simp only [if_neg c] at h3; omega
  refine ⟨hn, hn8, hm, fun v hv => ⟨?_, by have := gst_deg L (Nat.le_refl m) hv; omega⟩, fun v hv i hi => gst_in L (Nat.le_refl m) v i hi, gst_sum L (Nat.le_refl m), fun w hw => ?_, fun v w hv hw h => ?_, fun S hS hcl => ?_⟩
  · -- a node without a link isn't reached
    rcases Nat.eq_zero_or_pos ((gst fl sl m).1 v) with z | z
    · exfalso
      have hno : ∀ k, k < m → fl k ≠ v ∧ sl k ≠ v := by
        intro k hk
        refine ⟨fun e => ?_, fun e => ?_⟩
        · obtain ⟨i, hi, -⟩ := hnb k hk v (sl k) (Or.inl ⟨e, rfl⟩)
          omega
        · obtain ⟨i, hi, -⟩ := hnb k hk v (fl k) (Or.inr ⟨e, rfl⟩)
          omega
      by_cases e0 : v = 0
      · have h1 := hreach (fun u => u = v) e0.symm (fun k hk => ⟨fun h => absurd h (hno k hk).1, fun h => absurd h (hno k hk).2⟩)
        have h2 := h1 1 (by omega)
        omega
      · have h1 := hreach (fun u => u ≠ v) (fun z => e0 z.symm) (fun k hk => ⟨fun _ => (hno k hk).2, fun _ => (hno k hk).1⟩) v hv
        exact h1 rfl
    · exact z
  · rw [show sm (fun v => gA (gst fl sl m).1 (gst fl sl m).2 v w) n = sm (fun v => gA (gst fl sl m).1 (gst fl sl m).2 w v) n from sm_congr (fun v _ => by rw [gA_cnt, gA_cnt, cnt_sym])]
    exact deg_sum (fun i hi => gst_in L (Nat.le_refl m) w i hi)
  · rw [gA_cnt, cnt_sym, ← gA_cnt]; exact h
  · have hiff : ∀ k, k < m → (S (fl k) ↔ S (sl k)) := by
      intro k hk
      obtain ⟨l1, l2, -, -⟩ := L k hk
      constructor
      · intro h
        obtain ⟨i, h1, h2⟩ := hnb k hk (fl k) (sl k) (Or.inl ⟨rfl, rfl⟩)
        rw [← h2]; exact hcl _ l1 h i h1
      · intro h
        obtain ⟨i, h1, h2⟩ := hnb k hk (sl k) (fl k) (Or.inr ⟨rfl, rfl⟩)
        rw [← h2]; exact hcl _ l2 h i h1
    by_cases s0 : S 0
    · exact hreach S s0 hiff
    · obtain ⟨v, hv, hs⟩ := hS
      exact absurd hs (hreach (fun u => ¬ S u) s0 (fun k hk => not_congr (hiff k hk)) v hv)
end CN
