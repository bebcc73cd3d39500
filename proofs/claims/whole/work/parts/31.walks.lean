/-! rotor walks on a graph: degrees d, neighbours nb, n nodes, m links -/
/-- how many links lead from v to w -/
def gA (d : Nat → Nat) (nb : Nat → Nat → Nat) (v w : Nat) : Nat := sm (fun i => if nb v i = w then 1 else 0) (d v)
/-- the graphs that are loaded -/
def GR (n m : Nat) (d : Nat → Nat) (nb : Nat → Nat → Nat) : Prop :=
  2 ≤ n ∧ n ≤ 8 ∧ m ≤ 12 ∧ (∀ v, v < n → 1 ≤ d v ∧ d v ≤ 7) ∧ (∀ v, v < n → ∀ i, i < d v → nb v i < n) ∧ sm d n = 2 * m ∧ (∀ w, w < n → sm (fun v => gA d nb v w) n = d w) ∧ (∀ v w, v < n → w < n → 0 < gA d nb v w → 0 < gA d nb w v) ∧ (∀ S : Nat → Prop, (∃ v, v < n ∧ S v) → (∀ v, v < n → S v → ∀ i, i < d v → S (nb v i)) → ∀ v, v < n → S v)
abbrev Cf : Type := Nat × (Nat → Nat)
/-- a rotor turned on -/
def turn (d : Nat → Nat) (v r : Nat) : Nat := if r + 1 = d v then 0 else r + 1
def stp (d : Nat → Nat) (nb : Nat → Nat → Nat) (c : Cf) : Cf := (nb c.1 (c.2 c.1), va_up c.2 c.1 (turn d c.1 (c.2 c.1)))
def run (d : Nat → Nat) (nb : Nat → Nat → Nat) (c : Cf) : Nat → Cf
  | 0 => c
  | t + 1 => stp d nb (run d nb c t)
def vld (n : Nat) (d : Nat → Nat) (c : Cf) : Prop := c.1 < n ∧ ∀ v, v < n → c.2 v < d v
/-- how often x is v before time t -/
def outc (x : Nat → Nat) (v t : Nat) : Nat := sm (fun i => if x i = v then 1 else 0) t
/-- how often the first q turns of v's rotor, from r on, lead to w -/
def hits (d : Nat → Nat) (nb : Nat → Nat → Nat) (v r q w : Nat) : Nat := sm (fun k => if nb v ((r + k) % d v) = w then 1 else 0) q
theorem turn_mod {d : Nat → Nat} {v r : Nat} (h : r < d v) : turn d v r = (r + 1) % d v := by
  unfold turn
  by_cases h2 : r + 1 = d v
  · rw [if_pos h2, h2, Nat.mod_self]
  · rw [if_neg h2, Nat.mod_eq_of_lt (by omega)]
theorem hits_mono {d : Nat → Nat} {nb : Nat → Nat → Nat} {v r q q' w : Nat} (h : q ≤ q') : hits d nb v r q w ≤ hits d nb v r q' w := sm_mono _ h
theorem hits_full {d : Nat → Nat} {nb : Nat → Nat → Nat} {v r w : Nat} (h : 0 < d v) : hits d nb v r (d v) w = gA d nb v w := sm_turn (fun i => if nb v i = w then 1 else 0) h r
theorem hits_mul {d : Nat → Nat} {nb : Nat → Nat → Nat} {v r w : Nat} (h : 0 < d v) (k : Nat) : hits d nb v r (k * d v) w = k * gA d nb v w := by
  induction k with
  | zero => simp [hits, sm]
  | succ k ih =>
    rw [Nat.succ_mul, Nat.succ_mul, ← ih]
    have h1 : hits d nb v r (k * d v + d v) w = hits d nb v r (k * d v) w + sm (fun i => if nb v ((r + (k * d v + i)) % d v) = w then 1 else 0) (d v) := sm_app _ _ _
    rw [h1, ← hits_full (r := r) h]
    congr 1
    refine sm_congr (fun i hi => ?_)
    rw [show r + (k * d v + i) = r + i + d v * k by rw [Nat.mul_comm]; omega, Nat.add_mul_mod_self_left]
theorem hits_le {d : Nat → Nat} {nb : Nat → Nat → Nat} {v r q w : Nat} (h : 0 < d v) (hq : q ≤ d v) : hits d nb v r q w ≤ gA d nb v w := by
  rw [← hits_full (r := r) h]
  exact hits_mono hq
theorem outc_succ (x : Nat → Nat) (v t : Nat) : outc x v (t + 1) = outc x v t + if x t = v then 1 else 0 := rfl
theorem outc_sum {x : Nat → Nat} {n : Nat} (t : Nat) (h : ∀ i, i < t → x i < n) : sm (fun v => outc x v t) n = t := by
  induction t with
  | zero => exact (sm_congr (fun i _ => rfl)).trans (sm_zero n)
  | succ t ih =>
    have h1 : sm (fun v => outc x v (t + 1)) n = sm (fun v => outc x v t + if v = x t then 1 else 0) n := sm_congr (fun i _ => by
      rw [outc_succ]
      by_cases q : x t = i
      · rw [if_pos q, if_pos q.symm]
      · rw [if_neg q, if_neg (fun e => q e.symm)])
    rw [h1, sm_upd _ 1 (h t (by omega)), ih (fun i hi => h i (by omega))]
/-- arrivals counted by the rotors' turns -/
theorem inn_eq {d : Nat → Nat} {nb : Nat → Nat → Nat} {x r0 : Nat → Nat} {n : Nat} (w t : Nat) (h : ∀ i, i < t → x i < n) : sm (fun i => if nb (x i) ((r0 (x i) + outc x (x i) i) % d (x i)) = w then 1 else 0) t = sm (fun u => hits d nb u (r0 u) (outc x u t) w) n := by
  induction t with
  | zero => exact ((sm_congr (fun i _ => rfl)).trans (sm_zero n)).symm
  | succ t ih =>
    have h1 : sm (fun u => hits d nb u (r0 u) (outc x u (t + 1)) w) n = sm (fun u => hits d nb u (r0 u) (outc x u t) w + if u = x t then (if nb (x t) ((r0 (x t) + outc x (x t) t) % d (x t)) = w then 1 else 0) else 0) n := sm_congr (fun u _ => by
      rw [outc_succ]
      by_cases q : x t = u
      · subst q; rw [if_pos rfl, if_pos rfl]; rfl
      · rw [if_neg q, if_neg (fun e => q e.symm)]; rfl)
    rw [h1, sm_upd _ _ (h t (by omega)), ← ih (fun i hi => h i (by omega))]
    rfl
section RW
variable {n m : Nat} {d : Nat → Nat} {nb : Nat → Nat → Nat}
theorem run_add (c : Cf) (a b : Nat) : run d nb (run d nb c a) b = run d nb c (a + b) := by
  induction b with
  | zero => rfl
  | succ b ih => show stp d nb (run d nb (run d nb c a) b) = stp d nb (run d nb c (a + b)); rw [ih]
theorem run_vld (G : GR n m d nb) {c : Cf} (h : vld n d c) (t : Nat) : vld n d (run d nb c t) := by
  induction t with
  | zero => exact h
  | succ t ih =>
    obtain ⟨-, -, -, hd, hn, -⟩ := G
    obtain ⟨h1, h2⟩ := ih
    refine ⟨hn _ h1 _ (h2 _ h1), fun v hv => ?_⟩
    show va_up _ _ _ v < d v
    unfold va_up
    by_cases q : v = (run d nb c t).1
    · rw [if_pos q, q]
      unfold turn
      have := hd _ h1
      have := h2 _ h1
      by_cases q2 : (run d nb c t).2 (run d nb c t).1 + 1 = d (run d nb c t).1
      · rw [if_pos q2]; omega
      · rw [if_neg q2]; omega
    · rw [if_neg q]; exact h2 v hv
/-- rotors by counts -/
theorem run_rot (G : GR n m d nb) {c : Cf} (h : vld n d c) (t : Nat) : ∀ v, v < n → (run d nb c t).2 v = (c.2 v + outc (fun i => (run d nb c i).1) v t) % d v := by
  induction t with
  | zero => intro v hv; exact (Nat.mod_eq_of_lt (h.2 v hv)).symm
  | succ t ih =>
    intro v hv
    have hvt := run_vld G h t
    show va_up _ _ _ v = _
    unfold va_up
    rw [outc_succ]
    by_cases q : v = (run d nb c t).1
    · rw [if_pos q, if_pos q.symm, ← q, turn_mod (hvt.2 v hv), ih v hv, Nat.mod_add_mod, Nat.add_assoc]
    · rw [if_neg q, if_neg (fun e => q e.symm), ih v hv, Nat.add_zero]
theorem run_out (c : Cf) (hc : vld n d c) (G : GR n m d nb) (t : Nat) : ∀ v, ¬ v < n → (run d nb c t).2 v = c.2 v := by
  induction t with
  | zero => intro v _; rfl
  | succ t ih =>
    intro v hv
    show va_up _ _ _ v = _
    unfold va_up
    rw [if_neg (fun e => hv (by rw [e]; exact (run_vld G hc t).1)), ih v hv]
theorem run_next (G : GR n m d nb) {c : Cf} (h : vld n d c) (t : Nat) : (run d nb c (t + 1)).1 = nb (run d nb c t).1 ((c.2 (run d nb c t).1 + outc (fun i => (run d nb c i).1) (run d nb c t).1 t) % d (run d nb c t).1) := by
  show nb _ _ = _
  rw [run_rot G h t _ (run_vld G h t).1]
/-- what comes to w and what leaves it -/
theorem flow (G : GR n m d nb) {c : Cf} (h : vld n d c) (w t : Nat) : sm (fun u => hits d nb u (c.2 u) (outc (fun i => (run d nb c i).1) u t) w) n + (if c.1 = w then 1 else 0) = outc (fun i => (run d nb c i).1) w t + if (run d nb c t).1 = w then 1 else 0 := by
  rw [← inn_eq (x := fun i => (run d nb c i).1) (r0 := c.2) w t (fun i _ => (run_vld G h i).1)]
  induction t with
  | zero => rfl
  | succ t ih =>
    rw [outc_succ]
    have h1 := run_next G h t
    simp only [sm]
    rw [← h1]
    omega
/-- from any start: the first node to be left once too often is the start itself -/
theorem phase (G : GR n m d nb) {c : Cf} (h : vld n d c) : ∃ L, 1 ≤ L ∧ L ≤ 2 * m ∧ (run d nb c L).1 = c.1 ∧ outc (fun i => (run d nb c i).1) c.1 L = d c.1 ∧ ∀ v, v < n → outc (fun i => (run d nb c i).1) v L ≤ d v := by
  obtain ⟨-, -, -, hd, -, hsum, hin, -, -⟩ := id G
  have key : ∀ t, (∀ s, s < t → ¬ outc (fun i => (run d nb c i).1) (run d nb c s).1 s = d (run d nb c s).1) → ∀ v, v < n → outc (fun i => (run d nb c i).1) v t ≤ d v := by
    intro t
    induction t with
    | zero => intro _ v _; exact Nat.zero_le _
    | succ t ih =>
      intro h1 v hv
      have h2 := ih (fun s hs => h1 s (by omega)) v hv
      rw [outc_succ]
      by_cases q : (run d nb c t).1 = v
      · have h3 := h1 t (by omega)
        rw [q] at h3
        rw [if_pos q]; omega
      · rw [if_neg q]; omega
  have tot : ∀ t, sm (fun v => outc (fun i => (run d nb c i).1) v t) n = t := fun t => outc_sum t (fun i _ => (run_vld G h i).1)
  have ex : ∃ t, outc (fun i => (run d nb c i).1) (run d nb c t).1 t = d (run d nb c t).1 := by
    refine Classical.byContradiction (fun hne => ?_)
    have h1 := key (2 * m + 1) (fun s _ e => hne ⟨s, e⟩)
    have h2 := sm_le h1
    rw [tot, hsum] at h2
    omega
  obtain ⟨t0, ht0⟩ := ex
  obtain ⟨t, -, ht, hmin⟩ := leastP (fun t => outc (fun i => (run d nb c i).1) (run d nb c t).1 t = d (run d nb c t).1) ht0
  have hle := key t hmin
  have hx := (run_vld G h t).1
  have h1 := flow G h (run d nb c t).1 t
  rw [ht, if_pos rfl] at h1
  have h2 : sm (fun u => hits d nb u (c.2 u) (outc (fun i => (run d nb c i).1) u t) (run d nb c t).1) n ≤ sm (fun u => gA d nb u (run d nb c t).1) n := sm_le (fun u hu => hits_le (by have := hd u hu; omega) (hle u hu))
  rw [hin _ hx] at h2
  have hst : c.1 = (run d nb c t).1 := by
    refine Classical.byContradiction (fun q => ?_)
    rw [if_neg q] at h1
    omega
  have hLm : t ≤ 2 * m := by
    have h3 := sm_le hle
    rw [tot, hsum] at h3
    exact h3
  refine ⟨t, ?_, hLm, hst.symm, by rw [hst]; exact ht, hle⟩
  rcases Nat.eq_zero_or_pos t with q | q
  · subst q
    have h3 : d (run d nb c 0).1 = 0 := ht.symm
    have := hd _ hx
    omega
  · exact q
theorem outc_app (c : Cf) (v a b : Nat) : outc (fun i => (run d nb c i).1) v (a + b) = outc (fun i => (run d nb c i).1) v a + outc (fun i => (run d nb (run d nb c a) i).1) v b := by
  unfold outc
  rw [sm_app]
  congr 1
  exact sm_congr (fun i _ => by simp only [run_add])
theorem phases (G : GR n m d nb) {c : Cf} (h : vld n d c) (j : Nat) : ∃ T, T ≤ 2 * m * j ∧ (run d nb c T).1 = c.1 ∧ outc (fun i => (run d nb c i).1) c.1 T = j * d c.1 := by
  induction j with
  | zero => exact ⟨0, by omega, rfl, by rw [Nat.zero_mul]; rfl⟩
  | succ j ih =>
    obtain ⟨T, h1, h2, h3⟩ := ih
    obtain ⟨L, -, h4, h5, h6, -⟩ := phase G (run_vld G h T)
    refine ⟨T + L, by rw [Nat.mul_succ]; omega, by rw [← run_add, h5, h2], ?_⟩
    rw [outc_app, h3, Nat.succ_mul]
    rw [h2] at h6
    rw [h6]
/-- a start that comes again comes again after two steps a link -/
theorem euler (G : GR n m d nb) {c : Cf} (h : vld n d c) {P : Nat} (hP : 1 ≤ P) (hc : run d nb c P = c) : run d nb c (2 * m) = c := by
  obtain ⟨hn2, -, -, hd, hnb, hsum, hin, hsym, hcon⟩ := id G
  have tot : ∀ t, sm (fun v => outc (fun i => (run d nb c i).1) v t) n = t := fun t => outc_sum t (fun i _ => (run_vld G h i).1)
  -- whole turns
  have hK : ∀ v, v < n → outc (fun i => (run d nb c i).1) v P = outc (fun i => (run d nb c i).1) v P / d v * d v := by
    intro v hv
    have h1 := run_rot G h P v hv
    rw [hc] at h1
    have h2 := h.2 v hv
    have h3 : outc (fun i => (run d nb c i).1) v P % d v = 0 := by
      generalize outc (fun i => (run d nb c i).1) v P = o at h1
      rw [Nat.add_mod, Nat.mod_eq_of_lt h2] at h1
      have h5 : o % d v < d v := Nat.mod_lt _ (by omega)
      rcases Nat.lt_or_ge (c.2 v + o % d v) (d v) with q | q
      · rw [Nat.mod_eq_of_lt q] at h1; omega
      · rw [Nat.mod_eq_sub_mod q, Nat.mod_eq_of_lt (by omega)] at h1; omega
    have h4 := Nat.div_add_mod (outc (fun i => (run d nb c i).1) v P) (d v)
    rw [h3, Nat.mul_comm] at h4
    omega
  generalize hKd : (fun v => outc (fun i => (run d nb c i).1) v P / d v) = K at hK
  have hK : ∀ v, v < n → outc (fun i => (run d nb c i).1) v P = K v * d v := fun v hv => by rw [← hKd]; exact hK v hv
  have hfl : ∀ w, w < n → sm (fun u => K u * gA d nb u w) n = K w * d w := by
    intro w hw
    have h1 := flow G h w P
    rw [hc, hK w hw] at h1
    rw [show sm (fun u => K u * gA d nb u w) n = sm (fun u => hits d nb u (c.2 u) (outc (fun i => (run d nb c i).1) u P) w) n from sm_congr (fun u hu => by rw [hK u hu, hits_mul (by have := hd u hu; omega)])]
    omega
  -- the least
  obtain ⟨k0, -, ⟨w0, hw0, hk0⟩, hmin⟩ := leastP (fun k => ∃ w, w < n ∧ K w = k) (b := K 0) ⟨0, by omega, rfl⟩
  have hge : ∀ v, v < n → k0 ≤ K v := fun v hv => by
    rcases Nat.lt_or_ge (K v) k0 with q | q
    · exact absurd ⟨v, hv, rfl⟩ (hmin _ q)
    · exact q
  have hall : ∀ v, v < n → K v = k0 := by
    refine hcon (fun w => K w = k0) ⟨w0, hw0, hk0⟩ ?_
    intro w hw hkw i hi
    have hu := hnb w hw i hi
    have h1 := hfl w hw
    rw [hkw, ← hin w hw, ← sm_mul] at h1
    have h2 := sm_tight (f := fun u => k0 * gA d nb u w) (g := fun u => K u * gA d nb u w) (fun u hu => Nat.mul_le_mul_right _ (hge u hu)) (by rw [h1]; exact Nat.le_refl _) (nb w i) hu
    have h3 : 0 < gA d nb (nb w i) w := hsym w _ hw hu (by
      have h4 : (if nb w i = nb w i then 1 else 0) ≤ gA d nb w (nb w i) := sm_term (f := fun j => if nb w j = nb w i then 1 else 0) hi
      rw [if_pos rfl] at h4
      exact h4)
    exact (Nat.eq_of_mul_eq_mul_right h3 h2).symm
  have hPk : P = 2 * m * k0 := by
    have h1 := tot P
    rw [show sm (fun v => outc (fun i => (run d nb c i).1) v P) n = sm (fun v => k0 * d v) n from sm_congr (fun v hv => by rw [hK v hv, hall v hv]), sm_mul, hsum, Nat.mul_comm] at h1
    exact h1.symm
  have hk1 : 1 ≤ k0 := by
    rcases Nat.eq_zero_or_pos k0 with q | q
    · rw [q] at hPk; omega
    · exact q
  obtain ⟨L, hL1, hL2, hL3, hL4, hL5⟩ := phase G h
  have hLm : L = 2 * m := by
    refine Classical.byContradiction (fun hne => ?_)
    obtain ⟨T, t1, t2, t3⟩ := phases G (run_vld G h L) (k0 - 1)
    have e1 : outc (fun i => (run d nb c i).1) c.1 (L + T) = k0 * d c.1 := by
      rw [outc_app, hL4]
      rw [hL3] at t3
      rw [t3]
      obtain ⟨j, rfl⟩ : ∃ j, k0 = j + 1 := ⟨k0 - 1, by omega⟩
      rw [Nat.add_sub_cancel, Nat.succ_mul, Nat.add_comm]
    have e2 : (run d nb c (L + T)).1 = c.1 := by rw [← run_add, t2, hL3]
    have e3 : L + T < P := by
      rw [hPk]
      obtain ⟨j, rfl⟩ : ∃ j, k0 = j + 1 := ⟨k0 - 1, by omega⟩
      rw [Nat.add_sub_cancel] at t1
      rw [Nat.mul_succ]; omega
    have e4 := hK c.1 h.1
    rw [hall c.1 h.1] at e4
    have e5 : outc (fun i => (run d nb c i).1) c.1 (L + T + 1) ≤ outc (fun i => (run d nb c i).1) c.1 P := sm_mono _ e3
    rw [outc_succ, if_pos e2, e1, e4] at e5
    omega
  rw [← hLm]
  have hf := sm_tight hL5 (by rw [tot, hsum, hLm]; exact Nat.le_refl _)
  refine Prod.ext hL3 (funext fun v => ?_)
  by_cases hv : v < n
  · rw [run_rot G h L v hv, hf v hv, Nat.add_mod_right, Nat.mod_eq_of_lt (h.2 v hv)]
  · exact run_out c h G L v hv
/-- the number of rotor settings -/
def prd (d : Nat → Nat) : Nat → Nat
  | 0 => 1
  | k + 1 => prd d k * d k
/-- a setting's number, node 0 first -/
def enc (d r : Nat → Nat) : Nat → Nat
  | 0 => 0
  | k + 1 => enc d r k * d k + r k
theorem enc_lt {d r : Nat → Nat} {k : Nat} (h : ∀ v, v < k → r v < d v) : enc d r k < prd d k := by
  induction k with
  | zero => exact Nat.one_pos
  | succ k ih =>
    have h1 := ih (fun v hv => h v (by omega))
    have h2 := h k (by omega)
    have h3 : (enc d r k + 1) * d k ≤ prd d k * d k := Nat.mul_le_mul_right _ h1
    simp only [enc, prd]
    rw [Nat.succ_mul] at h3
    omega
theorem enc_inj {d r r' : Nat → Nat} {k : Nat} (h : ∀ v, v < k → r v < d v) (h' : ∀ v, v < k → r' v < d v) (he : enc d r k = enc d r' k) : ∀ v, v < k → r v = r' v := by
  induction k with
  | zero => intro v hv; omega
  | succ k ih =>
    simp only [enc] at he
    have h1 := h k (by omega)
    have h2 := h' k (by omega)
    have h3 : r k = r' k := by
      have e1 : (enc d r k * d k + r k) % d k = r k := by rw [Nat.mul_comm, Nat.mul_add_mod, Nat.mod_eq_of_lt h1]
      have e2 : (enc d r' k * d k + r' k) % d k = r' k := by rw [Nat.mul_comm, Nat.mul_add_mod, Nat.mod_eq_of_lt h2]
      rw [← e1, he, e2]
    have h4 : enc d r k = enc d r' k := by
      rw [h3] at he
      exact Nat.eq_of_mul_eq_mul_right (show 0 < d k by omega) (by omega)
    intro v hv
    by_cases q : v = k
    · rw [q]; exact h3
    · exact ih (fun v hv => h v (by omega)) (fun v hv => h' v (by omega)) h4 v (by omega)
theorem prd_pos {d : Nat → Nat} {k : Nat} (h : ∀ v, v < k → 1 ≤ d v) : 1 ≤ prd d k := by
  induction k with
  | zero => exact Nat.le_refl _
  | succ k ih =>
    simp only [prd]
    exact Nat.mul_pos (ih (fun v hv => h v (by omega))) (h k (by omega))
theorem prd_cube {d : Nat → Nat} {k : Nat} (h : ∀ v, v < k → d v ≤ 7) : prd d k * prd d k * prd d k ≤ 3 ^ sm d k := by
  induction k with
  | zero => exact Nat.le_refl _
  | succ k ih =>
    have h1 := ih (fun v hv => h v (by omega))
    have h2 : d k * d k * d k ≤ 3 ^ d k := by
      have h3 := h k (by omega)
      generalize d k = q at h3
      have : ∀ q, q < 8 → q * q * q ≤ 3 ^ q := by decide
      exact this q (by omega)
    simp only [prd, sm]
    rw [Nat.pow_add]
    calc prd d k * d k * (prd d k * d k) * (prd d k * d k) = (prd d k * prd d k * prd d k) * (d k * d k * d k) := by
          simp only [Nat.mul_assoc, Nat.mul_left_comm, Nat.mul_comm]
      _ ≤ 3 ^ sm d k * 3 ^ d k := Nat.mul_le_mul h1 h2
theorem prd_le (G : GR n m d nb) : prd d n ≤ 6561 := by
  obtain ⟨-, -, hm, hd, -, hs, -⟩ := G
  have h1 := prd_cube (k := n) (fun v hv => (hd v hv).2)
  rw [hs] at h1
  have h2 : 3 ^ (2 * m) ≤ 3 ^ 24 := Nat.pow_le_pow_right (by decide) (by omega)
  rcases Nat.lt_or_ge 6561 (prd d n) with q | q
  · have h3 : 6562 * 6562 * 6562 ≤ prd d n * prd d n * prd d n := Nat.mul_le_mul (Nat.mul_le_mul q q) q
    have h4 : (3 : Nat) ^ 24 = 282429536481 := by decide
    have h5 : 6562 * 6562 * 6562 = 282558696328 := by decide
    omega
  · exact q
/-- the number of places and settings bounds every walk -/
def SB : Nat := 52488
theorem again (G : GR n m d nb) {c : Cf} (h : vld n d c) : ∃ i j, i < j ∧ j ≤ SB ∧ run d nb c i = run d nb c j := by
  have hb := prd_le G
  obtain ⟨hn2, hn8, -⟩ := id G
  have hv := fun t => run_vld G h t
  obtain ⟨i, j, h1, h2, h3⟩ := pigeon (prd d n * n) (fun t => enc d (run d nb c t).2 n * n + (run d nb c t).1) (fun t _ => by
    have h4 := enc_lt (hv t).2
    have h5 := (hv t).1
    have h6 : (enc d (run d nb c t).2 n + 1) * n ≤ prd d n * n := Nat.mul_le_mul_right _ h4
    rw [Nat.succ_mul] at h6
    show enc d (run d nb c t).2 n * n + (run d nb c t).1 < prd d n * n
    omega)
  have h3 : enc d (run d nb c i).2 n * n + (run d nb c i).1 = enc d (run d nb c j).2 n * n + (run d nb c j).1 := h3
  refine ⟨i, j, h1, ?_, ?_⟩
  · have h4 : prd d n * n ≤ 6561 * 8 := Nat.mul_le_mul hb hn8
    unfold SB; omega
  · have e1 : (run d nb c i).1 = (run d nb c j).1 := by
      have q1 := (hv i).1
      have q2 := (hv j).1
      have e1 : (enc d (run d nb c i).2 n * n + (run d nb c i).1) % n = (run d nb c i).1 := by rw [Nat.mul_comm, Nat.mul_add_mod, Nat.mod_eq_of_lt q1]
      have e2 : (enc d (run d nb c j).2 n * n + (run d nb c j).1) % n = (run d nb c j).1 := by rw [Nat.mul_comm, Nat.mul_add_mod, Nat.mod_eq_of_lt q2]
      rw [← e1, h3, e2]
    have e2 : enc d (run d nb c i).2 n = enc d (run d nb c j).2 n := by
      rw [e1] at h3
      exact Nat.eq_of_mul_eq_mul_right (show 0 < n by omega) (by omega)
    refine Prod.ext e1 (funext fun v => ?_)
    by_cases q : v < n
    · exact enc_inj (hv i).2 (hv j).2 e2 v q
    · rw [run_out c h G i v q, run_out c h G j v q]
/-- the final cycle is entered -/
theorem cycle_in (G : GR n m d nb) {c : Cf} (h : vld n d c) : ∃ t, t ≤ SB ∧ run d nb c t = run d nb c (t + 2 * m) := by
  obtain ⟨i, j, h1, h2, h3⟩ := again G h
  refine ⟨i, by omega, ?_⟩
  rw [← run_add]
  refine (euler G (run_vld G h i) (P := j - i) (by omega) ?_).symm
  rw [run_add, show i + (j - i) = j by omega, h3]
/-- every node is reached -/
theorem reach (G : GR n m d nb) {c : Cf} (h : vld n d c) : ∀ v, v < n → ∃ t, t ≤ SB ∧ (run d nb c t).1 = v := by
  obtain ⟨i, j, h1, h2, h3⟩ := again G h
  obtain ⟨-, -, -, hd, hnb, -, -, -, hcon⟩ := id G
  have hv := run_vld G h i
  have hc : run d nb (run d nb c i) (j - i) = run d nb c i := by rw [run_add, show i + (j - i) = j by omega, h3]
  have key : ∀ v, v < n → ∃ t, t < j - i ∧ (run d nb (run d nb c i) t).1 = v := by
    refine hcon (fun v => ∃ t, t < j - i ∧ (run d nb (run d nb c i) t).1 = v) ⟨_, hv.1, 0, by omega, rfl⟩ ?_
    intro v hvn hS k hk
    obtain ⟨t, t1, t2⟩ := hS
    have o1 : 1 ≤ outc (fun i_1 => (run d nb (run d nb c i) i_1).1) v (j - i) := by
      have q := sm_term (f := fun i_1 => if (run d nb (run d nb c i) i_1).1 = v then 1 else 0) t1
      simp only [t2, if_true] at q
      exact q
    have o2 : outc (fun i_1 => (run d nb (run d nb c i) i_1).1) v (j - i) % d v = 0 := by
      have r1 := run_rot G hv (j - i) v hvn
      rw [hc] at r1
      have r2 := hv.2 v hvn
      generalize outc (fun i_1 => (run d nb (run d nb c i) i_1).1) v (j - i) = o at r1
      rw [Nat.add_mod, Nat.mod_eq_of_lt r2] at r1
      have h5 : o % d v < d v := Nat.mod_lt _ (by omega)
      rcases Nat.lt_or_ge ((run d nb c i).2 v + o % d v) (d v) with q | q
      · rw [Nat.mod_eq_of_lt q] at r1; omega
      · rw [Nat.mod_eq_sub_mod q, Nat.mod_eq_of_lt (by omega)] at r1; omega
    have o3 : d v ≤ outc (fun i_1 => (run d nb (run d nb c i) i_1).1) v (j - i) := Nat.le_of_dvd o1 (Nat.dvd_of_mod_eq_zero o2)
    have hd1 := (hd v hvn).1
    have f1 : 1 ≤ hits d nb v ((run d nb c i).2 v) (outc (fun i_1 => (run d nb (run d nb c i) i_1).1) v (j - i)) (nb v k) := by
      refine Nat.le_trans ?_ (hits_mono o3)
      rw [hits_full (by omega)]
      have h4 : (if nb v k = nb v k then 1 else 0) ≤ gA d nb v (nb v k) := sm_term (f := fun j => if nb v j = nb v k then 1 else 0) hk
      rw [if_pos rfl] at h4
      exact h4
    have f2 : 1 ≤ sm (fun u => hits d nb u ((run d nb c i).2 u) (outc (fun i_1 => (run d nb (run d nb c i) i_1).1) u (j - i)) (nb v k)) n := Nat.le_trans f1 (sm_term (f := fun u => hits d nb u ((run d nb c i).2 u) (outc (fun i_1 => (run d nb (run d nb c i) i_1).1) u (j - i)) (nb v k)) hvn)
    have f3 := flow G hv (nb v k) (j - i)
    rw [hc] at f3
    have f4 : 0 < outc (fun i_1 => (run d nb (run d nb c i) i_1).1) (nb v k) (j - i) := by omega
    obtain ⟨t', g1, g2⟩ := sm_pos f4
    refine ⟨t', g1, ?_⟩
    refine Classical.byContradiction (fun q => ?_)
    simp only [if_neg q] at g2
    omega
  intro v hvn
  obtain ⟨t, t1, t2⟩ := key v hvn
  exact ⟨i + t, by omega, by rw [← run_add]; exact t2⟩
end RW
