/-! several walkers and a sink: no order of moves makes more steps than one walker after the other -/
/-- places of the walkers, rotors -/
abbrev Mf : Type := (Nat → Nat) × (Nat → Nat)
def mv (d : Nat → Nat) (nb : Nat → Nat → Nat) (w : Nat) (s : Mf) : Mf := (va_up s.1 w (nb (s.1 w) (s.2 (s.1 w))), va_up s.2 (s.1 w) (turn d (s.1 w) (s.2 (s.1 w))))
def mvld (n k : Nat) (d : Nat → Nat) (s : Mf) : Prop := (∀ w, w < k → s.1 w < n) ∧ ∀ v, v < n → s.2 v < d v
/-- how many walkers are at v -/
def chips (k : Nat) (ps : Nat → Nat) (v : Nat) : Nat := sm (fun w => if ps w = v then 1 else 0) k
/-- s is what s0 becomes when each node v has been left o v times -/
def odo (n k : Nat) (d : Nat → Nat) (nb : Nat → Nat → Nat) (s0 s : Mf) (o : Nat → Nat) : Prop :=
  (∀ v, v < n → s.2 v = (s0.2 v + o v) % d v) ∧ ∀ w, w < n → chips k s.1 w + o w = chips k s0.1 w + sm (fun u => hits d nb u (s0.2 u) (o u) w) n
section SK
variable {n m k : Nat} {d : Nat → Nat} {nb : Nat → Nat → Nat}
theorem mv_vld (G : GR n m d nb) {s : Mf} (h : mvld n k d s) {w : Nat} (hw : w < k) : mvld n k d (mv d nb w s) := by
  obtain ⟨-, -, -, hd, hn, -⟩ := G
  have h1 := h.1 w hw
  refine ⟨fun q hq => ?_, fun v hv => ?_⟩
  · show va_up _ _ _ q < n
    unfold va_up
    by_cases e : q = w
    · rw [if_pos e]; exact hn _ h1 _ (h.2 _ h1)
    · rw [if_neg e]; exact h.1 q hq
  · show va_up _ _ _ v < d v
    unfold va_up
    by_cases q : v = s.1 w
    · rw [if_pos q, q]
      unfold turn
      have := hd _ h1
      have := h.2 _ h1
      by_cases q2 : s.2 (s.1 w) + 1 = d (s.1 w)
      · rw [if_pos q2]; omega
      · rw [if_neg q2]; omega
    · rw [if_neg q]; exact h.2 v hv
theorem chips_up {ps : Nat → Nat} {w x v : Nat} (hw : w < k) : chips k (va_up ps w x) v + (if ps w = v then 1 else 0) = chips k ps v + if x = v then 1 else 0 := by
  unfold chips
  have h1 : sm (fun q => (if va_up ps w x q = v then 1 else 0) + if q = w then (if ps w = v then 1 else 0) else 0) k = sm (fun q => (if ps q = v then 1 else 0) + if q = w then (if x = v then 1 else 0) else 0) k := sm_congr (fun q _ => by
    unfold va_up
    by_cases e : q = w
    · subst e; simp only [if_true]; omega
    · simp only [if_neg e])
  rw [sm_upd _ _ hw, sm_upd _ _ hw] at h1
  exact h1
theorem odo_0 {s0 : Mf} (h : mvld n k d s0) : odo n k d nb s0 s0 (fun _ => 0) :=
  ⟨fun v hv => (Nat.mod_eq_of_lt (h.2 v hv)).symm, fun w _ => by
    rw [show sm (fun u => hits d nb u (s0.2 u) 0 w) n = 0 from (sm_congr (fun i _ => rfl)).trans (sm_zero n)]⟩
/-- a move counts one -/
theorem odo_mv (G : GR n m d nb) {s0 s : Mf} {o : Nat → Nat} (h0 : mvld n k d s0) (h : mvld n k d s) (ho : odo n k d nb s0 s o) {w : Nat} (hw : w < k) : odo n k d nb s0 (mv d nb w s) (va_up o (s.1 w) (o (s.1 w) + 1)) := by
  have hx := h.1 w hw
  obtain ⟨h1, h2⟩ := ho
  refine ⟨fun v hv => ?_, fun q hq => ?_⟩
  · show va_up _ _ _ v = _
    unfold va_up
    by_cases e : v = s.1 w
    · rw [if_pos e, if_pos e, ← e, turn_mod (h.2 v hv), h1 v hv, Nat.mod_add_mod, Nat.add_assoc]
    · rw [if_neg e, if_neg e]; exact h1 v hv
  · have c1 := chips_up (ps := s.1) (x := nb (s.1 w) (s.2 (s.1 w))) (v := q) hw
    have c2 := h2 q hq
    have c3 : sm (fun u => hits d nb u (s0.2 u) (va_up o (s.1 w) (o (s.1 w) + 1) u) q) n = sm (fun u => hits d nb u (s0.2 u) (o u) q) n + if nb (s.1 w) (s.2 (s.1 w)) = q then 1 else 0 := by
      rw [← sm_upd (fun u => hits d nb u (s0.2 u) (o u) q) (if nb (s.1 w) (s.2 (s.1 w)) = q then 1 else 0) hx]
      refine sm_congr (fun u hu => ?_)
      unfold va_up
      by_cases e : u = s.1 w
      · rw [if_pos e, if_pos e, ← e]
        show hits d nb u (s0.2 u) (o u) q + (if nb u ((s0.2 u + o u) % d u) = q then 1 else 0) = _
        rw [← h1 u hu]
      · rw [if_neg e, if_neg e, Nat.add_zero]
    show chips k (va_up s.1 w _) q + va_up o (s.1 w) (o (s.1 w) + 1) q = _
    rw [c3]
    have c4 : va_up o (s.1 w) (o (s.1 w) + 1) q = o q + if s.1 w = q then 1 else 0 := by
      unfold va_up
      by_cases e : q = s.1 w
      · rw [if_pos e, if_pos e.symm, e]
      · rw [if_neg e, if_neg (fun z => e z.symm)]; rfl
    rw [c4]
    omega
theorem odo_sum {o : Nat → Nat} {v : Nat} (hv : v < n) : sm (va_up o v (o v + 1)) n = sm o n + 1 := by
  rw [← sm_upd o 1 hv]
  refine sm_congr (fun u _ => ?_)
  unfold va_up
  by_cases e : u = v
  · rw [if_pos e, if_pos e, e]
  · rw [if_neg e, if_neg e]; rfl
/-- the least action: what is at rest has been left at least as often -/
theorem least_act (G : GR n m d nb) {s0 s sE : Mf} {o oE : Nat → Nat} {sink w : Nat} (h : mvld n k d s) (ho : odo n k d nb s0 s o) (hE : odo n k d nb s0 sE oE) (hr : ∀ w, w < k → sE.1 w = sink) (hle : ∀ v, v < n → o v ≤ oE v) (hw : w < k) (hs : s.1 w ≠ sink) : ∀ v, v < n → va_up o (s.1 w) (o (s.1 w) + 1) v ≤ oE v := by
  intro v hv
  unfold va_up
  by_cases e : v = s.1 w
  · rw [if_pos e]
    refine Classical.byContradiction (fun q => ?_)
    have hx := h.1 w hw
    have e1 : o (s.1 w) = oE (s.1 w) := by
      have := hle _ hx
      rw [e] at q
      omega
    have a1 := ho.2 _ hx
    have a2 := hE.2 _ hx
    have a3 : sm (fun u => hits d nb u (s0.2 u) (o u) (s.1 w)) n ≤ sm (fun u => hits d nb u (s0.2 u) (oE u) (s.1 w)) n := sm_le (fun u hu => hits_mono (hle u hu))
    have a4 : 1 ≤ chips k s.1 (s.1 w) := by
      have := sm_term (f := fun q => if s.1 q = s.1 w then 1 else 0) hw
      rw [if_pos rfl] at this
      exact this
    have a5 : chips k sE.1 (s.1 w) = 0 := by
      unfold chips
      refine (sm_congr (fun q hq => ?_)).trans (sm_zero k)
      rw [hr q hq, if_neg (fun z => hs z.symm)]
    omega
  · rw [if_neg e]; exact hle v hv
/-- a walker's moves are a walk -/
def mvs (d : Nat → Nat) (nb : Nat → Nat → Nat) (w : Nat) (s : Mf) : Nat → Mf
  | 0 => s
  | t + 1 => mv d nb w (mvs d nb w s t)
theorem mvs_run (s : Mf) (w t : Nat) : ((mvs d nb w s t).1 w, (mvs d nb w s t).2) = run d nb (s.1 w, s.2) t ∧ ∀ q, q ≠ w → (mvs d nb w s t).1 q = s.1 q := by
  induction t with
  | zero => exact ⟨rfl, fun _ _ => rfl⟩
  | succ t ih =>
    refine ⟨?_, fun q hq => ?_⟩
    · show _ = stp d nb (run d nb (s.1 w, s.2) t)
      rw [← ih.1]
      show (va_up _ _ _ w, _) = _
      unfold va_up
      rw [if_pos rfl]
      rfl
    · show va_up _ _ _ q = _
      unfold va_up
      rw [if_neg hq]
      exact ih.2 q hq
theorem mvs_vld (G : GR n m d nb) {s : Mf} (h : mvld n k d s) {w : Nat} (hw : w < k) (t : Nat) : mvld n k d (mvs d nb w s t) := by
  induction t with
  | zero => exact h
  | succ t ih => exact mv_vld G ih hw
/-- the first time that walker w is at the sink -/
theorem mvs_hit (G : GR n m d nb) {s : Mf} (h : mvld n k d s) {w sink : Nat} (hw : w < k) (hs : sink < n) : ∃ t, t ≤ SB ∧ (mvs d nb w s t).1 w = sink ∧ ∀ j, j < t → (mvs d nb w s j).1 w ≠ sink := by
  obtain ⟨b, hb, hb2⟩ := reach G (c := (s.1 w, s.2)) ⟨h.1 w hw, h.2⟩ sink hs
  have e : ∀ t, (mvs d nb w s t).1 w = (run d nb (s.1 w, s.2) t).1 := fun t => congrArg Prod.fst (mvs_run s w t).1
  obtain ⟨t, h1, h2, h3⟩ := leastP (fun t => (mvs d nb w s t).1 w = sink) (b := b) ((e b).trans hb2)
  exact ⟨t, by omega, h2, h3⟩
theorem mvs_odo (G : GR n m d nb) {s0 s : Mf} {o : Nat → Nat} (h0 : mvld n k d s0) (h : mvld n k d s) (ho : odo n k d nb s0 s o) {w : Nat} (hw : w < k) (t : Nat) : ∃ o', odo n k d nb s0 (mvs d nb w s t) o' ∧ sm o' n = sm o n + t := by
  induction t with
  | zero => exact ⟨o, ho, rfl⟩
  | succ t ih =>
    obtain ⟨o', h1, h2⟩ := ih
    have hv := mvs_vld G h hw t
    exact ⟨_, odo_mv G h0 hv h1 hw, by rw [odo_sum (hv.1 w hw), h2]; rfl⟩
/-- one after the other they all come to the sink -/
theorem rest_ex (G : GR n m d nb) {s0 : Mf} (h0 : mvld n k d s0) {sink : Nat} (hs : sink < n) : ∀ j, j ≤ k → ∃ (s : Mf) (o : Nat → Nat), mvld n k d s ∧ odo n k d nb s0 s o ∧ sm o n ≤ j * SB ∧ ∀ w, w < j → s.1 w = sink := by
  intro j
  induction j with
  | zero => intro _; exact ⟨s0, fun _ => 0, h0, odo_0 h0, by rw [sm_zero]; omega, fun w hw => absurd hw (by omega)⟩
  | succ j ih =>
    intro hj
    obtain ⟨s, o, h1, h2, h3, h4⟩ := ih (by omega)
    obtain ⟨t, t1, t2, -⟩ := mvs_hit G h1 (show j < k by omega) hs
    obtain ⟨o', o1, o2⟩ := mvs_odo G h0 h1 h2 (show j < k by omega) t
    refine ⟨_, o', mvs_vld G h1 (show j < k by omega) t, o1, by rw [o2, Nat.succ_mul]; omega, fun w hw => ?_⟩
    by_cases e : w = j
    · rw [e]; exact t2
    · rw [(mvs_run s j t).2 w e]; exact h4 w (by omega)
end SK
