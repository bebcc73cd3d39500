/-! small words for the pure functions -/
theorem grd_t {α : Type} {c : Prop} [Decidable c] (h : c) (x : Option α) : grd c x = x := if_pos h
theorem bnd_s {α β : Type} (u : α) (f : α → Option β) : (some u).bind f = f u := rfl
theorem inB_n {a z : Nat} (h : a < z) (hz : z < 2 ^ 31) : inB (nI a) z = true := by
  unfold inB
  exact decide_eq_true (nI_in h hz)
theorem nI_add1 (a : Nat) : nI a + (1 : Int32) = nI (a + 1) := nI_add a 1
theorem nI_sub1 {a : Nat} (h : 1 ≤ a) : nI a - (1 : Int32) = nI (a - 1) := pk_sub (b := 1) h
theorem nI_mulc (c : Nat) (a : Nat) : nI c * nI a = nI (c * a) := pk_mul c a
/-- loops by an invariant: after at most T rounds it goes out, with P -/
theorem iter_inv {σ ε : Type} {body : σ → Option (σ ⊕ ε)} {T : Nat} (I : Nat → σ → Prop) (P : ε → Prop) (hs : ∀ i s, i ≤ T → I i s → (∃ s', i < T ∧ body s = some (.inl s') ∧ I (i + 1) s') ∨ ∃ e, body s = some (.inr e) ∧ P e) : ∀ N i s, i ≤ T → T < i + N → I i s → ∃ e, iter body N s = some e ∧ P e := by
  intro N
  induction N with
  | zero => intro i s h1 h2; omega
  | succ N ih =>
    intro i s h1 h2 hI
    rcases hs i s h1 hI with ⟨s', h3, h4, h5⟩ | ⟨e, h3, h4⟩
    · obtain ⟨e, h6, h7⟩ := ih (i + 1) s' h3 (by omega) h5
      refine ⟨e, ?_, h7⟩
      unfold iter
      rw [h4]
      exact h6
    · refine ⟨e, ?_, h4⟩
      unfold iter
      rw [h3]
/-- a counted loop: T rounds, then out -/
theorem iter_for {σ ε : Type} {body : σ → Option (σ ⊕ ε)} (T : Nat) (I : Nat → σ → Prop) (P : ε → Prop) (hs : ∀ i s, i < T → I i s → ∃ s', body s = some (.inl s') ∧ I (i + 1) s') (hx : ∀ s, I T s → ∃ e, body s = some (.inr e) ∧ P e) {N : Nat} (hN : T < N) {s : σ} (h0 : I 0 s) : ∃ e, iter body N s = some e ∧ P e := by
  refine iter_inv (T := T) I P (fun i s h1 h2 => ?_) N 0 s (Nat.zero_le _) (by omega) h0
  rcases Nat.lt_or_ge i T with q | q
  · obtain ⟨s', h3, h4⟩ := hs i s q h2
    exact Or.inl ⟨s', q, h3, h4⟩
  · have e : i = T := by omega
    subst e
    exact Or.inr (hx s h2)
theorem upd_at (f : Nat → Int32) (k : Nat) (x : Int32) : upd f k x k = x := pk_us
theorem upd_ne (f : Nat → Int32) {k j : Nat} (x : Int32) (h : j ≠ k) : upd f k x j = f j := pk_un h
theorem cpy_lo {f g : Nat → Int32} {z j : Nat} (h : j < z) : va_cpy f g 0 0 z j = f j := sb_cpy0 h
abbrev FUEL : Nat := 1100000
/-! the graph in the class and in the model -/
def GC (n m : Nat) (d : Nat → Nat) (nb : Nat → Nat → Nat) (nodes links : Int32) (deg nbr : Nat → Int32) : Prop := nodes = nI n ∧ links = nI m ∧ (∀ v, v < n → deg v = nI (d v)) ∧ ∀ v, v < n → ∀ i, i < d v → nbr (7 * v + i) = nI (nb v i)
def GM (n m : Nat) (d : Nat → Nat) (nb : Nat → Nat → Nat) (nodes links : Int32) (deg tab : Nat → Int32) : Prop := nodes = nI n ∧ links = nI m ∧ (∀ v, v < n → deg v = nI (d v)) ∧ ∀ v, v < n → ∀ i, i < d v → tab (8 * v + i) = nI (nb v i)
/-- the state: places, rotors; arrivals; departures -/
abbrev AS : Type := Mf × (Nat → Int32) × (Nat → Nat → Int32)
def CR (n : Nat) (d : Nat → Nat) (k : Nat) (a : AS) (wk : Int32) (rot arv dep pos : Nat → Int32) : Prop := wk = nI k ∧ (∀ v, v < n → rot v = nI (a.1.2 v)) ∧ (∀ v, v < n → arv v = a.2.1 v) ∧ (∀ v, v < n → ∀ i, i < d v → dep (7 * v + i) = a.2.2 v i) ∧ ∀ w, w < k → pos w = nI (a.1.1 w)
def MR (n : Nat) (d : Nat → Nat) (k : Nat) (a : AS) (wk : Int32) (rot arv dep pos : Nat → Int32) : Prop := wk = nI k ∧ (∀ v, v < n → rot v = nI (a.1.2 v)) ∧ (∀ v, v < n → arv v = a.2.1 v) ∧ (∀ v, v < n → ∀ i, i < d v → dep (8 * v + i) = a.2.2 v i) ∧ ∀ w, w < k → pos w = nI (a.1.1 w)
def aMv (d : Nat → Nat) (nb : Nat → Nat → Nat) (w : Nat) (a : AS) : AS :=
  (mv d nb w a.1, va_up a.2.1 (nb (a.1.1 w) (a.1.2 (a.1.1 w))) (a.2.1 (nb (a.1.1 w) (a.1.2 (a.1.1 w))) + 1), va_up a.2.2 (a.1.1 w) (va_up (a.2.2 (a.1.1 w)) (a.1.2 (a.1.1 w)) (a.2.2 (a.1.1 w) (a.1.2 (a.1.1 w)) + 1)))
section BS
variable {n m k : Nat} {d : Nat → Nat} {nb : Nat → Nat → Nat} {nodes links mnodes mlinks wk mwk : Int32} {deg nbr mdeg tab rot arv dep pos mrot plc marr mdep : Nat → Int32} {a : AS}
theorem slot_n (v i : Nat) : f_X0_slot (nI v) (nI i) = some (nI (7 * v + i)) := by
  unfold f_X0_slot
  rw [show nI v * (7 : Int32) = nI (v * 7) from pk_mul v 7, nI_add, Nat.mul_comm v 7]
theorem rotorAfter_n {v r : Nat} (hv : v < 8) (hd : deg v = nI (d v)) (hb : d v < 2 ^ 31) (hr : r + 1 < 2 ^ 31) : f_X0_rotorAfter deg (nI v) (nI r) = some (nI (turn d v r)) := by
  unfold f_X0_rotorAfter turn
  rw [grd_t (inB_n hv (by decide)), nI_clamp (by omega), hd, nI_add1]
  by_cases h : r + 1 = d v
  · rw [if_pos (congrArg nI h), if_pos h]; rfl
  · rw [if_neg (fun e => h ((nI_eq hr hb).mp e)), if_neg h]
/-- a move, in the class -/
theorem move_C (G : GR n m d nb) (hG : GC n m d nb nodes links deg nbr) (hk : k ≤ 4) (ha : mvld n k d a.1) (h : CR n d k a wk rot arv dep pos) {w : Nat} (hw : w < k) : ∃ u, f_X3_move rot arv dep pos deg nbr (nI w) = some u ∧ CR n d k (aMv d nb w a) wk u.1 u.2.1 u.2.2.1 u.2.2.2 := by
  obtain ⟨-, hn8, -, hd, hnb, -⟩ := id G
  obtain ⟨-, -, g3, g4⟩ := hG
  obtain ⟨c1, c2, c3, c4, c5⟩ := h
  have hv := ha.1 w hw
  have hr := ha.2 _ hv
  have hto := hnb _ hv _ hr
  have hd7 := (hd _ hv).2
  obtain ⟨⟨ps, r⟩, av, dv⟩ := a
  dsimp only at hv hr hto hd7 c2 c3 c4 c5 ha ⊢
  have e1 : pos w = nI (ps w) := c5 w hw
  have e2 : rot (ps w) = nI (r (ps w)) := c2 _ hv
  have e3 : nbr (7 * ps w + r (ps w)) = nI (nb (ps w) (r (ps w))) := g4 _ hv _ hr
  refine ⟨(upd rot (ps w) (nI (turn d (ps w) (r (ps w)))), upd arv (nb (ps w) (r (ps w))) (arv (nb (ps w) (r (ps w))) + 1), upd dep (7 * ps w + r (ps w)) (dep (7 * ps w + r (ps w)) + 1), upd pos w (nI (nb (ps w) (r (ps w))))), ?_, ?_⟩
  · unfold f_X3_move
    rw [nI_clamp (show w < 2 ^ 31 by omega), e1, nI_clamp (show ps w < 2 ^ 31 by omega), e2, slot_n, bnd_s, nI_clamp (show 7 * ps w + r (ps w) < 2 ^ 31 by omega), e3, nI_clamp (show nb (ps w) (r (ps w)) < 2 ^ 31 by omega), rotorAfter_n (by omega) (g3 _ hv) (by omega) (by omega), bnd_s]
    have i1 := inB_n (show w < 4 by omega) (by decide)
    have i2 := inB_n (show ps w < 8 by omega) (by decide)
    have i3 := inB_n (show 7 * ps w + r (ps w) < 56 by omega) (by decide)
    have i4 := inB_n (show nb (ps w) (r (ps w)) < 8 by omega) (by decide)
    rw [grd_t i1, grd_t i2, grd_t i3, grd_t i3, grd_t i3, grd_t i4, grd_t i4, grd_t i2, grd_t i2, grd_t i1]
  · refine ⟨c1, fun v hvn => ?_, fun v hvn => ?_, fun v hvn i hi => ?_, fun q hq => ?_⟩
    · show upd _ _ _ v = nI (va_up _ _ _ v)
      unfold va_up
      by_cases e : v = ps w
      · rw [if_pos e, e, upd_at]
      · rw [if_neg e, upd_ne _ _ e]; exact c2 v hvn
    · show upd _ _ _ v = va_up _ _ _ v
      unfold va_up
      by_cases e : v = nb (ps w) (r (ps w))
      · rw [if_pos e, e, upd_at, c3 _ hto]
      · rw [if_neg e, upd_ne _ _ e]; exact c3 v hvn
    · show upd _ _ _ _ = (va_up _ _ _ v : Nat → Int32) i
      have hdv := (hd v hvn).2
      unfold va_up
      by_cases e : v = ps w
      · rw [if_pos e]
        subst e
        by_cases e2 : i = r (ps w)
        · rw [if_pos e2, e2, upd_at, c4 _ hv _ hr]
        · rw [if_neg e2, upd_ne _ _ (by omega)]; exact c4 _ hv i hi
      · rw [if_neg e, upd_ne _ _ (by omega)]; exact c4 v hvn i hi
    · show upd _ _ _ q = nI (va_up _ _ _ q)
      unfold va_up
      by_cases e : q = w
      · rw [if_pos e, e, upd_at]
      · rw [if_neg e, upd_ne _ _ e]; exact c5 q hq
/-- a walk's step, in the model -/
theorem go_n (G : GR n m d nb) (hG : GM n m d nb nodes links mdeg tab) {src : Nat → Int32} {c : Cf} (hc : vld n d c) (hs : ∀ v, v < n → src v = nI (c.2 v)) : f_X5_go tab mdeg src (nI c.1) = some (nI (stp d nb c).1, upd src c.1 (nI (turn d c.1 (c.2 c.1)))) := by
  obtain ⟨-, hn8, -, hd, hnb, -⟩ := id G
  obtain ⟨-, -, g3, g4⟩ := hG
  have hv := hc.1
  have hr := hc.2 _ hv
  have hd7 := hd _ hv
  unfold f_X5_go
  rw [nI_clamp (show c.1 < 2 ^ 31 by omega), hs _ hv, g3 _ hv, show (8 : Int32) * nI c.1 = nI (8 * c.1) from pk_mul 8 c.1, nI_add, nI_clamp (show 8 * c.1 + c.2 c.1 < 2 ^ 31 by omega), nI_add1, pk_rem (by omega) (by omega) (by omega), g4 _ hv _ hr]
  have i2 := inB_n (show c.1 < 8 by omega) (by decide)
  have i3 := inB_n (show 8 * c.1 + c.2 c.1 < 64 by omega) (by decide)
  rw [grd_t i2, grd_t i3, grd_t i2, grd_t i2, grd_t (nI_ne0 (by omega) (by omega)), grd_t i2, turn_mod hr]
  rfl
theorem move_M (G : GR n m d nb) (hG : GM n m d nb nodes links mdeg tab) (hk : k ≤ 4) (ha : mvld n k d a.1) (h : MR n d k a mwk mrot marr mdep plc) {w : Nat} (hw : w < k) : ∃ u, f_X5_stepOnce tab mdeg mrot plc marr mdep (nI w) = some u ∧ MR n d k (aMv d nb w a) mwk u.1 u.2.2.1 u.2.2.2 u.2.1 := by
  obtain ⟨-, hn8, -, hd, hnb, -⟩ := id G
  obtain ⟨c1, c2, c3, c4, c5⟩ := h
  have hv := ha.1 w hw
  have hr := ha.2 _ hv
  have hto := hnb _ hv _ hr
  have hd7 := (hd _ hv).2
  obtain ⟨⟨ps, r⟩, av, dv⟩ := a
  dsimp only at hv hr hto hd7 c2 c3 c4 c5 ha ⊢
  have e1 : plc w = nI (ps w) := c5 w hw
  have e2 : mrot (ps w) = nI (r (ps w)) := c2 _ hv
  have hgo : f_X5_go tab mdeg mrot (nI (ps w)) = some (nI (nb (ps w) (r (ps w))), upd mrot (ps w) (nI (turn d (ps w) (r (ps w))))) := go_n G hG (c := (ps w, r)) ⟨hv, ha.2⟩ (fun v hv => c2 v hv)
  refine ⟨(upd mrot (ps w) (nI (turn d (ps w) (r (ps w)))), upd plc w (nI (nb (ps w) (r (ps w)))), upd marr (nb (ps w) (r (ps w))) (marr (nb (ps w) (r (ps w))) + 1), upd mdep (8 * ps w + r (ps w)) (mdep (8 * ps w + r (ps w)) + 1)), ?_, ?_⟩
  · unfold f_X5_stepOnce
    rw [nI_clamp (show w < 2 ^ 31 by omega), e1, nI_clamp (show ps w < 2 ^ 31 by omega), e2, show (8 : Int32) * nI (ps w) = nI (8 * ps w) from pk_mul 8 (ps w), nI_add, nI_clamp (show 8 * ps w + r (ps w) < 2 ^ 31 by omega), hgo, bnd_s]
    have i1 := inB_n (show w < 4 by omega) (by decide)
    have i2 := inB_n (show ps w < 8 by omega) (by decide)
    have i3 := inB_n (show 8 * ps w + r (ps w) < 64 by omega) (by decide)
    have i4 := inB_n (show nb (ps w) (r (ps w)) < 8 by omega) (by decide)
    rw [grd_t i1, grd_t i2, grd_t i3, grd_t i3, grd_t i1, grd_t i1]
    dsimp only
    rw [upd_at, grd_t i4, grd_t i4, nI_clamp (show nb (ps w) (r (ps w)) < 2 ^ 31 by omega)]
  · refine ⟨c1, fun v hvn => ?_, fun v hvn => ?_, fun v hvn i hi => ?_, fun q hq => ?_⟩
    · show upd _ _ _ v = nI (va_up _ _ _ v)
      unfold va_up
      by_cases e : v = ps w
      · rw [if_pos e, e, upd_at]
      · rw [if_neg e, upd_ne _ _ e]; exact c2 v hvn
    · show upd _ _ _ v = va_up _ _ _ v
      unfold va_up
      by_cases e : v = nb (ps w) (r (ps w))
      · rw [if_pos e, e, upd_at, c3 _ hto]
      · rw [if_neg e, upd_ne _ _ e]; exact c3 v hvn
    · show upd _ _ _ _ = (va_up _ _ _ v : Nat → Int32) i
      have hdv := (hd v hvn).2
      unfold va_up
      by_cases e : v = ps w
      · rw [if_pos e]
        subst e
        by_cases e2 : i = r (ps w)
        · rw [if_pos e2, e2, upd_at, c4 _ hv _ hr]
        · rw [if_neg e2, upd_ne _ _ (by omega)]; exact c4 _ hv i hi
      · rw [if_neg e, upd_ne _ _ (by omega)]; exact c4 v hvn i hi
    · show upd _ _ _ q = nI (va_up _ _ _ q)
      unfold va_up
      by_cases e : q = w
      · rw [if_pos e, e, upd_at]
      · rw [if_neg e, upd_ne _ _ e]; exact c5 q hq
/-- a probe's step, in the class -/
theorem probe_n (G : GR n m d nb) (hG : GC n m d nb nodes links deg nbr) {src : Nat → Int32} {c : Cf} (hc : vld n d c) (hs : ∀ v, v < n → src v = nI (c.2 v)) : f_X2_move (nI c.1) src deg nbr = some (nI (stp d nb c).1, upd src c.1 (nI (turn d c.1 (c.2 c.1)))) := by
  obtain ⟨-, hn8, -, hd, hnb, -⟩ := id G
  obtain ⟨-, -, g3, g4⟩ := hG
  have hv := hc.1
  have hr := hc.2 _ hv
  have hd7 := hd _ hv
  unfold f_X2_move
  rw [nI_clamp (show c.1 < 2 ^ 31 by omega), hs _ hv, slot_n, bnd_s, nI_clamp (show 7 * c.1 + c.2 c.1 < 2 ^ 31 by omega), rotorAfter_n (by omega) (g3 _ hv) (by omega) (by omega), bnd_s, g4 _ hv _ hr]
  have i2 := inB_n (show c.1 < 8 by omega) (by decide)
  have i3 := inB_n (show 7 * c.1 + c.2 c.1 < 56 by omega) (by decide)
  rw [grd_t i2, grd_t i3, grd_t i2, grd_t i2]
  rfl
theorem step_src {src : Nat → Int32} {c : Cf} (hs : ∀ v, v < n → src v = nI (c.2 v)) : ∀ v, v < n → upd src c.1 (nI (turn d c.1 (c.2 c.1))) v = nI ((stp d nb c).2 v) := by
  intro v hv
  show _ = nI (va_up _ _ _ v)
  unfold va_up
  by_cases e : v = c.1
  · rw [if_pos e, e, upd_at]
  · rw [if_neg e, upd_ne _ _ e]; exact hs v hv
end BS
