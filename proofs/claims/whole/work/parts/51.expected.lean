/-! expected arrivals -/
theorem vf_at (f : Nat → UInt64) (k : Nat) (x : UInt64) : vf_upd f k x k = x := if_pos rfl
theorem vf_ne (f : Nat → UInt64) {k j : Nat} (x : UInt64) (h : j ≠ k) : vf_upd f k x j = f j := if_neg h
def spI (d : Nat → Nat) (nb : Nat → Nat → Nat) (c : Nat → UInt64) (v : Nat) (f : Nat → UInt64) : Nat → Nat → UInt64
  | 0 => f
  | i + 1 => vf_upd (spI d nb c v f i) (nb v i) (FP.dadd (spI d nb c v f i (nb v i)) (FP.ddiv (c v) (FP.i2d (nI (d v)))))
def spO (d : Nat → Nat) (nb : Nat → Nat → Nat) (c : Nat → UInt64) : Nat → Nat → UInt64
  | 0 => fun _ => 0
  | v + 1 => spI d nb c v (spO d nb c v) (d v)
def cA (n : Nat) (d : Nat → Nat) (nb : Nat → Nat → Nat) (s : Nat) : Nat → Nat → UInt64
  | 0 => fun v => if v = s then FP.dconst1 else FP.dconst0
  | j + 1 => spO d nb (cA n d nb s j) n
def eA (n : Nat) (d : Nat → Nat) (nb : Nat → Nat → Nat) (s t : Nat) : Nat → UInt64
  | 0 => FP.dconst0
  | j + 1 => FP.dadd (eA n d nb s t j) (cA n d nb s (j + 1) t)
section EX
variable {n m : Nat} {d : Nat → Nat} {nb : Nat → Nat → Nat} {nodes links mnodes mlinks : Int32} {deg nbr mdeg tab : Nat → Int32} {c chs : Nat → UInt64} {lo hi : Nat}
theorem spI_gd (h4 : 4 ≤ lo) (hh : hi + 17 ≤ 1900) {v : Nat} (h1 : 1 ≤ d v) (h7 : d v ≤ 7) (hc : gd lo hi (c v)) {f : Nat → UInt64} {K : Nat → Nat} (hf : ∀ w, w < n → gd (lo - 3) (hi + 1 + 2 * K w) (f w)) (hK : ∀ w, w < n → K w + gA d nb v w ≤ 7) : ∀ i, i ≤ d v → ∀ w, w < n → gd (lo - 3) (hi + 1 + 2 * (K w + sm (fun j => if nb v j = w then 1 else 0) i)) (spI d nb c v f i w) := by
  intro i
  induction i with
  | zero => intro _ w hw; exact hf w hw
  | succ i ih =>
    intro hi' w hw
    have h := ih (by omega) w hw
    have e : spI d nb c v f (i + 1) w = vf_upd (spI d nb c v f i) (nb v i) (FP.dadd (spI d nb c v f i (nb v i)) (FP.ddiv (c v) (FP.i2d (nI (d v))))) w := rfl
    rw [e]
    by_cases q : w = nb v i
    · subst q
      have hk := hK _ hw
      have hs : sm (fun j => if nb v j = nb v i then 1 else 0) (i + 1) ≤ gA d nb v (nb v i) := sm_mono _ hi'
      have hs1 : sm (fun j => if nb v j = nb v i then 1 else 0) (i + 1) = sm (fun j => if nb v j = nb v i then 1 else 0) i + 1 := by
        show sm _ i + (if nb v i = nb v i then 1 else 0) = _
        rw [if_pos rfl]
      rw [vf_at, hs1]
      have h2 := gd_mono (lo' := lo - 3) (hi' := hi + 1 + 2 * (K (nb v i) + sm (fun j => if nb v j = nb v i then 1 else 0) i)) (Nat.le_refl _) (by omega) (ddiv_gd (k := d v) h4 (by omega) h1 h7 hc)
      refine gd_mono (Nat.le_refl _) ?_ (dadd_gd (by omega) ?_ h h2)
      · omega
      · omega
    · rw [vf_ne _ _ q]
      have hs1 : sm (fun j => if nb v j = w then 1 else 0) (i + 1) = sm (fun j => if nb v j = w then 1 else 0) i := by
        show sm _ i + (if nb v i = w then 1 else 0) = _
        rw [if_neg (fun e => q e.symm)]
        rfl
      rw [hs1]
      exact h
theorem gK (G : GR n m d nb) {v w : Nat} (hv : v < n) (hw : w < n) : sm (fun u => gA d nb u w) v + gA d nb v w ≤ 7 := by
  obtain ⟨-, -, -, hd, -, -, hs, -⟩ := G
  have h1 : sm (fun u => gA d nb u w) (v + 1) ≤ sm (fun u => gA d nb u w) n := sm_mono _ hv
  have h2 := hs w hw
  have h3 := (hd w hw).2
  have h4 : sm (fun u => gA d nb u w) (v + 1) = sm (fun u => gA d nb u w) v + gA d nb v w := rfl
  omega
theorem spO_gd (G : GR n m d nb) (h4 : 4 ≤ lo) (hh : hi + 17 ≤ 1900) (hc : ∀ v, v < n → gd lo hi (c v)) : ∀ v, v ≤ n → ∀ w, w < n → gd (lo - 3) (hi + 1 + 2 * sm (fun u => gA d nb u w) v) (spO d nb c v w) := by
  intro v
  induction v with
  | zero => intro _ w hw; exact Or.inl rfl
  | succ v ih =>
    intro hv w hw
    have hd := G.2.2.2.1 v hv
    exact spI_gd h4 hh hd.1 hd.2 (hc v hv) (ih (by omega)) (fun w hw => gK G hv hw) (d v) (Nat.le_refl _) w hw
theorem spO_full (G : GR n m d nb) (h4 : 4 ≤ lo) (hh : hi + 17 ≤ 1900) (hc : ∀ v, v < n → gd lo hi (c v)) : ∀ w, w < n → gd (lo - 3) (hi + 15) (spO d nb c n w) := by
  intro w hw
  have h1 := G.2.2.2.2.2.2.1 w hw
  have h2 := (G.2.2.2.1 w hw).2
  exact gd_mono (Nat.le_refl _) (by omega) (spO_gd G h4 hh hc n (Nat.le_refl _) w hw)
theorem cA_gd (G : GR n m d nb) (s : Nat) : ∀ j, j ≤ 50 → ∀ w, w < n → gd (1023 - 3 * j) (1023 + 15 * j) (cA n d nb s j w) := by
  intro j
  induction j with
  | zero =>
    intro _ w hw
    show gd _ _ (if w = s then FP.dconst1 else FP.dconst0)
    by_cases q : w = s
    · rw [if_pos q, one_nm]; exact Or.inr ⟨1023, 0, by omega, by omega, by omega, rfl⟩
    · rw [if_neg q]; exact Or.inl rfl
  | succ j ih =>
    intro hj w hw
    exact gd_mono (by omega) (by omega) (spO_full G (lo := 1023 - 3 * j) (hi := 1023 + 15 * j) (by omega) (by omega) (ih (by omega)) w hw)
theorem eA_gd (G : GR n m d nb) (s : Nat) {t : Nat} (ht : t < n) : ∀ j, j ≤ 50 → gd (1023 - 3 * j) (1023 + 17 * j) (eA n d nb s t j) := by
  intro j
  induction j with
  | zero => intro _; exact Or.inl rfl
  | succ j ih =>
    intro hj
    show gd _ _ (FP.dadd (eA n d nb s t j) (cA n d nb s (j + 1) t))
    have h1 := gd_mono (lo' := 1023 - 3 * (j + 1)) (hi' := 1023 + 17 * (j + 1) - 2) (by omega) (by omega) (ih (by omega))
    have h2 := gd_mono (lo' := 1023 - 3 * (j + 1)) (hi' := 1023 + 17 * (j + 1) - 2) (by omega) (by omega) (cA_gd G s (j + 1) hj t ht)
    exact gd_mono (Nat.le_refl _) (by omega) (dadd_gd (by omega) (by omega) h1 h2)
/-! the loops that clear, copy and begin -/
theorem clr_loop {z N : Nat} (hz : z ≤ 8) (hN : z < N) (dst : Nat → UInt64) : ∃ u, iter (b_X4_spreadChances_2 (nI z)) N (0, dst) = some u ∧ ∀ j, j < z → u j = 0 := by
  refine iter_for (body := b_X4_spreadChances_2 (nI z)) z (fun i st => st.1 = nI i ∧ ∀ j, j < i → st.2 j = 0) (fun u => ∀ j, j < z → u j = 0) ?_ ?_ hN ⟨rfl, fun j h => absurd h (by omega)⟩
  · rintro i ⟨x, g⟩ hi ⟨e, h⟩
    dsimp only at e h
    subst e
    refine ⟨(nI (i + 1), vf_upd g i FP.dconst0), ?_, rfl, fun j hj => ?_⟩
    · unfold b_X4_spreadChances_2
      dsimp only
      rw [if_neg (nI_ge hi (by omega)), grd_t (inB_n (show i < 8 by omega) (by omega)), nI_clamp (by omega), nI_1]
    · show vf_upd g i FP.dconst0 j = 0
      by_cases e : j = i
      · rw [e, vf_at]; rfl
      · rw [vf_ne _ _ e]; exact h j (by omega)
  · rintro ⟨x, g⟩ ⟨e, h⟩
    dsimp only at e h
    subst e
    refine ⟨g, ?_, h⟩
    unfold b_X4_spreadChances_2
    dsimp only
    rw [if_pos (nI_le (Nat.le_refl z) (by omega))]
theorem cpy_loop {z N : Nat} (hz : z ≤ 8) (hN : z < N) (src dst : Nat → UInt64) : ∃ u, iter (b_X4_spreadChances_108 (nI z) src) N (0, dst) = some u ∧ ∀ j, j < z → u j = src j := by
  refine iter_for (body := b_X4_spreadChances_108 (nI z) src) z (fun i st => st.1 = nI i ∧ ∀ j, j < i → st.2 j = src j) (fun u => ∀ j, j < z → u j = src j) ?_ ?_ hN ⟨rfl, fun j h => absurd h (by omega)⟩
  · rintro i ⟨x, g⟩ hi ⟨e, h⟩
    dsimp only at e h
    subst e
    refine ⟨(nI (i + 1), vf_upd g i (src i)), ?_, rfl, fun j hj => ?_⟩
    · unfold b_X4_spreadChances_108
      dsimp only
      rw [if_neg (nI_ge hi (by omega)), grd_t (inB_n (show i < 8 by omega) (by omega)), grd_t (inB_n (show i < 8 by omega) (by omega)), nI_clamp (by omega), nI_1]
    · show vf_upd g i (src i) j = src j
      by_cases e : j = i
      · rw [e, vf_at]
      · rw [vf_ne _ _ e]; exact h j (by omega)
  · rintro ⟨x, g⟩ ⟨e, h⟩
    dsimp only at e h
    subst e
    refine ⟨g, ?_, h⟩
    unfold b_X4_spreadChances_108
    dsimp only
    rw [if_pos (nI_le (Nat.le_refl z) (by omega))]
theorem beg_loop {z N s : Nat} (hz : z ≤ 8) (hs : s < 8) (hN : z < N) (dst : Nat → UInt64) : ∃ u, iter (b_X4_expectedArrivals_43 (nI z) (nI s)) N (0, dst) = some u ∧ ∀ j, j < z → u j = if j = s then FP.dconst1 else FP.dconst0 := by
  refine iter_for (body := b_X4_expectedArrivals_43 (nI z) (nI s)) z (fun i st => st.1 = nI i ∧ ∀ j, j < i → st.2 j = if j = s then FP.dconst1 else FP.dconst0) (fun u => ∀ j, j < z → u j = if j = s then FP.dconst1 else FP.dconst0) ?_ ?_ hN ⟨rfl, fun j h => absurd h (by omega)⟩
  · rintro i ⟨x, g⟩ hi ⟨e, h⟩
    dsimp only at e h
    subst e
    refine ⟨(nI (i + 1), vf_upd g i (if i = s then FP.dconst1 else FP.dconst0)), ?_, rfl, fun j hj => ?_⟩
    · unfold b_X4_expectedArrivals_43
      dsimp only
      rw [if_neg (nI_ge hi (by omega)), grd_t (inB_n (show i < 8 by omega) (by omega)), grd_t (inB_n (show i < 8 by omega) (by omega)), nI_clamp (by omega), nI_1]
      by_cases q : i = s
      · rw [if_pos (congrArg nI q), if_pos q]
      · rw [if_neg (fun e => q ((nI_eq (by omega) (by omega)).mp e)), if_neg q]
    · show vf_upd g i _ j = _
      by_cases e : j = i
      · rw [e, vf_at]
      · rw [vf_ne _ _ e]; exact h j (by omega)
  · rintro ⟨x, g⟩ ⟨e, h⟩
    dsimp only at e h
    subst e
    refine ⟨g, ?_, h⟩
    unfold b_X4_expectedArrivals_43
    dsimp only
    rw [if_pos (nI_le (Nat.le_refl z) (by omega))]
theorem mb_2 : b_X5_spread_2 = b_X4_spreadChances_2 (nI 8) := rfl
theorem mb_90 (src : Nat → UInt64) : b_X5_spread_90 src = b_X4_spreadChances_108 (nI 8) src := rfl
theorem mb_3 (p : Int32) : b_X5_expected_3 p = b_X4_expectedArrivals_43 (nI 8) p := rfl
/-! spreading, in the class -/
theorem in_C {N : Nat} (G : GR n m d nb) (hG : GC n m d nb nodes links deg nbr) (hN : 1100 ≤ N) (h4 : 4 ≤ lo) (hh : hi + 17 ≤ 1900) {v : Nat} (hv : v < n) (hc : ∀ v, v < n → gd lo hi (c v)) (hch : ∀ v, v < n → chs v = c v) {f : Nat → UInt64} {K : Nat → Nat} (hf : ∀ w, w < n → gd (lo - 3) (hi + 1 + 2 * K w) (f w)) (hK : ∀ w, w < n → K w + gA d nb v w ≤ 7) {g0 : Nat → UInt64} (hg : ∀ w, w < n → g0 w = f w) : ∃ u, iter (b_X4_spreadChances_41 deg nbr chs (nI v)) N (0, g0) = some u ∧ ∀ w, w < n → u w = spI d nb c v f (d v) w := by
  obtain ⟨-, hn8, -, hd, hnb, -⟩ := id G
  obtain ⟨-, -, g3, g4⟩ := hG
  obtain ⟨d1, d7⟩ := hd v hv
  refine iter_for (body := b_X4_spreadChances_41 deg nbr chs (nI v)) (d v) (fun i st => st.1 = nI i ∧ ∀ w, w < n → st.2 w = spI d nb c v f i w) (fun u => ∀ w, w < n → u w = spI d nb c v f (d v) w) ?_ ?_ (by omega) ⟨rfl, hg⟩
  · rintro i ⟨x, g⟩ hi' ⟨e, h⟩
    dsimp only at e h
    subst e
    have ht := hnb v hv i hi'
    have hs := spI_gd (n := n) (nb := nb) h4 hh d1 d7 (hc v hv) hf hK (i + 1) hi' (nb v i) ht
    have e0 : spI d nb c v f (i + 1) (nb v i) = FP.dadd (spI d nb c v f i (nb v i)) (FP.ddiv (c v) (FP.i2d (nI (d v)))) := vf_at _ _ _
    have hk := hK _ ht
    have hs1 : sm (fun j => if nb v j = nb v i then 1 else 0) (i + 1) ≤ gA d nb v (nb v i) := sm_mono _ hi'
    rw [e0] at hs
    have n1 : nnB (FP.dadd (spI d nb c v f i (nb v i)) (FP.ddiv (c v) (FP.i2d (nI (d v))))) = true := nnB_gd (by omega) hs
    have n2 : nnB (FP.ddiv (c v) (FP.i2d (nI (d v)))) = true := nnB_gd (by omega) (ddiv_gd (k := d v) h4 (by omega) d1 d7 (hc v hv))
    refine ⟨(nI (i + 1), vf_upd g (nb v i) (FP.dadd (spI d nb c v f i (nb v i)) (FP.ddiv (c v) (FP.i2d (nI (d v)))))), ?_, rfl, fun w hw => ?_⟩
    · unfold b_X4_spreadChances_41
      have i1 := inB_n (show v < 8 by omega) (by decide)
      have i2 := inB_n (show nb v i < 8 by omega) (by decide)
      have i3 := inB_n (show 7 * v + i < 56 by omega) (by decide)
      simp only [grd_t i1, nI_clamp (show v < 2 ^ 31 by omega), g3 v hv, if_neg (nI_ge hi' (show d v < 2 ^ 31 by omega)), slot_n, bnd_s, grd_t i3, nI_clamp (show 7 * v + i < 2 ^ 31 by omega), g4 v hv i hi', grd_t i2, nI_clamp (show nb v i < 2 ^ 31 by omega), hch v hv, h _ ht, grd_t n1, grd_t n2, nI_1]
    · show vf_upd g (nb v i) _ w = vf_upd (spI d nb c v f i) (nb v i) _ w
      by_cases q : w = nb v i
      · rw [q, vf_at, vf_at]
      · rw [vf_ne _ _ q, vf_ne _ _ q]; exact h w hw
  · rintro ⟨x, g⟩ ⟨e, h⟩
    dsimp only at e h
    subst e
    refine ⟨g, ?_, h⟩
    unfold b_X4_spreadChances_41
    simp only [grd_t (inB_n (show v < 8 by omega) (by decide)), nI_clamp (show v < 2 ^ 31 by omega), g3 v hv, if_pos (nI_le (Nat.le_refl (d v)) (show d v < 2 ^ 31 by omega))]
theorem spread_C {N : Nat} (G : GR n m d nb) (hG : GC n m d nb (nI n) links deg nbr) (hN : 1100 ≤ N) (h4 : 4 ≤ lo) (hh : hi + 17 ≤ 1900) (hc : ∀ v, v < n → gd lo hi (c v)) (hch : ∀ v, v < n → chs v = c v) (nxt : Nat → UInt64) : ∃ u, f_X4_spreadChances N (nI n) deg nbr chs nxt = some u ∧ ∀ w, w < n → u.1 w = spO d nb c n w := by
  have hn8 := G.2.1
  obtain ⟨u1, a1, a2⟩ := clr_loop (z := n) (N := N) hn8 (by omega) nxt
  obtain ⟨u2, b1, b2⟩ := iter_for (body := b_X4_spreadChances_28 N (nI n) deg nbr chs) n (fun v st => st.1 = nI v ∧ ∀ w, w < n → st.2 w = spO d nb c v w) (fun u => ∀ w, w < n → u w = spO d nb c n w) (by
    rintro v ⟨x, g⟩ hv ⟨e, h⟩
    dsimp only at e h
    subst e
    obtain ⟨u, c1, c2⟩ := in_C G hG hN h4 hh hv hc hch (spO_gd G h4 hh hc v (by omega)) (fun w hw => gK G hv hw) h
    refine ⟨(nI (v + 1), u), ?_, rfl, c2⟩
    unfold b_X4_spreadChances_28
    dsimp only
    rw [if_neg (nI_ge hv (by omega)), c1, bnd_s, nI_1]) (by
    rintro ⟨x, g⟩ ⟨e, h⟩
    dsimp only at e h
    subst e
    refine ⟨g, ?_, h⟩
    unfold b_X4_spreadChances_28
    dsimp only
    rw [if_pos (nI_le (Nat.le_refl n) (by omega))]) (N := N) (by omega) (s := ((0 : Int32), u1)) ⟨rfl, a2⟩
  obtain ⟨u3, c1, c2⟩ := cpy_loop (z := n) (N := N) hn8 (by omega) u2 chs
  refine ⟨(u3, u2), ?_, fun w hw => ?_⟩
  · unfold f_X4_spreadChances
    rw [a1, bnd_s, b1, bnd_s, c1, bnd_s]
  · exact (c2 w hw).trans (b2 w hw)
theorem node_ok {v : Nat} (hn : n < 2 ^ 30) (hv : v < n) : f_X0_hasNode (nI n) (nI v) = some 1 ∧ f_X5_isNode (nI n) (nI v) = some 1 := by
  unfold f_X0_hasNode f_X5_isNode f_X5_within
  rw [if_neg (nI_pos (by omega)), if_neg (nI_pos (by omega)), if_neg (nI_ge hv (by omega)), if_neg (nI_m1_ge hn hv)]
  exact ⟨rfl, rfl⟩
theorem exp_C {N s t k : Nat} (G : GR n m d nb) (hG : GC n m d nb (nI n) links deg nbr) (hN : 1100 ≤ N) (hs : s < n) (ht : t < n) (hk : k ≤ 50) (nxt : Nat → UInt64) : ∃ u, f_X4_expectedArrivals N (nI n) deg nbr chs nxt (nI s) (nI k) (nI t) = some u ∧ u.1 = (eA n d nb s t k).toInt64 := by
  have hn8 := G.2.1
  have e1 := (node_ok (by omega) hs).1
  have e2 := (node_ok (by omega) ht).1
  obtain ⟨u1, a1, a2⟩ := beg_loop (z := n) (N := N) (s := s) hn8 (by omega) (by omega) chs
  obtain ⟨u2, b1, b2⟩ := iter_for (body := b_X4_expectedArrivals_85 N (nI n) deg nbr (nI k) (nI t)) k (fun j st => st.1 = eA n d nb s t j ∧ st.2.1 = nI j ∧ ∀ w, w < n → st.2.2.1 w = cA n d nb s j w) (fun u => u.1 = eA n d nb s t k) (by
    rintro j ⟨x, i, g, f⟩ hj ⟨q1, q2, q3⟩
    dsimp only at q1 q2 q3
    subst q1 q2
    obtain ⟨u, r1, r2⟩ := spread_C (lo := 1023 - 3 * j) (hi := 1023 + 15 * j) G hG hN (by omega) (by omega) (cA_gd G s j (by omega)) q3 f
    refine ⟨(eA n d nb s t (j + 1), nI (j + 1), u.1, u.2), ?_, rfl, rfl, r2⟩
    have n1 : nnB (eA n d nb s t (j + 1)) = true := nnB_gd (by omega) (eA_gd G s ht (j + 1) (by omega))
    have e3 : eA n d nb s t (j + 1) = FP.dadd (eA n d nb s t j) (u.1 t) := by rw [r2 t ht]; rfl
    rw [e3] at n1 ⊢
    unfold b_X4_expectedArrivals_85
    simp only [if_neg (nI_ge hj (show k < 2 ^ 31 by omega)), r1, bnd_s, grd_t (inB_n (show t < 8 by omega) (by decide)), nI_clamp (show t < 2 ^ 31 by omega), grd_t n1, nI_1]) (by
    rintro ⟨x, i, g, f⟩ ⟨q1, q2, q3⟩
    dsimp only at q1 q2 q3
    subst q1 q2
    refine ⟨(eA n d nb s t k, g, f), ?_, rfl⟩
    unfold b_X4_expectedArrivals_85
    dsimp only
    rw [if_pos (nI_le (Nat.le_refl k) (by omega))]) (N := N) (by omega) (s := (FP.dconst0, (0 : Int32), u1, nxt)) ⟨rfl, rfl, a2⟩
  have hb := bits_C (lo := 1023 - 3 * k) (hi := 1023 + 17 * k) (N := N) (by omega) (by omega) hN (eA_gd G s ht k hk)
  refine ⟨((eA n d nb s t k).toInt64, u2.2.1, u2.2.2), ?_, rfl⟩
  have k0 : ¬ nI k < 0 := nI_pos (by omega)
  have k50 : nI k ≤ (50 : Int32) := nI_le (b := 50) hk (by omega)
  unfold f_X4_expectedArrivals
  simp only [e1, e2, bnd_s, if_neg i10, if_neg k0, if_pos k50, a1, b1, b2, hb]
/-! spreading, in the model -/
theorem in_M {N : Nat} (G : GR n m d nb) (hG : GM n m d nb nodes links mdeg tab) (hN : 1100 ≤ N) (h4 : 4 ≤ lo) (hh : hi + 17 ≤ 1900) {v : Nat} (hv : v < n) (hc : ∀ v, v < n → gd lo hi (c v)) (hch : ∀ v, v < n → chs v = c v) {f : Nat → UInt64} {K : Nat → Nat} (hf : ∀ w, w < n → gd (lo - 3) (hi + 1 + 2 * K w) (f w)) (hK : ∀ w, w < n → K w + gA d nb v w ≤ 7) {g0 : Nat → UInt64} (hg : ∀ w, w < n → g0 w = f w) : ∃ u, iter (b_X5_spread_33 tab mdeg chs (nI v)) N (0, g0) = some u ∧ ∀ w, w < n → u w = spI d nb c v f (d v) w := by
  obtain ⟨-, hn8, -, hd, hnb, -⟩ := id G
  obtain ⟨-, -, g3, g4⟩ := hG
  obtain ⟨d1, d7⟩ := hd v hv
  refine iter_for (body := b_X5_spread_33 tab mdeg chs (nI v)) (d v) (fun i st => st.1 = nI i ∧ ∀ w, w < n → st.2 w = spI d nb c v f i w) (fun u => ∀ w, w < n → u w = spI d nb c v f (d v) w) ?_ ?_ (by omega) ⟨rfl, hg⟩
  · rintro i ⟨x, g⟩ hi' ⟨e, h⟩
    dsimp only at e h
    subst e
    have ht := hnb v hv i hi'
    have hs := spI_gd (n := n) (nb := nb) h4 hh d1 d7 (hc v hv) hf hK (i + 1) hi' (nb v i) ht
    have e0 : spI d nb c v f (i + 1) (nb v i) = FP.dadd (spI d nb c v f i (nb v i)) (FP.ddiv (c v) (FP.i2d (nI (d v)))) := vf_at _ _ _
    have hk := hK _ ht
    have hs1 : sm (fun j => if nb v j = nb v i then 1 else 0) (i + 1) ≤ gA d nb v (nb v i) := sm_mono _ hi'
    rw [e0] at hs
    have n1 : nnB (FP.dadd (spI d nb c v f i (nb v i)) (FP.ddiv (c v) (FP.i2d (nI (d v))))) = true := nnB_gd (by omega) hs
    have n2 : nnB (FP.ddiv (c v) (FP.i2d (nI (d v)))) = true := nnB_gd (by omega) (ddiv_gd (k := d v) h4 (by omega) d1 d7 (hc v hv))
    refine ⟨(nI (i + 1), vf_upd g (nb v i) (FP.dadd (spI d nb c v f i (nb v i)) (FP.ddiv (c v) (FP.i2d (nI (d v)))))), ?_, rfl, fun w hw => ?_⟩
    · unfold b_X5_spread_33
      have i1 := inB_n (show v < 8 by omega) (by decide)
      have i2 := inB_n (show nb v i < 8 by omega) (by decide)
      have i3 := inB_n (show 8 * v + i < 64 by omega) (by decide)
      simp only [grd_t i1, nI_clamp (show v < 2 ^ 31 by omega), g3 v hv, if_neg (nI_ge hi' (show d v < 2 ^ 31 by omega)), show (8 : Int32) * nI v = nI (8 * v) from pk_mul 8 v, nI_add, bnd_s, grd_t i3, nI_clamp (show 8 * v + i < 2 ^ 31 by omega), g4 v hv i hi', grd_t i2, nI_clamp (show nb v i < 2 ^ 31 by omega), hch v hv, h _ ht, grd_t n1, grd_t n2, nI_1]
    · show vf_upd g (nb v i) _ w = vf_upd (spI d nb c v f i) (nb v i) _ w
      by_cases q : w = nb v i
      · rw [q, vf_at, vf_at]
      · rw [vf_ne _ _ q, vf_ne _ _ q]; exact h w hw
  · rintro ⟨x, g⟩ ⟨e, h⟩
    dsimp only at e h
    subst e
    refine ⟨g, ?_, h⟩
    unfold b_X5_spread_33
    simp only [grd_t (inB_n (show v < 8 by omega) (by decide)), nI_clamp (show v < 2 ^ 31 by omega), g3 v hv, if_pos (nI_le (Nat.le_refl (d v)) (show d v < 2 ^ 31 by omega))]
theorem spread_M {N : Nat} (G : GR n m d nb) (hG : GM n m d nb (nI n) links mdeg tab) (hN : 1100 ≤ N) (h4 : 4 ≤ lo) (hh : hi + 17 ≤ 1900) (hc : ∀ v, v < n → gd lo hi (c v)) (hch : ∀ v, v < n → chs v = c v) (nxt : Nat → UInt64) : ∃ u, f_X5_spread N (nI n) tab mdeg chs nxt = some u ∧ ∀ w, w < n → u.1 w = spO d nb c n w := by
  have hn8 := G.2.1
  obtain ⟨u1, a1, a2⟩ := clr_loop (z := 8) (N := N) (by omega) (by omega) nxt
  obtain ⟨u2, b1, b2⟩ := iter_for (body := b_X5_spread_23 N (nI n) tab mdeg chs) n (fun v st => st.1 = nI v ∧ ∀ w, w < n → st.2 w = spO d nb c v w) (fun u => ∀ w, w < n → u w = spO d nb c n w) (by
    rintro v ⟨x, g⟩ hv ⟨e, h⟩
    dsimp only at e h
    subst e
    obtain ⟨u, c1, c2⟩ := in_M G hG hN h4 hh hv hc hch (spO_gd G h4 hh hc v (by omega)) (fun w hw => gK G hv hw) h
    refine ⟨(nI (v + 1), u), ?_, rfl, c2⟩
    unfold b_X5_spread_23
    dsimp only
    rw [if_neg (nI_ge hv (by omega)), c1, bnd_s, nI_1]) (by
    rintro ⟨x, g⟩ ⟨e, h⟩
    dsimp only at e h
    subst e
    refine ⟨g, ?_, h⟩
    unfold b_X5_spread_23
    dsimp only
    rw [if_pos (nI_le (Nat.le_refl n) (by omega))]) (N := N) (by omega) (s := ((0 : Int32), u1)) ⟨rfl, fun w hw => a2 w (by omega)⟩
  obtain ⟨u3, c1, c2⟩ := cpy_loop (z := 8) (N := N) (by omega) (by omega) u2 chs
  refine ⟨(u3, u2), ?_, fun w hw => ?_⟩
  · unfold f_X5_spread
    rw [mb_2, a1, bnd_s, b1, bnd_s, mb_90, c1, bnd_s]
  · exact (c2 w (by omega)).trans (b2 w hw)
theorem exp_M {N s t k : Nat} (G : GR n m d nb) (hG : GM n m d nb (nI n) links mdeg tab) (hN : 1100 ≤ N) (hs : s < n) (ht : t < n) (hk : k ≤ 50) (nxt : Nat → UInt64) : ∃ u, f_X5_expected N (nI n) tab mdeg chs nxt (nI s) (nI k) (nI t) = some u ∧ u.1 = (eA n d nb s t k).toInt64 := by
  have hn8 := G.2.1
  obtain ⟨u1, a1, a2⟩ := beg_loop (z := 8) (N := N) (s := s) (by omega) (by omega) (by omega) chs
  obtain ⟨u2, b1, b2⟩ := iter_for (body := b_X5_expected_40 N (nI n) tab mdeg (nI k) (nI t)) k (fun j st => st.1 = eA n d nb s t j ∧ st.2.1 = nI j ∧ ∀ w, w < n → st.2.2.1 w = cA n d nb s j w) (fun u => u.1 = eA n d nb s t k) (by
    rintro j ⟨x, i, g, f⟩ hj ⟨q1, q2, q3⟩
    dsimp only at q1 q2 q3
    subst q1 q2
    obtain ⟨u, r1, r2⟩ := spread_M (lo := 1023 - 3 * j) (hi := 1023 + 15 * j) G hG hN (by omega) (by omega) (cA_gd G s j (by omega)) q3 f
    refine ⟨(eA n d nb s t (j + 1), nI (j + 1), u.1, u.2), ?_, rfl, rfl, r2⟩
    have n1 : nnB (eA n d nb s t (j + 1)) = true := nnB_gd (by omega) (eA_gd G s ht (j + 1) (by omega))
    have e3 : eA n d nb s t (j + 1) = FP.dadd (eA n d nb s t j) (u.1 t) := by rw [r2 t ht]; rfl
    rw [e3] at n1 ⊢
    unfold b_X5_expected_40
    simp only [if_neg (nI_ge hj (show k < 2 ^ 31 by omega)), r1, bnd_s, grd_t (inB_n (show t < 8 by omega) (by decide)), nI_clamp (show t < 2 ^ 31 by omega), grd_t n1, nI_1]) (by
    rintro ⟨x, i, g, f⟩ ⟨q1, q2, q3⟩
    dsimp only at q1 q2 q3
    subst q1 q2
    refine ⟨(eA n d nb s t k, g, f), ?_, rfl⟩
    unfold b_X5_expected_40
    dsimp only
    rw [if_pos (nI_le (Nat.le_refl k) (by omega))]) (N := N) (by omega) (s := (FP.dconst0, (0 : Int32), u1, nxt)) ⟨rfl, rfl, fun w hw => a2 w (by omega)⟩
  have hb := bits_M (lo := 1023 - 3 * k) (hi := 1023 + 17 * k) (by omega) (by omega) (eA_gd G s ht k hk)
  refine ⟨((eA n d nb s t k).toInt64, u2.2.1, u2.2.2), ?_, rfl⟩
  unfold f_X5_expected
  rw [mb_3]
  simp only [a1, b1, b2, hb, bnd_s]
end EX
theorem st_expectedArrivals : St_expectedArrivals LInv FUEL := by
  intro hask len codes nodes links deg nbr wk rot arv dep pos wkK rotK arvK depK posK node prot nodeA protA tri bst chs nxt mlen mnodes mlinks mwk bcode hass kwk hsh buf tab mdeg mrot plc marr mdep fsr snr chn aft krot kplc karr kdep y1 y2 y3 hI
  obtain ⟨hB, hH, n, m, d, nb, hG, hC, hM, hS, hK⟩ := id hI
  obtain ⟨rfl, rfl, -, -⟩ := id hC
  obtain ⟨rfl, rfl, -, -⟩ := id hM
  obtain ⟨n8, -, d7⟩ := g_n8 hG
  rcases node_cases (n := n) (by omega) y1 with ⟨e1, e2⟩ | ⟨v, hv, rfl, e1, e2⟩
  · unfold f_X4_expectedArrivals f_X5_expectedArrivals
    simp only [e1, e2, bnd_s, if_true]
    exact ⟨_, _, rfl, rfl, rfl, hI⟩
  · rcases node_cases (n := n) (by omega) y3 with ⟨e3, e4⟩ | ⟨w, hw, rfl, e3, e4⟩
    · unfold f_X4_expectedArrivals f_X5_expectedArrivals
      simp only [e1, e2, e3, e4, bnd_s, if_true, if_neg i10]
      exact ⟨_, _, rfl, rfl, rfl, hI⟩
    · by_cases c1 : y2 < 0
      · unfold f_X4_expectedArrivals f_X5_expectedArrivals f_X5_within
        simp only [e1, e2, e3, e4, bnd_s, if_true, if_neg i10, if_pos c1]
        exact ⟨_, _, rfl, rfl, rfl, hI⟩
      · by_cases c2 : y2 ≤ 50
        · have hgr := g_gr hG hv
          obtain ⟨s, hs, rfl⟩ := nI_of2 (x := y2) (M := 50) (n := 50) (by decide) c1 c2
          obtain ⟨u, h1, h2⟩ := exp_C (chs := chs) hgr hC (N := FUEL) (by decide) hv hw hs nxt
          obtain ⟨x, h3, h4⟩ := exp_M (chs := chn) hgr hM (N := FUEL) (by decide) hv hw hs aft
          refine ⟨u, (x.1, x.2.1, x.2.2), h1, ?_, h2.trans h4.symm, hI⟩
          unfold f_X5_expectedArrivals f_X5_within
          simp only [e2, e4, bnd_s, if_neg i10, if_neg c1, if_neg (show ¬ (50 : Int32) < nI s from Int32.not_lt.mpr c2), h3]
        · unfold f_X4_expectedArrivals f_X5_expectedArrivals f_X5_within
          simp only [e1, e2, e3, e4, bnd_s, if_true, if_neg i10, if_neg c1, if_neg c2, if_pos (Int32.not_le.mp c2)]
          exact ⟨_, _, rfl, rfl, rfl, hI⟩
