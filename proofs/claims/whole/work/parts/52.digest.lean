/-! the digest -/
def mx (h x : Int64) : Int64 := (31 : Int64) * h + x
theorem hs_C (h x : Int64) : f_X4_hashed h x = some (mx h x) := rfl
theorem hs_M (h x : Int64) : f_X5_mix h x = some (mx h x) := rfl
def hE (nb : Nat → Nat → Nat) (a : AS) (v : Nat) (h : Int64) : Nat → Int64
  | 0 => h
  | i + 1 => mx (mx (hE nb a v h i) (nI (nb v i)).toInt64) (a.2.2 v i).toInt64
def hV (d : Nat → Nat) (nb : Nat → Nat → Nat) (a : AS) (h : Int64) : Nat → Int64
  | 0 => h
  | v + 1 => hE nb a v (mx (mx (mx (hV d nb a h v) (nI (d v)).toInt64) (nI (a.1.2 v)).toInt64) (a.2.1 v).toInt64) (d v)
noncomputable def hW (n m : Nat) (d : Nat → Nat) (nb : Nat → Nat → Nat) (a : AS) (h : Int64) : Nat → Int64
  | 0 => h
  | w + 1 => mx (mx (mx (hW n m d nb a h w) (nI (a.1.1 w)).toInt64) (nI (cycT n m d nb (a.1.1 w, a.1.2))).toInt64) (nI (covT n d nb (a.1.1 w, a.1.2))).toInt64
def hJ (f : Nat → Int32) (h : Int64) : Nat → Int64
  | 0 => h
  | i + 1 => mx (hJ f h i) (f i).toInt64
section DG
variable {n m k : Nat} {d : Nat → Nat} {nb : Nat → Nat → Nat} {nodes links mnodes mlinks wk mwk : Int32} {deg nbr mdeg tab rot arv dep pos mrot plc marr mdep : Nat → Int32} {a : AS}
theorem hE_C (G : GR n m d nb) (hG : GC n m d nb nodes links deg nbr) (h : CR n d k a wk rot arv dep pos) {v : Nat} (hv : v < n) (x : Int64) : iter (b_X4_hashedNode_53 deg nbr dep (nI v)) FUEL (x, 0) = some (hE nb a v x (d v)) := by
  obtain ⟨-, hn8, -, hd, hnb, -⟩ := id G
  obtain ⟨-, -, g3, g4⟩ := hG
  obtain ⟨-, -, -, c4, -⟩ := h
  obtain ⟨d1, d7⟩ := hd v hv
  have hFU : FUEL = 1100000 := rfl
  obtain ⟨u, e1, e2⟩ := iter_for (body := b_X4_hashedNode_53 deg nbr dep (nI v)) (d v) (fun i st => st = (hE nb a v x i, nI i)) (fun u => u = hE nb a v x (d v)) (by
    intro i st hi e
    rw [e]
    refine ⟨(hE nb a v x (i + 1), nI (i + 1)), ?_, rfl⟩
    unfold b_X4_hashedNode_53
    simp only [grd_t (inB_n (show v < 8 by omega) (by decide)), nI_clamp (show v < 2 ^ 31 by omega), g3 v hv, if_neg (nI_ge hi (show d v < 2 ^ 31 by omega)), slot_n, bnd_s, grd_t (inB_n (show 7 * v + i < 56 by omega) (by decide)), nI_clamp (show 7 * v + i < 2 ^ 31 by omega), g4 v hv i hi, c4 v hv i hi, hs_C, nI_1]
    rfl) (by
    intro st e
    rw [e]
    refine ⟨hE nb a v x (d v), ?_, rfl⟩
    unfold b_X4_hashedNode_53
    simp only [grd_t (inB_n (show v < 8 by omega) (by decide)), nI_clamp (show v < 2 ^ 31 by omega), g3 v hv, if_pos (nI_le (Nat.le_refl (d v)) (show d v < 2 ^ 31 by omega))]) (N := FUEL) (by omega) (s := (x, (0 : Int32))) rfl
  rw [e1, e2]
theorem hE_M (G : GR n m d nb) (hG : GM n m d nb nodes links mdeg tab) (h : MR n d k a wk rot arv mdep pos) {v : Nat} (hv : v < n) (x : Int64) : iter (b_X5_mixNode_35 tab mdeg mdep (nI v)) FUEL (0, x) = some (hE nb a v x (d v)) := by
  obtain ⟨-, hn8, -, hd, hnb, -⟩ := id G
  obtain ⟨-, -, g3, g4⟩ := hG
  obtain ⟨-, -, -, c4, -⟩ := h
  obtain ⟨d1, d7⟩ := hd v hv
  have hFU : FUEL = 1100000 := rfl
  obtain ⟨u, e1, e2⟩ := iter_for (body := b_X5_mixNode_35 tab mdeg mdep (nI v)) (d v) (fun i st => st = (nI i, hE nb a v x i)) (fun u => u = hE nb a v x (d v)) (by
    intro i st hi e
    rw [e]
    refine ⟨(nI (i + 1), hE nb a v x (i + 1)), ?_, rfl⟩
    unfold b_X5_mixNode_35
    simp only [grd_t (inB_n (show v < 8 by omega) (by decide)), nI_clamp (show v < 2 ^ 31 by omega), g3 v hv, if_neg (nI_ge hi (show d v < 2 ^ 31 by omega)), show (8 : Int32) * nI v = nI (8 * v) from pk_mul 8 v, nI_add, bnd_s, grd_t (inB_n (show 8 * v + i < 64 by omega) (by decide)), nI_clamp (show 8 * v + i < 2 ^ 31 by omega), g4 v hv i hi, c4 v hv i hi, hs_M, nI_1]
    rfl) (by
    intro st e
    rw [e]
    refine ⟨hE nb a v x (d v), ?_, rfl⟩
    unfold b_X5_mixNode_35
    simp only [grd_t (inB_n (show v < 8 by omega) (by decide)), nI_clamp (show v < 2 ^ 31 by omega), g3 v hv, if_pos (nI_le (Nat.le_refl (d v)) (show d v < 2 ^ 31 by omega))]) (N := FUEL) (by omega) (s := ((0 : Int32), x)) rfl
  rw [e1, e2]
theorem hV_C (G : n = 0 ∧ m = 0 ∨ GR n m d nb) (hG : GC n m d nb (nI n) links deg nbr) (h : CR n d k a wk rot arv dep pos) (x : Int64) : iter (b_X4_digest_30 FUEL (nI n) deg nbr rot arv dep) FUEL (x, 0) = some (hV d nb a x n) := by
  have hFU : FUEL = 1100000 := rfl
  obtain ⟨n8, -, d7⟩ := g_n8 G
  obtain ⟨u, e1, e2⟩ := iter_for (body := b_X4_digest_30 FUEL (nI n) deg nbr rot arv dep) n (fun i st => st = (hV d nb a x i, nI i)) (fun u => u = hV d nb a x n) (by
    intro v st hv e
    rw [e]
    refine ⟨(hV d nb a x (v + 1), nI (v + 1)), ?_, rfl⟩
    have hh := hE_C (g_gr G hv) hG h hv
    obtain ⟨-, -, g3, -⟩ := hG
    obtain ⟨-, c2, c3, -, -⟩ := h
    unfold b_X4_digest_30 f_X4_hashedNode
    simp only [if_neg (nI_ge hv (show n < 2 ^ 31 by omega)), grd_t (inB_n (show v < 8 by omega) (by decide)), nI_clamp (show v < 2 ^ 31 by omega), g3 v hv, c2 v hv, c3 v hv, hs_C, bnd_s, hh, nI_1]
    rfl) (by
    intro st e
    rw [e]
    refine ⟨hV d nb a x n, ?_, rfl⟩
    unfold b_X4_digest_30
    simp only [if_pos (nI_le (Nat.le_refl n) (show n < 2 ^ 31 by omega))]) (N := FUEL) (by omega) (s := (x, (0 : Int32))) rfl
  rw [e1, e2]
theorem hV_M (G : n = 0 ∧ m = 0 ∨ GR n m d nb) (hG : GM n m d nb (nI n) links mdeg tab) (h : MR n d k a wk rot arv dep pos) (x : Int64) : iter (b_X5_digest_27 FUEL (nI n) tab mdeg rot arv dep) FUEL (0, x) = some (hV d nb a x n) := by
  have hFU : FUEL = 1100000 := rfl
  obtain ⟨n8, -, d7⟩ := g_n8 G
  obtain ⟨u, e1, e2⟩ := iter_for (body := b_X5_digest_27 FUEL (nI n) tab mdeg rot arv dep) n (fun i st => st = (nI i, hV d nb a x i)) (fun u => u = hV d nb a x n) (by
    intro v st hv e
    rw [e]
    refine ⟨(nI (v + 1), hV d nb a x (v + 1)), ?_, rfl⟩
    have hh := hE_M (g_gr G hv) hG h hv
    obtain ⟨-, -, g3, -⟩ := hG
    obtain ⟨-, c2, c3, -, -⟩ := h
    unfold b_X5_digest_27 f_X5_mixNode
    simp only [if_neg (nI_ge hv (show n < 2 ^ 31 by omega)), grd_t (inB_n (show v < 8 by omega) (by decide)), nI_clamp (show v < 2 ^ 31 by omega), g3 v hv, c2 v hv, c3 v hv, hs_M, bnd_s, hh, nI_1]
    rfl) (by
    intro st e
    rw [e]
    refine ⟨hV d nb a x n, ?_, rfl⟩
    unfold b_X5_digest_27
    simp only [if_pos (nI_le (Nat.le_refl n) (show n < 2 ^ 31 by omega))]) (N := FUEL) (by omega) (s := ((0 : Int32), x)) rfl
  rw [e1, e2]
theorem hW_C (G : n = 0 ∧ m = 0 ∨ GR n m d nb) (hG : GC n m d nb nodes links deg nbr) (hk : k ≤ 4) (ha : mvld n k d a.1) (h : CR n d k a wk rot arv dep pos) (x : Int64) (node : Int32) (prot : Nat → Int32) (nodeA : Int32) (protA : Nat → Int32) : ∃ u, iter (b_X4_digest_69 FUEL nodes links deg nbr (nI k) rot pos) FUEL (x, 0, node, prot, nodeA, protA) = some u ∧ u.1 = hW n m d nb a x k := by
  have hFU : FUEL = 1100000 := rfl
  obtain ⟨-, c2, -, -, c5⟩ := h
  refine iter_for (body := b_X4_digest_69 FUEL nodes links deg nbr (nI k) rot pos) k (fun i st => st.1 = hW n m d nb a x i ∧ st.2.1 = nI i) (fun u => u.1 = hW n m d nb a x k) ?_ ?_ (N := FUEL) (by omega) (s := (x, (0 : Int32), node, prot, nodeA, protA)) ⟨rfl, rfl⟩
  · rintro w ⟨s1, s2, s3, s4, s5, s6⟩ hw ⟨q1, q2⟩
    dsimp only at q1 q2
    subst q1 q2
    have G' := g_gr G (ha.1 w hw)
    obtain ⟨u, h1, h2⟩ := cycle_C G' hG hk hw (ps := a.1.1) (r := a.1.2) ⟨ha.1 w hw, ha.2⟩ (c5 w hw) c2 s3 s4 s5 s6
    obtain ⟨v, h3, h4⟩ := coverTime_n G' hG hk hw (ps := a.1.1) (r := a.1.2) ⟨ha.1 w hw, ha.2⟩ (c5 w hw) c2 u.2.1 u.2.2.1
    refine ⟨(hW n m d nb a x (w + 1), nI (w + 1), v.2.1, v.2.2, u.2.2.2.1, u.2.2.2.2), ?_, rfl, rfl⟩
    unfold b_X4_digest_69
    simp only [if_neg (nI_ge hw (show k < 2 ^ 31 by omega)), grd_t (inB_n (show w < 4 by omega) (by decide)), nI_clamp (show w < 2 ^ 31 by omega), c5 w hw, hs_C, bnd_s, h1, h2, h3, h4, nI_1]
    rfl
  · rintro ⟨s1, s2, s3, s4, s5, s6⟩ ⟨q1, q2⟩
    dsimp only at q1 q2
    subst q1 q2
    refine ⟨(hW n m d nb a x k, s3, s4, s5, s6), ?_, rfl⟩
    unfold b_X4_digest_69
    simp only [if_pos (nI_le (Nat.le_refl k) (show k < 2 ^ 31 by omega))]
theorem hW_M (G : n = 0 ∧ m = 0 ∨ GR n m d nb) (hG : GM n m d nb nodes links mdeg tab) (hk : k ≤ 4) (ha : mvld n k d a.1) (h : MR n d k a wk rot arv dep pos) (x : Int64) (fsr snr : Nat → Int32) : ∃ u, iter (b_X5_digest_57 FUEL nodes links (nI k) tab mdeg rot pos) FUEL (0, x, fsr, snr) = some u ∧ u.1 = hW n m d nb a x k := by
  have hFU : FUEL = 1100000 := rfl
  obtain ⟨-, c2, -, -, c5⟩ := h
  refine iter_for (body := b_X5_digest_57 FUEL nodes links (nI k) tab mdeg rot pos) k (fun i st => st.1 = nI i ∧ st.2.1 = hW n m d nb a x i) (fun u => u.1 = hW n m d nb a x k) ?_ ?_ (N := FUEL) (by omega) (s := ((0 : Int32), x, fsr, snr)) ⟨rfl, rfl⟩
  · rintro w ⟨s1, s2, s3, s4⟩ hw ⟨q1, q2⟩
    dsimp only at q1 q2
    subst q1 q2
    have G' := g_gr G (ha.1 w hw)
    obtain ⟨u, h1, h2⟩ := cycle_M G' hG (show w < 4 by omega) (ps := a.1.1) (r := a.1.2) ⟨ha.1 w hw, ha.2⟩ (c5 w hw) c2 s3 s4
    obtain ⟨v, h3, h4⟩ := coverOf_n G' hG (show w < 4 by omega) (ps := a.1.1) (r := a.1.2) ⟨ha.1 w hw, ha.2⟩ (c5 w hw) c2 u.2.1
    refine ⟨(nI (w + 1), hW n m d nb a x (w + 1), v.2, u.2.2), ?_, rfl, rfl⟩
    unfold b_X5_digest_57
    simp only [if_neg (nI_ge hw (show k < 2 ^ 31 by omega)), grd_t (inB_n (show w < 4 by omega) (by decide)), nI_clamp (show w < 2 ^ 31 by omega), c5 w hw, hs_M, bnd_s, h1, h2, h3, h4, nI_1]
    rfl
  · rintro ⟨s1, s2, s3, s4⟩ ⟨q1, q2⟩
    dsimp only at q1 q2
    subst q1 q2
    refine ⟨(hW n m d nb a x k, s3, s4), ?_, rfl⟩
    unfold b_X5_digest_57
    simp only [if_pos (nI_le (Nat.le_refl k) (show k < 2 ^ 31 by omega))]
theorem hJ_C {q : Nat} (hq : q ≤ 40) (f : Nat → Int32) (x : Int64) : f_X4_hashedInput FUEL (nI q) f x = some (hJ f (mx x (nI q).toInt64) q) := by
  have hFU : FUEL = 1100000 := rfl
  obtain ⟨u, e1, e2⟩ := iter_for (body := b_X4_hashedInput_16 (nI q) f) q (fun i st => st = (hJ f (mx x (nI q).toInt64) i, nI i)) (fun u => u = hJ f (mx x (nI q).toInt64) q) (by
    intro v st hv e
    rw [e]
    refine ⟨(hJ f (mx x (nI q).toInt64) (v + 1), nI (v + 1)), ?_, rfl⟩
    unfold b_X4_hashedInput_16
    simp only [if_neg (nI_ge hv (show q < 2 ^ 31 by omega)), grd_t (inB_n (show v < 40 by omega) (by decide)), nI_clamp (show v < 2 ^ 31 by omega), hs_C, bnd_s, nI_1]
    rfl) (by
    intro st e
    rw [e]
    refine ⟨hJ f (mx x (nI q).toInt64) q, ?_, rfl⟩
    unfold b_X4_hashedInput_16
    simp only [if_pos (nI_le (Nat.le_refl q) (show q < 2 ^ 31 by omega))]) (N := FUEL) (by omega) (s := (mx x (nI q).toInt64, (0 : Int32))) rfl
  unfold f_X4_hashedInput
  rw [hs_C, bnd_s, e1, e2, bnd_s]
theorem hJ_M {q : Nat} (hq : q ≤ 40) (f : Nat → Int32) (x : Int64) : iter (b_X5_digest_159 (nI q) f) FUEL ((0 : Int32), x) = some (hJ f x q) := by
  have hFU : FUEL = 1100000 := rfl
  obtain ⟨u, e1, e2⟩ := iter_for (body := b_X5_digest_159 (nI q) f) q (fun i st => st = (nI i, hJ f x i)) (fun u => u = hJ f x q) (by
    intro v st hv e
    rw [e]
    refine ⟨(nI (v + 1), hJ f x (v + 1)), ?_, rfl⟩
    unfold b_X5_digest_159
    simp only [if_neg (nI_ge hv (show q < 2 ^ 31 by omega)), grd_t (inB_n (show v < 40 by omega) (by decide)), nI_clamp (show v < 2 ^ 31 by omega), hs_M, bnd_s, nI_1]
    rfl) (by
    intro st e
    rw [e]
    refine ⟨hJ f x q, ?_, rfl⟩
    unfold b_X5_digest_159
    simp only [if_pos (nI_le (Nat.le_refl q) (show q < 2 ^ 31 by omega))]) (N := FUEL) (by omega) (s := ((0 : Int32), x)) rfl
  rw [e1, e2]
end DG
theorem st_digest : St_digest LInv FUEL := by
  intro hask len codes nodes links deg nbr wk rot arv dep pos wkK rotK arvK depK posK node prot nodeA protA tri bst chs nxt mlen mnodes mlinks mwk bcode hass kwk hsh buf tab mdeg mrot plc marr mdep fsr snr chn aft krot kplc karr kdep y1 y2 y3 hI
  obtain ⟨⟨hb1, hb2, q, hq, hb3⟩, hH, n, m, d, nb, hG, hC, hM, ⟨k, a, hk, ha, hCR, hMR⟩, hK⟩ := id hI
  obtain ⟨rfl, rfl, -, -⟩ := id hC
  obtain ⟨rfl, rfl, -, -⟩ := id hM
  obtain ⟨rfl, -⟩ := id hCR
  obtain ⟨rfl, -⟩ := id hMR
  subst hb1 hb2 hb3
  obtain ⟨n8, -, d7⟩ := g_n8 hG
  have v1 := hV_C hG hC hCR (mx (mx (1753 : Int64) (nI n).toInt64) (nI m).toInt64)
  have v2 := hV_M hG hM hMR (mx (mx (1753 : Int64) (nI n).toInt64) (nI m).toInt64)
  obtain ⟨w1, w2, w3⟩ := hW_C hG hC hk ha hCR (mx (hV d nb a (mx (mx (1753 : Int64) (nI n).toInt64) (nI m).toInt64) n) (nI k).toInt64) node prot nodeA protA
  obtain ⟨x1, x2, x3⟩ := hW_M hG hM hk ha hMR (mx (hV d nb a (mx (mx (1753 : Int64) (nI n).toInt64) (nI m).toInt64) n) (nI k).toInt64) fsr snr
  unfold f_X4_digest f_X5_digest
  simp only [hs_C, hs_M, bnd_s, v1, v2, w2, x2, w3, x3]
  by_cases c : nI n ≤ 0
  · simp only [if_pos c, bnd_s, hJ_C hq, hJ_M hq]
    exact ⟨_, _, rfl, rfl, rfl, hI⟩
  · have n0 : 0 < n := by
      rcases Nat.eq_zero_or_pos n with e | e
      · subst e; exact absurd le00 c
      · exact e
    have G := g_gr hG n0
    have n2 := G.1
    obtain ⟨u, h1, h2⟩ := exp_C (chs := chs) G hC (N := FUEL) (by decide) (s := 0) (t := 1) (k := 7) n0 (by omega) (by omega) nxt
    obtain ⟨v, h3, h4⟩ := exp_M (chs := chn) G hM (N := FUEL) (by decide) (s := 0) (t := 1) (k := 7) n0 (by omega) (by omega) aft
    have h1 : f_X4_expectedArrivals FUEL (nI n) deg nbr chs nxt (0 : Int32) (7 : Int32) (1 : Int32) = some u := h1
    have h3 : f_X5_expected FUEL (nI n) tab mdeg chn aft (0 : Int32) (7 : Int32) (1 : Int32) = some v := h3
    unfold f_X4_hashedAnalysis
    simp only [if_neg c, assign_C G hC, assign_M G hM, bnd_s]
    by_cases c2 : (2000 : Int32) < nI (prd d n)
    · simp only [if_pos c2, hs_C, hs_M, bnd_s, h1, h3, h2, h4, hJ_C hq, hJ_M hq]
      exact ⟨_, _, rfl, rfl, rfl, hI⟩
    · obtain ⟨r, s1, s2, -⟩ := search_C G hC (s := 0) n0 w1.2.1 w1.2.2.1 tri bst
      obtain ⟨t, s3, s4, -⟩ := search_M G hM (s := 0) n0 bcode x1.2.1
      have s1 : f_X4_searchAssignments FUEL (nI n) deg nbr w1.2.1 w1.2.2.1 tri bst (0 : Int32) = some r := s1
      have s3 : f_X5_leastFrom FUEL (nI n) bcode tab mdeg x1.2.1 (0 : Int32) = some t := s3
      simp only [if_neg c2, hs_C, hs_M, bnd_s, h1, h3, h2, h4, s1, s2, s3, s4, hJ_C hq, hJ_M hq]
      exact ⟨_, _, rfl, rfl, rfl, hI⟩
