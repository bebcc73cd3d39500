/-! copies, steps, snapshots -/
theorem copy_loop {z : Nat} (hz : z ≤ 64) (src dst : Nat → Int32) {body : Int32 × (Nat → Int32) → Option ((Int32 × (Nat → Int32)) ⊕ (Nat → Int32))} (hb : ∀ st, body st = if nI z ≤ st.1 then some (.inr st.2) else grd (inB st.1 z = true) <| grd (inB st.1 z = true) <| some (.inl (st.1 + 1, upd st.2 st.1.toNatClampNeg (src st.1.toNatClampNeg)))) {N : Nat} (hN : z < N) : ∃ u, iter body N (0, dst) = some u ∧ ∀ j, j < z → u j = src j := by
  refine iter_for (body := body) z (fun i st => st.1 = nI i ∧ ∀ j, j < i → st.2 j = src j) (fun u => ∀ j, j < z → u j = src j) ?_ ?_ hN ⟨rfl, fun j h => absurd h (by omega)⟩
  · rintro i ⟨x, f⟩ hi ⟨e, h⟩
    dsimp only at e h
    subst e
    refine ⟨(nI (i + 1), upd f i (src i)), ?_, rfl, fun j hj => ?_⟩
    · rw [hb]
      dsimp only
      rw [if_neg (nI_ge hi (by omega)), grd_t (inB_n hi (by omega)), grd_t (inB_n hi (by omega)), nI_clamp (by omega), nI_add1]
    · show upd f i (src i) j = src j
      by_cases e : j = i
      · rw [e, upd_at]
      · rw [upd_ne _ _ e]; exact h j (by omega)
  · rintro ⟨x, f⟩ ⟨e, h⟩
    dsimp only at e h
    subst e
    refine ⟨f, ?_, h⟩
    rw [hb]
    dsimp only
    rw [if_pos (nI_le (Nat.le_refl z) (by omega))]
theorem copyRotors_n (src dst : Nat → Int32) {N : Nat} (hN : 64 < N) : ∃ u, f_X5_copyRotors N src dst = some u ∧ ∀ j, j < 8 → u j = src j := by
  obtain ⟨u, h1, h2⟩ := copy_loop (z := 8) (by omega) src dst (body := b_X5_copyRotors_2 src) (fun st => rfl) (N := N) (by omega)
  refine ⟨u, ?_, h2⟩
  unfold f_X5_copyRotors
  rw [h1]
  rfl
def aMvs (d : Nat → Nat) (nb : Nat → Nat → Nat) (w : Nat) (a : AS) : Nat → AS
  | 0 => a
  | t + 1 => aMv d nb w (aMvs d nb w a t)
theorem aMvs_1 (d : Nat → Nat) (nb : Nat → Nat → Nat) (w : Nat) (a : AS) (t : Nat) : (aMvs d nb w a t).1 = mvs d nb w a.1 t := by
  induction t with
  | zero => rfl
  | succ t ih => show mv d nb w (aMvs d nb w a t).1 = mv d nb w (mvs d nb w a.1 t); rw [ih]
section ST
variable {n m k : Nat} {d : Nat → Nat} {nb : Nat → Nat → Nat} {nodes links mnodes mlinks wk mwk : Int32} {deg nbr mdeg tab rot arv dep pos mrot plc marr mdep : Nat → Int32} {a : AS}
theorem aMvs_vld (G : GR n m d nb) (ha : mvld n k d a.1) {w : Nat} (hw : w < k) (t : Nat) : mvld n k d (aMvs d nb w a t).1 := by
  rw [aMvs_1]; exact mvs_vld G ha hw t
theorem steps_C (G : GR n m d nb) (hG : GC n m d nb nodes links deg nbr) (hk : k ≤ 4) (ha : mvld n k d a.1) (h : CR n d k a wk rot arv dep pos) {w s : Nat} (hw : w < k) (hs : s ≤ 1000) {N : Nat} (hN : 1000 < N) : ∃ u, iter (b_X4_step_31 deg nbr (nI w) (nI s)) N (0, rot, arv, dep, pos) = some u ∧ CR n d k (aMvs d nb w a s) wk u.1 u.2.1 u.2.2.1 u.2.2.2 := by
  refine iter_for (body := b_X4_step_31 deg nbr (nI w) (nI s)) s (fun i st => st.1 = nI i ∧ CR n d k (aMvs d nb w a i) wk st.2.1 st.2.2.1 st.2.2.2.1 st.2.2.2.2) (fun u => CR n d k (aMvs d nb w a s) wk u.1 u.2.1 u.2.2.1 u.2.2.2) ?_ ?_ (by omega) ⟨rfl, h⟩
  · intro i st hi hI
    obtain ⟨e, hI⟩ := hI
    obtain ⟨u, h1, h2⟩ := move_C G hG hk (aMvs_vld G ha hw i) hI hw
    refine ⟨(st.1 + 1, u.1, u.2.1, u.2.2.1, u.2.2.2), ?_, by rw [e]; exact nI_add1 i, h2⟩
    unfold b_X4_step_31
    rw [e, if_neg (nI_ge hi (by omega)), h1]
    rfl
  · intro st hI
    obtain ⟨e, hI⟩ := hI
    refine ⟨(st.2.1, st.2.2.1, st.2.2.2.1, st.2.2.2.2), ?_, hI⟩
    unfold b_X4_step_31
    rw [e, if_pos (nI_le (Nat.le_refl s) (by omega))]
theorem steps_M (G : GR n m d nb) (hG : GM n m d nb nodes links mdeg tab) (hk : k ≤ 4) (ha : mvld n k d a.1) (h : MR n d k a mwk mrot marr mdep plc) {w s : Nat} (hw : w < k) (hs : s ≤ 1000) {N : Nat} (hN : 1000 < N) : ∃ u, iter (b_X5_step_27 tab mdeg (nI w) (nI s)) N (0, mrot, plc, marr, mdep) = some u ∧ MR n d k (aMvs d nb w a s) mwk u.1 u.2.2.1 u.2.2.2 u.2.1 := by
  refine iter_for (body := b_X5_step_27 tab mdeg (nI w) (nI s)) s (fun i st => st.1 = nI i ∧ MR n d k (aMvs d nb w a i) mwk st.2.1 st.2.2.2.1 st.2.2.2.2 st.2.2.1) (fun u => MR n d k (aMvs d nb w a s) mwk u.1 u.2.2.1 u.2.2.2 u.2.1) ?_ ?_ (by omega) ⟨rfl, h⟩
  · intro i st hi hI
    obtain ⟨e, hI⟩ := hI
    obtain ⟨u, h1, h2⟩ := move_M G hG hk (aMvs_vld G ha hw i) hI hw
    refine ⟨(st.1 + 1, u.1, u.2.1, u.2.2.1, u.2.2.2), ?_, by rw [e]; exact nI_add1 i, h2⟩
    unfold b_X5_step_27
    rw [e, if_neg (nI_ge hi (by omega)), h1]
    rfl
  · intro st hI
    obtain ⟨e, hI⟩ := hI
    refine ⟨(st.2.1, st.2.2.1, st.2.2.2.1, st.2.2.2.2), ?_, hI⟩
    unfold b_X5_step_27
    rw [e, if_pos (nI_le (Nat.le_refl s) (by omega))]
end ST
theorem not_lt0 {y : Int32} (h : ¬ y < 1) : ¬ y < 0 := by
  intro q
  refine h (Int32.lt_iff_toInt_lt.mpr ?_)
  have h1 := Int32.lt_iff_toInt_lt.mp q
  have e0 : (0 : Int32).toInt = 0 := by decide
  have e1 : (1 : Int32).toInt = 1 := by decide
  omega
theorem st_step : St_step LInv FUEL := by
  intro hask len codes nodes links deg nbr wk rot arv dep pos wkK rotK arvK depK posK node prot nodeA protA tri bst chs nxt mlen mnodes mlinks mwk bcode hass kwk hsh buf tab mdeg mrot plc marr mdep fsr snr chn aft krot kplc karr kdep y1 y2 y3 hI
  obtain ⟨hB, hH, n, m, d, nb, hG, hC, hM, ⟨k, a, hk, ha, hCR, hMR⟩, hK⟩ := id hI
  obtain ⟨rfl, -⟩ := id hCR
  obtain ⟨rfl, -⟩ := id hMR
  unfold f_X4_step f_X5_step f_X5_within
  rcases walker_cases (n := k) (by omega) y1 with ⟨e1, e2⟩ | ⟨w, hw, rfl, e1, e2⟩
  · simp only [e1, e2, bnd_s, if_true]
    exact ⟨_, _, rfl, rfl, rfl, hI⟩
  · simp only [e1, e2, bnd_s, if_neg i10]
    by_cases c1 : y2 < 1
    · simp only [if_pos c1, bnd_s, if_true]
      exact ⟨_, _, rfl, rfl, rfl, hI⟩
    · by_cases c2 : y2 ≤ 1000
      · have hgr := g_gr hG (ha.1 w hw)
        obtain ⟨s, hs, rfl⟩ := nI_of2 (x := y2) (M := 1000) (n := 1000) (by decide) (not_lt0 c1) c2
        obtain ⟨u, h1, h2⟩ := steps_C hgr hC hk ha hCR hw hs (N := FUEL) (by decide)
        obtain ⟨v, h3, h4⟩ := steps_M hgr hM hk ha hMR hw hs (N := FUEL) (by decide)
        simp only [if_neg c1, if_pos c2, if_neg (show ¬ (1000 : Int32) < nI s from Int32.not_lt.mpr c2), bnd_s, if_neg i10, h1, h3, grd_t (inB_n (show w < 4 by omega) (by decide)), nI_clamp (show w < 2 ^ 31 by omega)]
        refine ⟨_, _, rfl, rfl, ?_, hB, hH, n, m, d, nb, hG, hC, hM, ⟨k, _, hk, aMvs_vld hgr ha hw s, h2, h4⟩, hK⟩
        exact (h2.2.2.2.2 w hw).trans (h4.2.2.2.2 w hw).symm
      · simp only [if_neg c1, if_neg c2, if_pos (Int32.not_le.mp c2), bnd_s, if_true]
        exact ⟨_, _, rfl, rfl, rfl, hI⟩
theorem nI_z {n : Nat} (h : n < 2 ^ 31) : nI n = 0 ↔ n = 0 := nI_eq h (b := 0) (by decide)
theorem st_snapshot : St_snapshot LInv FUEL := by
  intro hask len codes nodes links deg nbr wk rot arv dep pos wkK rotK arvK depK posK node prot nodeA protA tri bst chs nxt mlen mnodes mlinks mwk bcode hass kwk hsh buf tab mdeg mrot plc marr mdep fsr snr chn aft krot kplc karr kdep y1 y2 y3 hI
  obtain ⟨hB, hH, n, m, d, nb, hG, hC, hM, ⟨k, a, hk, ha, hCR, hMR⟩, hK⟩ := id hI
  obtain ⟨n8, -, d7⟩ := g_n8 hG
  unfold f_X4_snapshot f_X5_snapshot f_X3_copyFrom
  by_cases c : n = 0
  · have e1 : nodes = 0 := by rw [hC.1, c]; rfl
    have e2 : mnodes = 0 := by rw [hM.1, c]; rfl
    simp only [if_pos e1, if_pos e2]
    exact ⟨_, _, rfl, rfl, rfl, hI⟩
  · have e1 : ¬ nodes = 0 := by rw [hC.1, nI_z (by omega)]; exact c
    have e2 : ¬ mnodes = 0 := by rw [hM.1, nI_z (by omega)]; exact c
    obtain ⟨u1, h1, q1⟩ := copyRotors_n mrot krot (N := FUEL) (by decide)
    obtain ⟨u2, h2, q2⟩ := copyRotors_n marr karr (N := FUEL) (by decide)
    obtain ⟨u3, h3, q3⟩ := copy_loop (z := 4) (by omega) plc kplc (body := b_X5_snapshot_49 plc) (fun st => rfl) (N := FUEL) (by decide)
    obtain ⟨u4, h4, q4⟩ := copy_loop (z := 64) (by omega) mdep kdep (body := b_X5_snapshot_74 mdep) (fun st => rfl) (N := FUEL) (by decide)
    simp only [if_neg e1, if_neg e2, bnd_s, h1, h2, h3, h4]
    refine ⟨_, _, rfl, rfl, hCR.1.trans hMR.1.symm, hB, rfl, n, m, d, nb, hG, hC, hM, ⟨k, a, hk, ha, hCR, hMR⟩, Or.inr ⟨rfl, k, a, hk, ha, ⟨hCR.1, fun v hv => ?_, fun v hv => ?_, fun v hv i hi => ?_, fun w hw => ?_⟩, ⟨hMR.1, fun v hv => ?_, fun v hv => ?_, fun v hv i hi => ?_, fun w hw => ?_⟩⟩⟩
    · exact (cpy_lo (by omega)).trans (hCR.2.1 v hv)
    · exact (cpy_lo (by omega)).trans (hCR.2.2.1 v hv)
    · have := d7 v hv
      exact (cpy_lo (by omega)).trans (hCR.2.2.2.1 v hv i hi)
    · exact (cpy_lo (by omega)).trans (hCR.2.2.2.2 w hw)
    · exact (q1 v (by omega)).trans (hMR.2.1 v hv)
    · exact (q2 v (by omega)).trans (hMR.2.2.1 v hv)
    · have := d7 v hv
      exact (q4 _ (by omega)).trans (hMR.2.2.2.1 v hv i hi)
    · exact (q3 w (by omega)).trans (hMR.2.2.2.2 w hw)
theorem st_restore : St_restore LInv FUEL := by
  intro hask len codes nodes links deg nbr wk rot arv dep pos wkK rotK arvK depK posK node prot nodeA protA tri bst chs nxt mlen mnodes mlinks mwk bcode hass kwk hsh buf tab mdeg mrot plc marr mdep fsr snr chn aft krot kplc karr kdep y1 y2 y3 hI
  obtain ⟨hB, rfl, n, m, d, nb, hG, hC, hM, hS, hK⟩ := id hI
  obtain ⟨n8, -, d7⟩ := g_n8 hG
  unfold f_X4_restore f_X5_restore f_X3_copyFrom
  rcases hK with rfl | ⟨rfl, k, a, hk, ha, hCR, hMR⟩
  · simp only [if_true]
    exact ⟨_, _, rfl, rfl, rfl, hI⟩
  · obtain ⟨u1, h1, q1⟩ := copyRotors_n krot mrot (N := FUEL) (by decide)
    obtain ⟨u2, h2, q2⟩ := copyRotors_n karr marr (N := FUEL) (by decide)
    obtain ⟨u3, h3, q3⟩ := copy_loop (z := 4) (by omega) kplc plc (body := b_X5_restore_44 kplc) (fun st => rfl) (N := FUEL) (by decide)
    obtain ⟨u4, h4, q4⟩ := copy_loop (z := 64) (by omega) kdep mdep (body := b_X5_restore_69 kdep) (fun st => rfl) (N := FUEL) (by decide)
    simp only [if_neg i10, bnd_s, h1, h2, h3, h4]
    refine ⟨_, _, rfl, rfl, hCR.1.trans hMR.1.symm, hB, rfl, n, m, d, nb, hG, hC, hM, ⟨k, a, hk, ha, ⟨hCR.1, fun v hv => ?_, fun v hv => ?_, fun v hv i hi => ?_, fun w hw => ?_⟩, ⟨hMR.1, fun v hv => ?_, fun v hv => ?_, fun v hv i hi => ?_, fun w hw => ?_⟩⟩, Or.inr ⟨rfl, k, a, hk, ha, hCR, hMR⟩⟩
    · exact (cpy_lo (by omega)).trans (hCR.2.1 v hv)
    · exact (cpy_lo (by omega)).trans (hCR.2.2.1 v hv)
    · have := d7 v hv
      exact (cpy_lo (by omega)).trans (hCR.2.2.2.1 v hv i hi)
    · exact (cpy_lo (by omega)).trans (hCR.2.2.2.2 w hw)
    · exact (q1 v (by omega)).trans (hMR.2.1 v hv)
    · exact (q2 v (by omega)).trans (hMR.2.2.1 v hv)
    · have := d7 v hv
      exact (q4 _ (by omega)).trans (hMR.2.2.2.1 v hv i hi)
    · exact (q3 w (by omega)).trans (hMR.2.2.2.2 w hw)
