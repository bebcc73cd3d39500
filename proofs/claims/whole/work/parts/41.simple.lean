/-! what holds between class and model before and behind every call -/
def LInv : InvT := fun hask len codes nodes links deg nbr wk rot arv dep pos wkK rotK arvK depK posK mlen mnodes mlinks mwk hass kwk buf tab mdeg mrot plc marr mdep krot kplc karr kdep =>
  (mlen = len ∧ buf = codes ∧ ∃ q, q ≤ 40 ∧ len = nI q) ∧ hass = hask ∧ ∃ (n m : Nat) (d : Nat → Nat) (nb : Nat → Nat → Nat), (n = 0 ∧ m = 0 ∨ GR n m d nb) ∧ GC n m d nb nodes links deg nbr ∧ GM n m d nb mnodes mlinks mdeg tab ∧
  (∃ (k : Nat) (a : AS), k ≤ 4 ∧ mvld n k d a.1 ∧ CR n d k a wk rot arv dep pos ∧ MR n d k a mwk mrot marr mdep plc) ∧
  (hask = 0 ∨ hask = 1 ∧ ∃ (k : Nat) (a : AS), k ≤ 4 ∧ mvld n k d a.1 ∧ CR n d k a wkK rotK arvK depK posK ∧ MR n d k a kwk krot karr kdep kplc)
theorem linv_0 : LInv 0 0 (fun _ => 0) 0 0 (fun _ => 0) (fun _ => 0) 0 (fun _ => 0) (fun _ => 0) (fun _ => 0) (fun _ => 0) 0 (fun _ => 0) (fun _ => 0) (fun _ => 0) (fun _ => 0) 0 0 0 0 0 0 (fun _ => 0) (fun _ => 0) (fun _ => 0) (fun _ => 0) (fun _ => 0) (fun _ => 0) (fun _ => 0) (fun _ => 0) (fun _ => 0) (fun _ => 0) (fun _ => 0) := by
  refine ⟨⟨rfl, rfl, 0, by omega, rfl⟩, rfl, 0, 0, fun _ => 0, fun _ _ => 0, Or.inl ⟨rfl, rfl⟩, ⟨rfl, rfl, fun v h => absurd h (by omega), fun v h => absurd h (by omega)⟩, ⟨rfl, rfl, fun v h => absurd h (by omega), fun v h => absurd h (by omega)⟩, ⟨0, ((fun _ => 0, fun _ => 0), fun _ => 0, fun _ _ => 0), by omega, ⟨fun w h => absurd h (by omega), fun v h => absurd h (by omega)⟩, ⟨rfl, fun v h => absurd h (by omega), fun v h => absurd h (by omega), fun v h => absurd h (by omega), fun v h => absurd h (by omega)⟩, ⟨rfl, fun v h => absurd h (by omega), fun v h => absurd h (by omega), fun v h => absurd h (by omega), fun v h => absurd h (by omega)⟩⟩, Or.inl rfl⟩
theorem i10 : ¬ (1 : Int32) = 0 := by decide
theorem le00 : (0 : Int32) ≤ 0 := by decide
theorem nI_m1_lt {n : Nat} {p : Int32} (hn : n < 2 ^ 30) (h : nI n ≤ p) : nI n - (1 : Int32) < p := by
  have h1 : (nI n - nI 1).toInt = (n : Int) - 1 := pk_sub_toInt hn (by decide)
  have h2 := Int32.le_iff_toInt_le.mp h
  rw [nI_toInt (by omega)] at h2
  refine Int32.lt_iff_toInt_lt.mpr ?_
  show (nI n - nI 1).toInt < _
  omega
theorem nI_m1_ge {n v : Nat} (hn : n < 2 ^ 30) (h : v < n) : ¬ nI n - (1 : Int32) < nI v := by
  rw [nI_sub1 (by omega)]
  exact nI_nlt (by omega) (by omega)
/-- a node, or no node, on both sides -/
theorem node_cases {n : Nat} (hn : n < 2 ^ 30) (p : Int32) : (f_X0_hasNode (nI n) p = some 0 ∧ f_X5_isNode (nI n) p = some 0) ∨ ∃ v, v < n ∧ p = nI v ∧ f_X0_hasNode (nI n) p = some 1 ∧ f_X5_isNode (nI n) p = some 1 := by
  unfold f_X0_hasNode f_X5_isNode f_X5_within
  rcases pk_ix p (n := n) (by omega) with h | h | ⟨v, hv, rfl⟩
  · left; rw [if_pos h, if_pos h]; exact ⟨rfl, rfl⟩
  · left
    by_cases h0 : p < 0
    · rw [if_pos h0, if_pos h0]; exact ⟨rfl, rfl⟩
    · rw [if_neg h0, if_neg h0, if_pos h, if_pos (nI_m1_lt hn h)]; exact ⟨rfl, rfl⟩
  · right
    refine ⟨v, hv, rfl, ?_⟩
    rw [if_neg (nI_pos (by omega)), if_neg (nI_pos (by omega)), if_neg (nI_ge hv (by omega)), if_neg (nI_m1_ge hn hv)]
    exact ⟨rfl, rfl⟩
theorem walker_cases {n : Nat} (hn : n < 2 ^ 30) (p : Int32) : (f_X3_hasWalker (nI n) p = some 0 ∧ f_X5_isWalker (nI n) p = some 0) ∨ ∃ v, v < n ∧ p = nI v ∧ f_X3_hasWalker (nI n) p = some 1 ∧ f_X5_isWalker (nI n) p = some 1 := node_cases hn p
/-- a node and an index, or the error -/
theorem error_cases {n : Nat} (hn : n ≤ 8) {d : Nat → Nat} (hd : ∀ v, v < n → d v ≤ 7) {deg mdeg : Nat → Int32} (h1 : ∀ v, v < n → deg v = nI (d v)) (h2 : ∀ v, v < n → mdeg v = nI (d v)) (p q : Int32) :
    (∃ e : Int32, ¬ e = 0 ∧ ¬ 0 ≤ e ∧ f_X0_neighborError (nI n) deg p q = some e ∧ f_X5_errorOf (nI n) mdeg p q = some e) ∨ ∃ v i, v < n ∧ i < d v ∧ p = nI v ∧ q = nI i ∧ f_X0_neighborError (nI n) deg p q = some 0 ∧ f_X5_errorOf (nI n) mdeg p q = some 0 := by
  unfold f_X0_neighborError f_X5_errorOf
  rcases node_cases (n := n) (by omega) p with ⟨e1, e2⟩ | ⟨v, hv, rfl, e1, e2⟩
  · left
    refine ⟨-4, by decide, by decide, ?_, ?_⟩
    · rw [e1]; rfl
    · rw [e2]; rfl
  · have hdv := hd v hv
    have i1 := inB_n (show v < 8 by omega) (by decide)
    simp only [e1, e2, bnd_s, if_neg i10, grd_t i1, nI_clamp (show v < 2 ^ 31 by omega), h1 v hv, h2 v hv]
    unfold f_X5_within
    rcases pk_ix q (n := d v) (by omega) with h | h | ⟨i, hi, rfl⟩
    · left; simp only [if_pos h, bnd_s, if_true]; exact ⟨-6, by decide, by decide, rfl, rfl⟩
    · left
      by_cases h0 : q < 0
      · simp only [if_pos h0, bnd_s, if_true]; exact ⟨-6, by decide, by decide, rfl, rfl⟩
      · simp only [if_neg h0, if_pos h, if_pos (nI_m1_lt (show d v < 2 ^ 30 by omega) h), bnd_s, if_true]; exact ⟨-6, by decide, by decide, rfl, rfl⟩
    · right
      refine ⟨v, i, hv, hi, rfl, rfl, ?_⟩
      simp only [if_neg (nI_pos (show i < 2 ^ 31 by omega)), if_neg (nI_ge hi (show d v < 2 ^ 31 by omega)), if_neg (nI_m1_ge (show d v < 2 ^ 30 by omega) hi), bnd_s, if_neg i10]
      exact ⟨trivial, trivial⟩
theorem g_n8 {n m : Nat} {d : Nat → Nat} {nb : Nat → Nat → Nat} (h : n = 0 ∧ m = 0 ∨ GR n m d nb) : n ≤ 8 ∧ m ≤ 12 ∧ ∀ v, v < n → d v ≤ 7 := by
  rcases h with ⟨h, h2⟩ | h
  · exact ⟨by omega, by omega, fun v hv => absurd hv (by omega)⟩
  · exact ⟨h.2.1, h.2.2.1, fun v hv => (h.2.2.2.1 v hv).2⟩
theorem g_gr {n m : Nat} {d : Nat → Nat} {nb : Nat → Nat → Nat} (h : n = 0 ∧ m = 0 ∨ GR n m d nb) {v : Nat} (hv : v < n) : GR n m d nb := by
  rcases h with ⟨h, -⟩ | h
  · omega
  · exact h
theorem st_append : St_append LInv FUEL := by
  intro hask len codes nodes links deg nbr wk rot arv dep pos wkK rotK arvK depK posK node prot nodeA protA tri bst chs nxt mlen mnodes mlinks mwk bcode hass kwk hsh buf tab mdeg mrot plc marr mdep fsr snr chn aft krot kplc karr kdep y1 y2 y3 hI
  obtain ⟨⟨rfl, rfl, q, hq, rfl⟩, hR⟩ := hI
  unfold f_X4_append f_X5_append f_X5_within
  by_cases c1 : y1 < 32
  · rw [if_pos c1, if_pos c1]
    exact ⟨_, _, rfl, rfl, rfl, ⟨rfl, rfl, q, hq, rfl⟩, hR⟩
  · rw [if_neg c1, if_neg c1]
    by_cases c2 : y1 ≤ 126
    · rw [if_pos c2, if_neg (show ¬ (126 : Int32) < y1 from fun h => absurd c2 (Int32.not_le.mpr h)), bnd_s, if_neg i10]
      by_cases c3 : q = 40
      · subst c3
        rw [if_neg (show ¬ nI 40 < (40 : Int32) by decide), if_pos (show nI 40 = (40 : Int32) by decide)]
        exact ⟨_, _, rfl, rfl, rfl, ⟨rfl, rfl, 40, hq, rfl⟩, hR⟩
      · simp only [if_pos (show nI q < (40 : Int32) from nI_lt (b := 40) (by omega) (by decide)), if_neg (show ¬ nI q = (40 : Int32) from fun e => c3 ((nI_eq (by omega) (b := 40) (by decide)).mp e)), grd_t (inB_n (show q < 40 by omega) (by decide)), nI_add1]
        exact ⟨_, _, rfl, rfl, rfl, ⟨rfl, rfl, q + 1, by omega, rfl⟩, hR⟩
    · rw [if_neg c2, if_pos (Int32.not_le.mp c2), bnd_s, if_pos rfl]
      exact ⟨_, _, rfl, rfl, rfl, ⟨rfl, rfl, q, hq, rfl⟩, hR⟩
theorem st_clearInput : St_clearInput LInv FUEL := by
  intro hask len codes nodes links deg nbr wk rot arv dep pos wkK rotK arvK depK posK node prot nodeA protA tri bst chs nxt mlen mnodes mlinks mwk bcode hass kwk hsh buf tab mdeg mrot plc marr mdep fsr snr chn aft krot kplc karr kdep y1 y2 y3 hI
  obtain ⟨⟨rfl, rfl, q, hq, rfl⟩, hR⟩ := hI
  exact ⟨_, _, rfl, rfl, rfl, ⟨rfl, rfl, 0, by omega, rfl⟩, hR⟩
theorem st_degree : St_degree LInv FUEL := by
  intro hask len codes nodes links deg nbr wk rot arv dep pos wkK rotK arvK depK posK node prot nodeA protA tri bst chs nxt mlen mnodes mlinks mwk bcode hass kwk hsh buf tab mdeg mrot plc marr mdep fsr snr chn aft krot kplc karr kdep y1 y2 y3 hI
  obtain ⟨hB, hH, n, m, d, nb, hG, hC, hM, hS, hK⟩ := id hI
  obtain ⟨rfl, rfl, -, -⟩ := id hC
  obtain ⟨rfl, rfl, -, -⟩ := id hM
  obtain ⟨n8, -, -⟩ := g_n8 hG
  unfold f_X4_degree f_X5_degree
  rcases node_cases (n := n) (by omega) y1 with ⟨e1, e2⟩ | ⟨v, hv, rfl, e1, e2⟩
  · rw [e1, e2]; exact ⟨_, _, rfl, rfl, rfl, hI⟩
  · simp only [e1, e2, bnd_s, if_neg i10, grd_t (inB_n (show v < 8 by omega) (by decide)), nI_clamp (show v < 2 ^ 31 by omega), hC.2.2.1 v hv, hM.2.2.1 v hv]
    exact ⟨_, _, rfl, rfl, rfl, hI⟩
theorem st_neighbor : St_neighbor LInv FUEL := by
  intro hask len codes nodes links deg nbr wk rot arv dep pos wkK rotK arvK depK posK node prot nodeA protA tri bst chs nxt mlen mnodes mlinks mwk bcode hass kwk hsh buf tab mdeg mrot plc marr mdep fsr snr chn aft krot kplc karr kdep y1 y2 y3 hI
  obtain ⟨hB, hH, n, m, d, nb, hG, hC, hM, hS, hK⟩ := id hI
  obtain ⟨rfl, rfl, -, -⟩ := id hC
  obtain ⟨rfl, rfl, -, -⟩ := id hM
  obtain ⟨n8, -, d7⟩ := g_n8 hG
  unfold f_X4_neighbor f_X5_neighbor
  rcases error_cases n8 d7 hC.2.2.1 hM.2.2.1 y1 y2 with ⟨e, h1, h2, e1, e2⟩ | ⟨v, i, hv, hi, rfl, rfl, e1, e2⟩
  · simp only [e1, e2, bnd_s, if_neg h1, if_neg h2]; exact ⟨_, _, rfl, rfl, rfl, hI⟩
  · have := d7 v hv
    simp only [e1, e2, bnd_s, if_true, if_pos le00, slot_n, show (8 : Int32) * nI v = nI (8 * v) from pk_mul 8 v, nI_add, grd_t (inB_n (show 7 * v + i < 56 by omega) (by decide)), grd_t (inB_n (show 8 * v + i < 64 by omega) (by decide)), nI_clamp (show 7 * v + i < 2 ^ 31 by omega), nI_clamp (show 8 * v + i < 2 ^ 31 by omega), hC.2.2.2 v hv i hi, hM.2.2.2 v hv i hi]
    exact ⟨_, _, rfl, rfl, rfl, hI⟩
theorem st_rotor : St_rotor LInv FUEL := by
  intro hask len codes nodes links deg nbr wk rot arv dep pos wkK rotK arvK depK posK node prot nodeA protA tri bst chs nxt mlen mnodes mlinks mwk bcode hass kwk hsh buf tab mdeg mrot plc marr mdep fsr snr chn aft krot kplc karr kdep y1 y2 y3 hI
  obtain ⟨hB, hH, n, m, d, nb, hG, hC, hM, ⟨k, a, hk, ha, hCR, hMR⟩, hK⟩ := id hI
  obtain ⟨rfl, rfl, -, -⟩ := id hC
  obtain ⟨rfl, rfl, -, -⟩ := id hM
  obtain ⟨rfl, -⟩ := id hCR
  obtain ⟨rfl, -⟩ := id hMR
  obtain ⟨n8, -, -⟩ := g_n8 hG
  unfold f_X4_rotor f_X5_rotor
  rcases node_cases (n := n) (by omega) y1 with ⟨e1, e2⟩ | ⟨v, hv, rfl, e1, e2⟩
  · rw [e1, e2]; exact ⟨_, _, rfl, rfl, rfl, hI⟩
  · simp only [e1, e2, bnd_s, if_neg i10, grd_t (inB_n (show v < 8 by omega) (by decide)), nI_clamp (show v < 2 ^ 31 by omega), hCR.2.1 v hv, hMR.2.1 v hv]
    exact ⟨_, _, rfl, rfl, rfl, hI⟩
theorem st_arrivals : St_arrivals LInv FUEL := by
  intro hask len codes nodes links deg nbr wk rot arv dep pos wkK rotK arvK depK posK node prot nodeA protA tri bst chs nxt mlen mnodes mlinks mwk bcode hass kwk hsh buf tab mdeg mrot plc marr mdep fsr snr chn aft krot kplc karr kdep y1 y2 y3 hI
  obtain ⟨hB, hH, n, m, d, nb, hG, hC, hM, ⟨k, a, hk, ha, hCR, hMR⟩, hK⟩ := id hI
  obtain ⟨rfl, rfl, -, -⟩ := id hC
  obtain ⟨rfl, rfl, -, -⟩ := id hM
  obtain ⟨rfl, -⟩ := id hCR
  obtain ⟨rfl, -⟩ := id hMR
  obtain ⟨n8, -, -⟩ := g_n8 hG
  unfold f_X4_arrivals f_X5_arrivals
  rcases node_cases (n := n) (by omega) y1 with ⟨e1, e2⟩ | ⟨v, hv, rfl, e1, e2⟩
  · rw [e1, e2]; exact ⟨_, _, rfl, rfl, rfl, hI⟩
  · simp only [e1, e2, bnd_s, if_neg i10, grd_t (inB_n (show v < 8 by omega) (by decide)), nI_clamp (show v < 2 ^ 31 by omega), hCR.2.2.1 v hv, hMR.2.2.1 v hv]
    exact ⟨_, _, rfl, rfl, rfl, hI⟩
theorem st_departures : St_departures LInv FUEL := by
  intro hask len codes nodes links deg nbr wk rot arv dep pos wkK rotK arvK depK posK node prot nodeA protA tri bst chs nxt mlen mnodes mlinks mwk bcode hass kwk hsh buf tab mdeg mrot plc marr mdep fsr snr chn aft krot kplc karr kdep y1 y2 y3 hI
  obtain ⟨hB, hH, n, m, d, nb, hG, hC, hM, ⟨k, a, hk, ha, hCR, hMR⟩, hK⟩ := id hI
  obtain ⟨rfl, rfl, -, -⟩ := id hC
  obtain ⟨rfl, rfl, -, -⟩ := id hM
  obtain ⟨rfl, -⟩ := id hCR
  obtain ⟨rfl, -⟩ := id hMR
  obtain ⟨n8, -, d7⟩ := g_n8 hG
  unfold f_X4_departures f_X5_departures
  rcases error_cases n8 d7 hC.2.2.1 hM.2.2.1 y1 y2 with ⟨e, h1, h2, e1, e2⟩ | ⟨v, i, hv, hi, rfl, rfl, e1, e2⟩
  · simp only [e1, e2, bnd_s, if_neg h1, if_neg h2]; exact ⟨_, _, rfl, rfl, rfl, hI⟩
  · have := d7 v hv
    simp only [e1, e2, bnd_s, if_true, if_pos le00, slot_n, show (8 : Int32) * nI v = nI (8 * v) from pk_mul 8 v, nI_add, grd_t (inB_n (show 7 * v + i < 56 by omega) (by decide)), grd_t (inB_n (show 8 * v + i < 64 by omega) (by decide)), nI_clamp (show 7 * v + i < 2 ^ 31 by omega), nI_clamp (show 8 * v + i < 2 ^ 31 by omega), hCR.2.2.2.1 v hv i hi, hMR.2.2.2.1 v hv i hi]
    exact ⟨_, _, rfl, rfl, rfl, hI⟩
theorem st_setRotor : St_setRotor LInv FUEL := by
  intro hask len codes nodes links deg nbr wk rot arv dep pos wkK rotK arvK depK posK node prot nodeA protA tri bst chs nxt mlen mnodes mlinks mwk bcode hass kwk hsh buf tab mdeg mrot plc marr mdep fsr snr chn aft krot kplc karr kdep y1 y2 y3 hI
  obtain ⟨hB, hH, n, m, d, nb, hG, hC, hM, ⟨k, a, hk, ha, hCR, hMR⟩, hK⟩ := id hI
  obtain ⟨rfl, rfl, -, -⟩ := id hC
  obtain ⟨rfl, rfl, -, -⟩ := id hM
  obtain ⟨rfl, -⟩ := id hCR
  obtain ⟨rfl, -⟩ := id hMR
  obtain ⟨n8, -, d7⟩ := g_n8 hG
  unfold f_X4_setRotor f_X5_setRotor
  rcases error_cases n8 d7 hC.2.2.1 hM.2.2.1 y1 y2 with ⟨e, h1, h2, e1, e2⟩ | ⟨v, i, hv, hi, rfl, rfl, e1, e2⟩
  · simp only [e1, e2, bnd_s, if_neg h1, if_neg h2]; exact ⟨_, _, rfl, rfl, rfl, hI⟩
  · simp only [e1, e2, bnd_s, if_true, if_pos le00, grd_t (inB_n (show v < 8 by omega) (by decide)), nI_clamp (show v < 2 ^ 31 by omega)]
    refine ⟨_, _, rfl, rfl, (hCR.2.1 v hv).trans (hMR.2.1 v hv).symm, hB, hH, n, m, d, nb, hG, hC, hM, ⟨k, ((a.1.1, va_up a.1.2 v i), a.2), hk, ⟨ha.1, fun w hw => ?_⟩, ⟨hCR.1, fun w hw => ?_, hCR.2.2.1, hCR.2.2.2.1, hCR.2.2.2.2⟩, ⟨hMR.1, fun w hw => ?_, hMR.2.2.1, hMR.2.2.2.1, hMR.2.2.2.2⟩⟩, hK⟩
    · show va_up _ _ _ w < d w
      unfold va_up
      by_cases e : w = v
      · rw [if_pos e, e]; exact hi
      · rw [if_neg e]; exact ha.2 w hw
    · show upd _ _ _ w = nI (va_up _ _ _ w)
      unfold va_up
      by_cases e : w = v
      · rw [if_pos e, e, upd_at]
      · rw [if_neg e, upd_ne _ _ e]; exact hCR.2.1 w hw
    · show upd _ _ _ w = nI (va_up _ _ _ w)
      unfold va_up
      by_cases e : w = v
      · rw [if_pos e, e, upd_at]
      · rw [if_neg e, upd_ne _ _ e]; exact hMR.2.1 w hw
theorem st_addWalker : St_addWalker LInv FUEL := by
  intro hask len codes nodes links deg nbr wk rot arv dep pos wkK rotK arvK depK posK node prot nodeA protA tri bst chs nxt mlen mnodes mlinks mwk bcode hass kwk hsh buf tab mdeg mrot plc marr mdep fsr snr chn aft krot kplc karr kdep y1 y2 y3 hI
  obtain ⟨hB, hH, n, m, d, nb, hG, hC, hM, ⟨k, a, hk, ha, hCR, hMR⟩, hK⟩ := id hI
  obtain ⟨rfl, rfl, -, -⟩ := id hC
  obtain ⟨rfl, rfl, -, -⟩ := id hM
  obtain ⟨rfl, -⟩ := id hCR
  obtain ⟨rfl, -⟩ := id hMR
  obtain ⟨n8, -, d7⟩ := g_n8 hG
  unfold f_X4_addWalker f_X5_addWalker
  rcases node_cases (n := n) (by omega) y1 with ⟨e1, e2⟩ | ⟨v, hv, rfl, e1, e2⟩
  · rw [e1, e2]; exact ⟨_, _, rfl, rfl, rfl, hI⟩
  · simp only [e1, e2, bnd_s, if_neg i10]
    by_cases c : k = 4
    · subst c
      rw [if_neg (show ¬ nI 4 < (4 : Int32) by decide), if_pos (show nI 4 = (4 : Int32) by decide)]; exact ⟨_, _, rfl, rfl, rfl, hI⟩
    · simp only [if_pos (show nI k < (4 : Int32) from nI_lt (b := 4) (by omega) (by decide)), if_neg (show ¬ nI k = (4 : Int32) from fun e => c ((nI_eq (by omega) (b := 4) (by decide)).mp e)), grd_t (inB_n (show k < 4 by omega) (by decide)), nI_add1, nI_clamp (show k < 2 ^ 31 by omega), nI_sub1 (show 1 ≤ k + 1 by omega)]
      refine ⟨_, _, rfl, rfl, rfl, hB, hH, n, m, d, nb, hG, hC, hM, ⟨k + 1, ((va_up a.1.1 k v, a.1.2), a.2), by omega, ⟨fun w hw => ?_, ha.2⟩, ⟨rfl, hCR.2.1, hCR.2.2.1, hCR.2.2.2.1, fun w hw => ?_⟩, ⟨rfl, hMR.2.1, hMR.2.2.1, hMR.2.2.2.1, fun w hw => ?_⟩⟩, hK⟩
      · show va_up _ _ _ w < n
        unfold va_up
        by_cases e : w = k
        · rw [if_pos e]; exact hv
        · rw [if_neg e]; exact ha.1 w (by omega)
      · show upd _ _ _ w = nI (va_up _ _ _ w)
        unfold va_up
        by_cases e : w = k
        · rw [if_pos e, e, upd_at]
        · rw [if_neg e, upd_ne _ _ e]; exact hCR.2.2.2.2 w (by omega)
      · show upd _ _ _ w = nI (va_up _ _ _ w)
        unfold va_up
        by_cases e : w = k
        · rw [if_pos e, e, upd_at]
        · rw [if_neg e, upd_ne _ _ e]; exact hMR.2.2.2.2 w (by omega)
theorem st_position : St_position LInv FUEL := by
  intro hask len codes nodes links deg nbr wk rot arv dep pos wkK rotK arvK depK posK node prot nodeA protA tri bst chs nxt mlen mnodes mlinks mwk bcode hass kwk hsh buf tab mdeg mrot plc marr mdep fsr snr chn aft krot kplc karr kdep y1 y2 y3 hI
  obtain ⟨hB, hH, n, m, d, nb, hG, hC, hM, ⟨k, a, hk, ha, hCR, hMR⟩, hK⟩ := id hI
  obtain ⟨rfl, rfl, -, -⟩ := id hC
  obtain ⟨rfl, rfl, -, -⟩ := id hM
  obtain ⟨rfl, -⟩ := id hCR
  obtain ⟨rfl, -⟩ := id hMR
  unfold f_X4_position f_X5_position
  rcases walker_cases (n := k) (by omega) y1 with ⟨e1, e2⟩ | ⟨v, hv, rfl, e1, e2⟩
  · rw [e1, e2]; exact ⟨_, _, rfl, rfl, rfl, hI⟩
  · simp only [e1, e2, bnd_s, if_neg i10, grd_t (inB_n (show v < 4 by omega) (by decide)), nI_clamp (show v < 2 ^ 31 by omega), hCR.2.2.2.2 v hv, hMR.2.2.2.2 v hv]
    exact ⟨_, _, rfl, rfl, rfl, hI⟩
theorem st_walkerCount : St_walkerCount LInv FUEL := by
  intro hask len codes nodes links deg nbr wk rot arv dep pos wkK rotK arvK depK posK node prot nodeA protA tri bst chs nxt mlen mnodes mlinks mwk bcode hass kwk hsh buf tab mdeg mrot plc marr mdep fsr snr chn aft krot kplc karr kdep y1 y2 y3 hI
  obtain ⟨hB, hH, n, m, d, nb, hG, hC, hM, ⟨k, a, hk, ha, hCR, hMR⟩, hK⟩ := id hI
  obtain ⟨rfl, rfl, -, -⟩ := id hC
  obtain ⟨rfl, rfl, -, -⟩ := id hM
  obtain ⟨rfl, -⟩ := id hCR
  obtain ⟨rfl, -⟩ := id hMR
  exact ⟨_, _, rfl, rfl, rfl, hI⟩
theorem st_linkCount : St_linkCount LInv FUEL := by
  intro hask len codes nodes links deg nbr wk rot arv dep pos wkK rotK arvK depK posK node prot nodeA protA tri bst chs nxt mlen mnodes mlinks mwk bcode hass kwk hsh buf tab mdeg mrot plc marr mdep fsr snr chn aft krot kplc karr kdep y1 y2 y3 hI
  obtain ⟨hB, hH, n, m, d, nb, hG, hC, hM, hR⟩ := id hI
  obtain ⟨rfl, rfl, -, -⟩ := id hC
  obtain ⟨rfl, rfl, -, -⟩ := id hM
  exact ⟨_, _, rfl, rfl, rfl, hI⟩
