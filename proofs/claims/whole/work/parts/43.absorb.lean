/-! absorb -/
noncomputable def hitT (d : Nat → Nat) (nb : Nat → Nat → Nat) (w sink : Nat) (a : AS) : Nat := Classical.epsilon (fun t => t ≤ SB ∧ (aMvs d nb w a t).1.1 w = sink ∧ ∀ j, j < t → (aMvs d nb w a j).1.1 w ≠ sink)
/-- one walker after the other: the state and the steps when j of them are done -/
noncomputable def obo (d : Nat → Nat) (nb : Nat → Nat → Nat) (sink : Nat) (a : AS) : Nat → AS × Nat
  | 0 => (a, 0)
  | j + 1 => (aMvs d nb j (obo d nb sink a j).1 (hitT d nb j sink (obo d nb sink a j).1), (obo d nb sink a j).2 + hitT d nb j sink (obo d nb sink a j).1)
/-- a pass: the state and the moves when j walkers are done -/
def aPs (d : Nat → Nat) (nb : Nat → Nat → Nat) (sink : Nat) (a : AS) : Nat → AS × Nat
  | 0 => (a, 0)
  | j + 1 => if (aPs d nb sink a j).1.1.1 j = sink then aPs d nb sink a j else (aMv d nb j (aPs d nb sink a j).1, (aPs d nb sink a j).2 + 1)
def aR (d : Nat → Nat) (nb : Nat → Nat → Nat) (sink k : Nat) (a : AS) : Nat → AS
  | 0 => a
  | j + 1 => (aPs d nb sink (aR d nb sink k a j) k).1
def aT (d : Nat → Nat) (nb : Nat → Nat → Nat) (sink k : Nat) (a : AS) (j : Nat) : Nat := sm (fun i => (aPs d nb sink (aR d nb sink k a i) k).2) j
section AB
variable {n m k : Nat} {d : Nat → Nat} {nb : Nat → Nat → Nat} {nodes links mnodes mlinks wk mwk : Int32} {deg nbr mdeg tab rot arv dep pos mrot plc marr mdep : Nat → Int32} {a : AS} {sink : Nat}
theorem hitT_spec (G : GR n m d nb) (ha : mvld n k d a.1) {w : Nat} (hw : w < k) (hs : sink < n) : hitT d nb w sink a ≤ SB ∧ (aMvs d nb w a (hitT d nb w sink a)).1.1 w = sink ∧ ∀ j, j < hitT d nb w sink a → (aMvs d nb w a j).1.1 w ≠ sink := by
  refine Classical.epsilon_spec (p := fun t => t ≤ SB ∧ (aMvs d nb w a t).1.1 w = sink ∧ ∀ j, j < t → (aMvs d nb w a j).1.1 w ≠ sink) ?_
  obtain ⟨t, h1, h2, h3⟩ := mvs_hit G ha hw hs
  exact ⟨t, h1, by rw [aMvs_1]; exact h2, fun j hj => by rw [aMvs_1]; exact h3 j hj⟩
theorem obo_ok (G : GR n m d nb) (ha : mvld n k d a.1) (hs : sink < n) : ∀ j, j ≤ k → mvld n k d (obo d nb sink a j).1.1 ∧ (obo d nb sink a j).2 ≤ j * SB ∧ ∀ w, w < j → (obo d nb sink a j).1.1.1 w = sink := by
  intro j
  induction j with
  | zero => intro _; exact ⟨ha, by show 0 ≤ _; omega, fun w h => absurd h (by omega)⟩
  | succ j ih =>
    intro hj
    obtain ⟨h1, h2, h3⟩ := ih (by omega)
    obtain ⟨t1, t2, -⟩ := hitT_spec G h1 (show j < k by omega) hs
    refine ⟨aMvs_vld G h1 (show j < k by omega) _, ?_, fun w hw => ?_⟩
    · show (obo d nb sink a j).2 + _ ≤ _
      rw [Nat.succ_mul]; omega
    · show (aMvs d nb j _ _).1.1 w = sink
      by_cases e : w = j
      · rw [e]; exact t2
      · rw [aMvs_1, (mvs_run _ j _).2 w e]; exact h3 w (by omega)
theorem inner_C (G : GR n m d nb) (hG : GC n m d nb nodes links deg nbr) (hk : k ≤ 4) (ha : mvld n k d a.1) (h : CR n d k a wk rot arv dep pos) {w T : Nat} (hw : w < k) (hs : sink < n) (hT : T + SB < 1000000) {N : Nat} (hN : SB < N) : ∃ u, iter (b_X4_absorbOneByOne_15 deg nbr (nI sink) (nI w)) N (nI T, rot, arv, dep, pos) = some u ∧ u.1 = nI (T + hitT d nb w sink a) ∧ CR n d k (aMvs d nb w a (hitT d nb w sink a)) wk u.2.1 u.2.2.1 u.2.2.2.1 u.2.2.2.2 := by
  obtain ⟨t1, t2, t3⟩ := hitT_spec G ha hw hs
  have hn8 := G.2.1
  refine iter_for (body := b_X4_absorbOneByOne_15 deg nbr (nI sink) (nI w)) (hitT d nb w sink a) (fun i st => st.1 = nI (T + i) ∧ CR n d k (aMvs d nb w a i) wk st.2.1 st.2.2.1 st.2.2.2.1 st.2.2.2.2) (fun u => u.1 = nI (T + hitT d nb w sink a) ∧ CR n d k (aMvs d nb w a (hitT d nb w sink a)) wk u.2.1 u.2.2.1 u.2.2.2.1 u.2.2.2.2) ?_ ?_ (by omega) ⟨rfl, h⟩
  · intro i st hi hI
    obtain ⟨e, hI⟩ := hI
    have hv := aMvs_vld G ha hw i
    obtain ⟨u, h1, h2⟩ := move_C G hG hk hv hI hw
    refine ⟨(st.1 + 1, u.1, u.2.1, u.2.2.1, u.2.2.2), ?_, by rw [e]; exact nI_add1 _, h2⟩
    unfold b_X4_absorbOneByOne_15
    have e1 : st.2.2.2.2 w = nI ((aMvs d nb w a i).1.1 w) := hI.2.2.2.2 w hw
    have e2 := hv.1 w hw
    rw [grd_t (inB_n (show w < 4 by omega) (by decide)), nI_clamp (by omega), e1, if_neg (fun q => t3 i hi ((nI_eq (by omega) (by omega)).mp q)), e, if_neg (show ¬ (1000000 : Int32) ≤ nI (T + i) from nI_ge (b := 1000000) (by omega) (by decide)), h1]
    rfl
  · intro st hI
    obtain ⟨e, hI⟩ := hI
    refine ⟨_, ?_, e, hI⟩
    unfold b_X4_absorbOneByOne_15
    have e1 : st.2.2.2.2 w = nI ((aMvs d nb w a (hitT d nb w sink a)).1.1 w) := hI.2.2.2.2 w hw
    rw [grd_t (inB_n (show w < 4 by omega) (by decide)), nI_clamp (by omega), e1, t2, if_pos rfl]
theorem inner_M (G : GR n m d nb) (hG : GM n m d nb nodes links mdeg tab) (hk : k ≤ 4) (ha : mvld n k d a.1) (h : MR n d k a mwk mrot marr mdep plc) {w T : Nat} (hw : w < k) (hs : sink < n) {N : Nat} (hN : SB < N) : ∃ u, iter (b_X5_absorb_29 tab mdeg (nI sink) (nI w)) N (nI T, mrot, plc, marr, mdep) = some u ∧ u.1 = nI (T + hitT d nb w sink a) ∧ MR n d k (aMvs d nb w a (hitT d nb w sink a)) mwk u.2.1 u.2.2.2.1 u.2.2.2.2 u.2.2.1 := by
  obtain ⟨t1, t2, t3⟩ := hitT_spec G ha hw hs
  have hn8 := G.2.1
  refine iter_for (body := b_X5_absorb_29 tab mdeg (nI sink) (nI w)) (hitT d nb w sink a) (fun i st => st.1 = nI (T + i) ∧ MR n d k (aMvs d nb w a i) mwk st.2.1 st.2.2.2.1 st.2.2.2.2 st.2.2.1) (fun u => u.1 = nI (T + hitT d nb w sink a) ∧ MR n d k (aMvs d nb w a (hitT d nb w sink a)) mwk u.2.1 u.2.2.2.1 u.2.2.2.2 u.2.2.1) ?_ ?_ (by omega) ⟨rfl, h⟩
  · intro i st hi hI
    obtain ⟨e, hI⟩ := hI
    have hv := aMvs_vld G ha hw i
    obtain ⟨u, h1, h2⟩ := move_M G hG hk hv hI hw
    refine ⟨(st.1 + 1, u.1, u.2.1, u.2.2.1, u.2.2.2), ?_, by rw [e]; exact nI_add1 _, h2⟩
    unfold b_X5_absorb_29
    have e1 : st.2.2.1 w = nI ((aMvs d nb w a i).1.1 w) := hI.2.2.2.2 w hw
    have e2 := hv.1 w hw
    rw [grd_t (inB_n (show w < 4 by omega) (by decide)), nI_clamp (by omega), e1, if_neg (fun q => t3 i hi ((nI_eq (by omega) (by omega)).mp q)), h1]
    rfl
  · intro st hI
    obtain ⟨e, hI⟩ := hI
    refine ⟨_, ?_, e, hI⟩
    unfold b_X5_absorb_29
    have e1 : st.2.2.1 w = nI ((aMvs d nb w a (hitT d nb w sink a)).1.1 w) := hI.2.2.2.2 w hw
    rw [grd_t (inB_n (show w < 4 by omega) (by decide)), nI_clamp (by omega), e1, t2, if_pos rfl]
theorem one_C (G : GR n m d nb) (hG : GC n m d nb nodes links deg nbr) (hk : k ≤ 4) (ha : mvld n k d a.1) (h : CR n d k a wk rot arv dep pos) (hs : sink < n) {N : Nat} (hN : SB < N) : ∃ u, f_X4_absorbOneByOne N deg nbr wk rot arv dep pos (nI sink) = some u ∧ u.1 = nI (obo d nb sink a k).2 ∧ CR n d k (obo d nb sink a k).1 wk u.2.1 u.2.2.1 u.2.2.2.1 u.2.2.2.2 := by
  obtain ⟨rfl, -⟩ := id h
  have hSB : SB = 52488 := rfl
  obtain ⟨u, h1, h2⟩ := iter_for (body := b_X4_absorbOneByOne_4 N deg nbr (nI k) (nI sink)) k (fun i st => st.1 = nI (obo d nb sink a i).2 ∧ st.2.1 = nI i ∧ CR n d k (obo d nb sink a i).1 (nI k) st.2.2.1 st.2.2.2.1 st.2.2.2.2.1 st.2.2.2.2.2) (fun u => u.1 = nI (obo d nb sink a k).2 ∧ CR n d k (obo d nb sink a k).1 (nI k) u.2.1 u.2.2.1 u.2.2.2.1 u.2.2.2.2) (by
      intro i st hi hI
      obtain ⟨e, e2, hI⟩ := hI
      obtain ⟨o1, o2, -⟩ := obo_ok G ha hs i (by omega)
      have o3 : i * SB ≤ 3 * SB := Nat.mul_le_mul_right _ (by omega)
      obtain ⟨u, h1, h2, h3⟩ := inner_C G hG hk o1 hI hi hs (T := (obo d nb sink a i).2) (by omega) (N := N) hN
      refine ⟨(u.1, st.2.1 + 1, u.2.1, u.2.2.1, u.2.2.2.1, u.2.2.2.2), ?_, h2, by rw [e2]; exact nI_add1 i, h3⟩
      unfold b_X4_absorbOneByOne_4
      rw [e, e2, if_neg (nI_ge hi (by omega)), h1]
      rfl) (by
      intro st hI
      obtain ⟨e, e2, hI⟩ := hI
      refine ⟨(st.1, st.2.2.1, st.2.2.2.1, st.2.2.2.2.1, st.2.2.2.2.2), ?_, e, hI⟩
      unfold b_X4_absorbOneByOne_4
      rw [e2, if_pos (nI_le (Nat.le_refl k) (by omega))]) (N := N) (by omega) (s := ((0 : Int32), (0 : Int32), rot, arv, dep, pos)) ⟨rfl, rfl, h⟩
  refine ⟨_, ?_, h2⟩
  unfold f_X4_absorbOneByOne
  rw [h1]
  rfl
theorem one_M (G : GR n m d nb) (hG : GM n m d nb nodes links mdeg tab) (hk : k ≤ 4) (ha : mvld n k d a.1) (h : MR n d k a mwk mrot marr mdep plc) (hs : sink < n) {N : Nat} (hN : SB < N) : ∃ u, iter (b_X5_absorb_16 N mwk tab mdeg (nI sink) 0) N (0, 0, mrot, plc, marr, mdep) = some u ∧ u.1 = nI (obo d nb sink a k).2 ∧ MR n d k (obo d nb sink a k).1 mwk u.2.1 u.2.2.2.1 u.2.2.2.2 u.2.2.1 := by
  obtain ⟨rfl, -⟩ := id h
  have hSB : SB = 52488 := rfl
  refine iter_for (body := b_X5_absorb_16 N (nI k) tab mdeg (nI sink) 0) k (fun i st => st.1 = nI (obo d nb sink a i).2 ∧ st.2.1 = nI i ∧ MR n d k (obo d nb sink a i).1 (nI k) st.2.2.1 st.2.2.2.2.1 st.2.2.2.2.2 st.2.2.2.1) (fun u => u.1 = nI (obo d nb sink a k).2 ∧ MR n d k (obo d nb sink a k).1 (nI k) u.2.1 u.2.2.2.1 u.2.2.2.2 u.2.2.1) ?_ ?_ (by omega) ⟨rfl, rfl, h⟩
  · intro i st hi hI
    obtain ⟨e, e2, hI⟩ := hI
    obtain ⟨o1, -, -⟩ := obo_ok G ha hs i (by omega)
    obtain ⟨u, h1, h2, h3⟩ := inner_M G hG hk o1 hI hi hs (T := (obo d nb sink a i).2) (N := N) hN
    refine ⟨(u.1, st.2.1 + 1, u.2.1, u.2.2.1, u.2.2.2.1, u.2.2.2.2), ?_, h2, by rw [e2]; exact nI_add1 i, h3⟩
    unfold b_X5_absorb_16
    rw [e, e2, if_neg (nI_ge hi (by omega)), if_pos rfl, h1]
    rfl
  · intro st hI
    obtain ⟨e, e2, hI⟩ := hI
    refine ⟨(st.1, st.2.2.1, st.2.2.2.1, st.2.2.2.2.1, st.2.2.2.2.2), ?_, e, hI⟩
    unfold b_X5_absorb_16
    rw [e2, if_pos (nI_le (Nat.le_refl k) (by omega))]
theorem aPs_vld (G : GR n m d nb) (ha : mvld n k d a.1) : ∀ j, j ≤ k → mvld n k d (aPs d nb sink a j).1.1 := by
  intro j
  induction j with
  | zero => intro _; exact ha
  | succ j ih =>
    intro hj
    have h1 := ih (by omega)
    unfold aPs
    by_cases c : (aPs d nb sink a j).1.1.1 j = sink
    · rw [if_pos c]; exact h1
    · rw [if_neg c]; exact mv_vld G h1 (by omega)
theorem aPs_le (j : Nat) : (aPs d nb sink a j).2 ≤ j := by
  induction j with
  | zero => exact Nat.le_refl _
  | succ j ih =>
    unfold aPs
    by_cases c : (aPs d nb sink a j).1.1.1 j = sink
    · rw [if_pos c]; omega
    · rw [if_neg c]; show (aPs d nb sink a j).2 + 1 ≤ j + 1; omega
theorem pass_C (G : GR n m d nb) (hG : GC n m d nb nodes links deg nbr) (hk : k ≤ 4) (ha : mvld n k d a.1) (h : CR n d k a wk rot arv dep pos) (hs : sink < n) {N : Nat} (hN : SB < N) : ∃ u, f_X4_makePass N deg nbr wk rot arv dep pos (nI sink) = some u ∧ u.1 = nI (aPs d nb sink a k).2 ∧ CR n d k (aPs d nb sink a k).1 wk u.2.1 u.2.2.1 u.2.2.2.1 u.2.2.2.2 := by
  obtain ⟨rfl, -⟩ := id h
  have hSB : SB = 52488 := rfl
  have hn8 := G.2.1
  obtain ⟨u, h1, h2⟩ := iter_for (body := b_X4_makePass_4 deg nbr (nI k) (nI sink)) k (fun i st => st.1 = nI (aPs d nb sink a i).2 ∧ st.2.1 = nI i ∧ CR n d k (aPs d nb sink a i).1 (nI k) st.2.2.1 st.2.2.2.1 st.2.2.2.2.1 st.2.2.2.2.2) (fun u => u.1 = nI (aPs d nb sink a k).2 ∧ CR n d k (aPs d nb sink a k).1 (nI k) u.2.1 u.2.2.1 u.2.2.2.1 u.2.2.2.2) (by
      intro i st hi hI
      obtain ⟨e, e2, hI⟩ := hI
      have hv := aPs_vld (sink := sink) G ha i (by omega)
      have e3 : st.2.2.2.2.2 i = nI ((aPs d nb sink a i).1.1.1 i) := hI.2.2.2.2 i hi
      have e4 := hv.1 i hi
      by_cases c : (aPs d nb sink a i).1.1.1 i = sink
      · refine ⟨(st.1, st.2.1 + 1, st.2.2.1, st.2.2.2.1, st.2.2.2.2.1, st.2.2.2.2.2), ?_, ?_, by rw [e2]; exact nI_add1 i, ?_⟩
        · unfold b_X4_makePass_4
          rw [e2, if_neg (nI_ge hi (by omega)), grd_t (inB_n (show i < 4 by omega) (by decide)), nI_clamp (by omega), e3, c, if_pos rfl]
        · unfold aPs; rw [if_pos c]; exact e
        · unfold aPs; rw [if_pos c]; exact hI
      · obtain ⟨u, h1, h2⟩ := move_C G hG hk hv hI hi
        refine ⟨(st.1 + 1, st.2.1 + 1, u.1, u.2.1, u.2.2.1, u.2.2.2), ?_, ?_, by rw [e2]; exact nI_add1 i, ?_⟩
        · unfold b_X4_makePass_4
          rw [e2, if_neg (nI_ge hi (by omega)), grd_t (inB_n (show i < 4 by omega) (by decide)), nI_clamp (by omega), e3, if_neg (fun q => c ((nI_eq (by omega) (by omega)).mp q)), h1]
          rfl
        · unfold aPs; rw [if_neg c, e]; exact nI_add1 _
        · unfold aPs; rw [if_neg c]; exact h2) (by
      intro st hI
      obtain ⟨e, e2, hI⟩ := hI
      refine ⟨(st.1, st.2.2.1, st.2.2.2.1, st.2.2.2.2.1, st.2.2.2.2.2), ?_, e, hI⟩
      unfold b_X4_makePass_4
      rw [e2, if_pos (nI_le (Nat.le_refl k) (by omega))]) (N := N) (by omega) (s := ((0 : Int32), (0 : Int32), rot, arv, dep, pos)) ⟨rfl, rfl, h⟩
  refine ⟨_, ?_, h2⟩
  unfold f_X4_makePass
  rw [h1]
  rfl
theorem pass_M (G : GR n m d nb) (hG : GM n m d nb nodes links mdeg tab) (hk : k ≤ 4) (ha : mvld n k d a.1) (h : MR n d k a mwk mrot marr mdep plc) (hs : sink < n) {N : Nat} (hN : SB < N) : ∃ u, f_X5_pass N mwk tab mdeg mrot plc marr mdep (nI sink) = some u ∧ u.1 = nI (aPs d nb sink a k).2 ∧ MR n d k (aPs d nb sink a k).1 mwk u.2.1 u.2.2.2.1 u.2.2.2.2 u.2.2.1 := by
  obtain ⟨rfl, -⟩ := id h
  have hSB : SB = 52488 := rfl
  have hn8 := G.2.1
  obtain ⟨u, h1, h2⟩ := iter_for (body := b_X5_pass_4 (nI k) tab mdeg (nI sink)) k (fun i st => st.1 = nI (aPs d nb sink a i).2 ∧ st.2.1 = nI i ∧ MR n d k (aPs d nb sink a i).1 (nI k) st.2.2.1 st.2.2.2.2.1 st.2.2.2.2.2 st.2.2.2.1) (fun u => u.1 = nI (aPs d nb sink a k).2 ∧ MR n d k (aPs d nb sink a k).1 (nI k) u.2.1 u.2.2.2.1 u.2.2.2.2 u.2.2.1) (by
      intro i st hi hI
      obtain ⟨e, e2, hI⟩ := hI
      have hv := aPs_vld (sink := sink) G ha i (by omega)
      have e3 : st.2.2.2.1 i = nI ((aPs d nb sink a i).1.1.1 i) := hI.2.2.2.2 i hi
      have e4 := hv.1 i hi
      by_cases c : (aPs d nb sink a i).1.1.1 i = sink
      · refine ⟨(st.1, st.2.1 + 1, st.2.2.1, st.2.2.2.1, st.2.2.2.2.1, st.2.2.2.2.2), ?_, ?_, by rw [e2]; exact nI_add1 i, ?_⟩
        · unfold b_X5_pass_4
          rw [e2, if_neg (nI_ge hi (by omega)), grd_t (inB_n (show i < 4 by omega) (by decide)), nI_clamp (by omega), e3, c, if_pos rfl]
        · unfold aPs; rw [if_pos c]; exact e
        · unfold aPs; rw [if_pos c]; exact hI
      · obtain ⟨u, h1, h2⟩ := move_M G hG hk hv hI hi
        refine ⟨(st.1 + 1, st.2.1 + 1, u.1, u.2.1, u.2.2.1, u.2.2.2), ?_, ?_, by rw [e2]; exact nI_add1 i, ?_⟩
        · unfold b_X5_pass_4
          rw [e2, if_neg (nI_ge hi (by omega)), grd_t (inB_n (show i < 4 by omega) (by decide)), nI_clamp (by omega), e3, if_neg (fun q => c ((nI_eq (by omega) (by omega)).mp q)), h1]
          rfl
        · unfold aPs; rw [if_neg c, e]; exact nI_add1 _
        · unfold aPs; rw [if_neg c]; exact h2) (by
      intro st hI
      obtain ⟨e, e2, hI⟩ := hI
      refine ⟨(st.1, st.2.2.1, st.2.2.2.1, st.2.2.2.2.1, st.2.2.2.2.2), ?_, e, hI⟩
      unfold b_X5_pass_4
      rw [e2, if_pos (nI_le (Nat.le_refl k) (by omega))]) (N := N) (by omega) (s := ((0 : Int32), (0 : Int32), mrot, plc, marr, mdep)) ⟨rfl, rfl, h⟩
  refine ⟨_, ?_, h2⟩
  unfold f_X5_pass
  rw [h1]
  rfl
/-- a pass makes no more moves than the rest state allows -/
theorem pass_odo (G : GR n m d nb) {s0 sE : Mf} {o oE : Nat → Nat} (h0 : mvld n k d s0) (ha : mvld n k d a.1) (ho : odo n k d nb s0 a.1 o) (hE : odo n k d nb s0 sE oE) (hr : ∀ w, w < k → sE.1 w = sink) (hle : ∀ v, v < n → o v ≤ oE v) : ∀ j, j ≤ k → ∃ o', odo n k d nb s0 (aPs d nb sink a j).1.1 o' ∧ (∀ v, v < n → o' v ≤ oE v) ∧ sm o' n = sm o n + (aPs d nb sink a j).2 := by
  intro j
  induction j with
  | zero => intro _; exact ⟨o, ho, hle, rfl⟩
  | succ j ih =>
    intro hj
    obtain ⟨o', h1, h2, h3⟩ := ih (by omega)
    have hv := aPs_vld (sink := sink) G ha j (by omega)
    unfold aPs
    by_cases c : (aPs d nb sink a j).1.1.1 j = sink
    · rw [if_pos c]; exact ⟨o', h1, h2, h3⟩
    · rw [if_neg c]
      refine ⟨_, odo_mv G h0 hv h1 (show j < k by omega), least_act G hv h1 hE hr h2 (show j < k by omega) c, ?_⟩
      rw [odo_sum (hv.1 j (by omega)), h3]
      rfl
theorem aR_ok (G : GR n m d nb) (ha : mvld n k d a.1) (hs : sink < n) : ∀ j, mvld n k d (aR d nb sink k a j).1 ∧ aT d nb sink k a j ≤ k * SB := by
  obtain ⟨sE, oE, -, e2, e3, e4⟩ := rest_ex G ha hs k (Nat.le_refl k)
  have key : ∀ j, mvld n k d (aR d nb sink k a j).1 ∧ ∃ o, odo n k d nb a.1 (aR d nb sink k a j).1 o ∧ (∀ v, v < n → o v ≤ oE v) ∧ sm o n = aT d nb sink k a j := by
    intro j
    induction j with
    | zero => exact ⟨ha, fun _ => 0, odo_0 ha, fun v _ => Nat.zero_le _, sm_zero n⟩
    | succ j ih =>
      obtain ⟨h1, o, h2, h3, h4⟩ := ih
      obtain ⟨o', g1, g2, g3⟩ := pass_odo G ha h1 h2 e2 e4 h3 k (Nat.le_refl k)
      exact ⟨aPs_vld (sink := sink) G h1 k (Nat.le_refl k), o', g1, g2, by rw [g3, h4]; rfl⟩
  intro j
  obtain ⟨h1, o, -, h3, h4⟩ := key j
  refine ⟨h1, ?_⟩
  rw [← h4]
  exact Nat.le_trans (sm_le h3) e3
/-- some pass makes no move -/
theorem aR_end (G : GR n m d nb) (ha : mvld n k d a.1) (hk : k ≤ 4) (hs : sink < n) : ∃ J, J ≤ 4 * SB ∧ (aPs d nb sink (aR d nb sink k a J) k).2 = 0 ∧ ∀ j, j < J → ¬ (aPs d nb sink (aR d nb sink k a j) k).2 = 0 := by
  have hx : ∃ J, J ≤ 4 * SB ∧ (aPs d nb sink (aR d nb sink k a J) k).2 = 0 := by
    refine Classical.byContradiction (fun q => ?_)
    have h1 : sm (fun _ => 1) (4 * SB + 1) ≤ aT d nb sink k a (4 * SB + 1) := sm_le (fun i hi => by
      rcases Nat.eq_zero_or_pos (aPs d nb sink (aR d nb sink k a i) k).2 with e | e
      · exact absurd ⟨i, by omega, e⟩ q
      · exact e)
    have h2 := (aR_ok G ha hs (4 * SB + 1)).2
    have h3 : k * SB ≤ 4 * SB := Nat.mul_le_mul_right _ hk
    rw [sm_const] at h1
    omega
  obtain ⟨b, hb, hb2⟩ := hx
  obtain ⟨J, h1, h2, h3⟩ := leastP (fun J => (aPs d nb sink (aR d nb sink k a J) k).2 = 0) hb2
  exact ⟨J, by omega, h2, h3⟩
theorem turns_C (G : GR n m d nb) (hG : GC n m d nb nodes links deg nbr) (hk : k ≤ 4) (ha : mvld n k d a.1) (h : CR n d k a wk rot arv dep pos) (hs : sink < n) {J : Nat} (hJ : J ≤ 4 * SB) (hz : (aPs d nb sink (aR d nb sink k a J) k).2 = 0) (hnz : ∀ j, j < J → ¬ (aPs d nb sink (aR d nb sink k a j) k).2 = 0) {N : Nat} (hN : 4 * SB < N) : ∃ u, f_X4_absorbInTurns N deg nbr wk rot arv dep pos (nI sink) = some u ∧ u.1 = nI (aT d nb sink k a J) ∧ CR n d k (aR d nb sink k a (J + 1)) wk u.2.1 u.2.2.1 u.2.2.2.1 u.2.2.2.2 := by
  have hSB : SB = 52488 := rfl
  obtain ⟨u, h1, v, rfl, h2⟩ := iter_for (body := b_X4_absorbInTurns_4 N deg nbr wk (nI sink)) J (fun i st => st.1 = nI (aT d nb sink k a i) ∧ st.2.1 = nI i ∧ CR n d k (aR d nb sink k a i) wk st.2.2.1 st.2.2.2.1 st.2.2.2.2.1 st.2.2.2.2.2) (fun u => ∃ v, u = .inr v ∧ v.1 = nI (aT d nb sink k a J) ∧ CR n d k (aR d nb sink k a (J + 1)) wk v.2.1 v.2.2.1 v.2.2.2.1 v.2.2.2.2) (by
      intro i st hi hI
      obtain ⟨e, e2, hI⟩ := hI
      obtain ⟨u, h1, h2, h3⟩ := pass_C G hG hk (aR_ok G ha hs i).1 hI hs (N := N) (by omega)
      have hl := aPs_le (d := d) (nb := nb) (sink := sink) (a := aR d nb sink k a i) k
      refine ⟨(st.1 + u.1, st.2.1 + 1, u.2.1, u.2.2.1, u.2.2.2.1, u.2.2.2.2), ?_, by rw [e, h2, nI_add]; rfl, by rw [e2]; exact nI_add1 i, h3⟩
      unfold b_X4_absorbInTurns_4
      rw [e2, if_neg (show ¬ (1000000 : Int32) ≤ nI i from nI_ge (b := 1000000) (by omega) (by decide)), h1, bnd_s, h2, if_neg (fun q => hnz i hi ((nI_z (by omega)).mp q))]) (by
      intro st hI
      obtain ⟨e, e2, hI⟩ := hI
      obtain ⟨u, h1, h2, h3⟩ := pass_C G hG hk (aR_ok G ha hs J).1 hI hs (N := N) (by omega)
      refine ⟨.inr (st.1, u.2.1, u.2.2.1, u.2.2.2.1, u.2.2.2.2), ?_, _, rfl, e, h3⟩
      unfold b_X4_absorbInTurns_4
      rw [e2, if_neg (show ¬ (1000000 : Int32) ≤ nI J from nI_ge (b := 1000000) (by omega) (by decide)), h1, bnd_s, h2, hz, if_pos (show nI 0 = 0 from rfl)]) (N := N) (by omega) (s := ((0 : Int32), (0 : Int32), rot, arv, dep, pos)) ⟨rfl, rfl, h⟩
  refine ⟨_, ?_, h2⟩
  unfold f_X4_absorbInTurns
  rw [h1]
  rfl
theorem turns_M (G : GR n m d nb) (hG : GM n m d nb nodes links mdeg tab) (hk : k ≤ 4) (ha : mvld n k d a.1) {T0 : Nat} (u0 : Int32 × (Nat → Int32) × (Nat → Int32) × (Nat → Int32) × (Nat → Int32)) (hu0 : u0.1 = nI (aPs d nb sink a k).2) (h : MR n d k (aPs d nb sink a k).1 mwk u0.2.1 u0.2.2.2.1 u0.2.2.2.2 u0.2.2.1) (hs : sink < n) {J : Nat} (hJ : J ≤ 4 * SB) (hz : (aPs d nb sink (aR d nb sink k a J) k).2 = 0) (hnz : ∀ j, j < J → ¬ (aPs d nb sink (aR d nb sink k a j) k).2 = 0) {N : Nat} (hN : 4 * SB < N) : ∃ u, iter (b_X5_absorb_65 N mwk tab mdeg (nI sink)) N (nI T0, u0.1, u0.2.1, u0.2.2.1, u0.2.2.2.1, u0.2.2.2.2) = some u ∧ u.1 = nI (T0 + aT d nb sink k a J) ∧ MR n d k (aR d nb sink k a (J + 1)) mwk u.2.1 u.2.2.2.1 u.2.2.2.2 u.2.2.1 := by
  have hSB : SB = 52488 := rfl
  refine iter_for (body := b_X5_absorb_65 N mwk tab mdeg (nI sink)) J (fun i st => st.1 = nI (T0 + aT d nb sink k a i) ∧ st.2.1 = nI (aPs d nb sink (aR d nb sink k a i) k).2 ∧ MR n d k (aR d nb sink k a (i + 1)) mwk st.2.2.1 st.2.2.2.2.1 st.2.2.2.2.2 st.2.2.2.1) (fun u => u.1 = nI (T0 + aT d nb sink k a J) ∧ MR n d k (aR d nb sink k a (J + 1)) mwk u.2.1 u.2.2.2.1 u.2.2.2.2 u.2.2.1) ?_ ?_ (by omega) ⟨rfl, hu0, h⟩
  · intro i st hi hI
    obtain ⟨e, e2, hI⟩ := hI
    have hl := aPs_le (d := d) (nb := nb) (sink := sink) (a := aR d nb sink k a i) k
    have hn := hnz i hi
    obtain ⟨u, h1, h2, h3⟩ := pass_M G hG hk (aR_ok G ha hs (i + 1)).1 hI hs (N := N) (by omega)
    refine ⟨(st.1 + st.2.1, u.1, u.2.1, u.2.2.1, u.2.2.2.1, u.2.2.2.2), ?_, by rw [e, e2, nI_add, Nat.add_assoc]; rfl, h2, h3⟩
    unfold b_X5_absorb_65
    rw [e2, if_neg (nI_nle (by omega) (by omega)), h1]
    rfl
  · intro st hI
    obtain ⟨e, e2, hI⟩ := hI
    refine ⟨(st.1, st.2.2.1, st.2.2.2.1, st.2.2.2.2.1, st.2.2.2.2.2), ?_, e, hI⟩
    unfold b_X5_absorb_65
    rw [e2, hz, if_pos (show nI 0 ≤ 0 by decide)]
/-- at rest a pass makes no move -/
theorem pass_rest (h : ∀ w, w < k → a.1.1 w = sink) : ∀ j, j ≤ k → aPs d nb sink a j = (a, 0) := by
  intro j
  induction j with
  | zero => intro _; rfl
  | succ j ih =>
    intro hj
    unfold aPs
    rw [ih (by omega), if_pos (h j (by omega))]
end AB
theorem st_absorb : St_absorb LInv FUEL := by
  intro hask len codes nodes links deg nbr wk rot arv dep pos wkK rotK arvK depK posK node prot nodeA protA tri bst chs nxt mlen mnodes mlinks mwk bcode hass kwk hsh buf tab mdeg mrot plc marr mdep fsr snr chn aft krot kplc karr kdep y1 y2 y3 hy hI
  obtain ⟨hB, hH, n, m, d, nb, hG, hC, hM, ⟨k, a, hk, ha, hCR, hMR⟩, hK⟩ := id hI
  obtain ⟨n8, -, d7⟩ := g_n8 hG
  obtain ⟨rfl, rfl, -, -⟩ := id hC
  obtain ⟨rfl, rfl, -, -⟩ := id hM
  have hSB : SB = 52488 := rfl
  unfold f_X4_absorb f_X5_absorb
  rcases node_cases (n := n) (by omega) y1 with ⟨e1, e2⟩ | ⟨sink, hs, rfl, e1, e2⟩
  · simp only [e1, e2, bnd_s, if_true]
    exact ⟨_, _, rfl, rfl, rfl, hI⟩
  · have G := g_gr hG hs
    rcases hy with rfl | rfl
    · obtain ⟨u, h1, h2, h3⟩ := one_C G hC hk ha hCR hs (N := FUEL) (by decide)
      obtain ⟨v, g1, g2, g3⟩ := one_M G hM hk ha hMR hs (N := FUEL) (by decide)
      obtain ⟨o1, -, o3⟩ := obo_ok G ha hs k (Nat.le_refl k)
      obtain ⟨v2, p1, p2, p3⟩ := pass_M G hM hk o1 g3 hs (N := FUEL) (by decide)
      rw [pass_rest o3 k (Nat.le_refl k)] at p2 p3
      have hv3 : iter (b_X5_absorb_65 FUEL mwk tab mdeg (nI sink)) FUEL (v.1, v2.1, v2.2.1, v2.2.2.1, v2.2.2.2.1, v2.2.2.2.2) = some (v.1, v2.2.1, v2.2.2.1, v2.2.2.2.1, v2.2.2.2.2) := by
        show iter _ (1099999 + 1) _ = _
        unfold iter b_X5_absorb_65
        rw [p2]
        rfl
      simp only [e1, e2, bnd_s, if_neg i10, if_true, h1, g1, p1, hv3]
      exact ⟨_, _, rfl, rfl, h2.trans g2.symm, hB, hH, n, m, d, nb, hG, hC, hM, ⟨k, _, hk, o1, h3, p3⟩, hK⟩
    · obtain ⟨J, j1, j2, j3⟩ := aR_end G ha hk hs
      obtain ⟨u, h1, h2, h3⟩ := turns_C G hC hk ha hCR hs j1 j2 j3 (N := FUEL) (by decide)
      obtain ⟨v2, p1, p2, p3⟩ := pass_M G hM hk ha hMR hs (N := FUEL) (by decide)
      obtain ⟨v3, q1, q2, q3⟩ := turns_M G hM hk ha (T0 := 0) v2 p2 p3 hs j1 j2 j3 (N := FUEL) (by decide)
      have hv1 : iter (b_X5_absorb_16 FUEL mwk tab mdeg (nI sink) 1) FUEL (0, 0, mrot, plc, marr, mdep) = some (0, mrot, plc, marr, mdep) := by
        show iter _ (1099999 + 1) _ = _
        unfold iter b_X5_absorb_16
        by_cases c : mwk ≤ 0
        · simp only [if_pos c]
        · simp only [if_neg c, if_neg i10]
      have q1 : iter (b_X5_absorb_65 FUEL mwk tab mdeg (nI sink)) FUEL (0, v2.1, v2.2.1, v2.2.2.1, v2.2.2.2.1, v2.2.2.2.2) = some v3 := q1
      simp only [e1, e2, bnd_s, if_neg i10, h1, hv1, p1, q1]
      rw [Nat.zero_add] at q2
      exact ⟨_, _, rfl, rfl, h2.trans q2.symm, hB, hH, n, m, d, nb, hG, hC, hM, ⟨k, _, hk, (aR_ok G ha hs (J + 1)).1, h3, q3⟩, hK⟩
