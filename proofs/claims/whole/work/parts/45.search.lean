/-! the search over all rotor settings -/
/-- the product of the last j degrees -/
def pf (d : Nat → Nat) (n : Nat) : Nat → Nat
  | 0 => 1
  | j + 1 => pf d n j * d (n - 1 - j)
/-- node v's rotor in the setting of a number -/
def dg (d : Nat → Nat) (n t v : Nat) : Nat := t / pf d n (n - 1 - v) % d v
def lst (ct : Nat → Nat) : Nat → Nat
  | 0 => 1000000
  | j + 1 => if ct j < lst ct j then ct j else lst ct j
def bsc (ct : Nat → Nat) : Nat → Nat
  | 0 => 0
  | j + 1 => if ct j < lst ct j then j else bsc ct j
theorem lst_s (ct : Nat → Nat) (j : Nat) : lst ct (j + 1) = if ct j < lst ct j then ct j else lst ct j := rfl
theorem bsc_s (ct : Nat → Nat) (j : Nat) : bsc ct (j + 1) = if ct j < lst ct j then j else bsc ct j := rfl
theorem lst_le (ct : Nat → Nat) (j : Nat) : lst ct j ≤ 1000000 := by
  induction j with
  | zero => exact Nat.le_refl _
  | succ j ih =>
    unfold lst
    by_cases h : ct j < lst ct j
    · rw [if_pos h]; omega
    · rw [if_neg h]; exact ih
theorem bsc_le (ct : Nat → Nat) (j : Nat) : bsc ct j ≤ j := by
  induction j with
  | zero => exact Nat.le_refl _
  | succ j ih =>
    unfold bsc
    by_cases h : ct j < lst ct j
    · rw [if_pos h]; omega
    · rw [if_neg h]; omega
theorem lst_stay {ct : Nat → Nat} {b j : Nat} (hb : ∀ c, b ≤ ct c) (h : lst ct j ≤ b) (i : Nat) : lst ct (j + i) = lst ct j ∧ bsc ct (j + i) = bsc ct j := by
  induction i with
  | zero => exact ⟨rfl, rfl⟩
  | succ i ih =>
    have h1 : ¬ ct (j + i) < lst ct (j + i) := by rw [ih.1]; have := hb (j + i); omega
    refine ⟨?_, ?_⟩
    · show lst ct (j + i + 1) = _
      rw [lst_s, if_neg h1]; exact ih.1
    · show bsc ct (j + i + 1) = _
      rw [bsc_s, if_neg h1]; exact ih.2
theorem pf_dvd {d : Nat → Nat} {n i j : Nat} (h : i ≤ j) : pf d n i ∣ pf d n j := by
  obtain ⟨c, rfl⟩ := Nat.le.dest h
  induction c with
  | zero => exact Nat.dvd_refl _
  | succ c ih => exact Nat.dvd_trans (ih (by omega)) (Nat.dvd_mul_right _ _)
section SE
variable {n m : Nat} {d : Nat → Nat} {nb : Nat → Nat → Nat} {nodes links mnodes mlinks : Int32} {deg nbr mdeg tab : Nat → Int32}
theorem pf_pos (G : GR n m d nb) {j : Nat} (hj : j ≤ n) : 1 ≤ pf d n j := by
  obtain ⟨hn2, hn8, hm, hd, -⟩ := id G
  induction j with
  | zero => exact Nat.le_refl _
  | succ j ih => exact Nat.mul_pos (ih (by omega)) (hd _ (by omega)).1
theorem dg_lt (G : GR n m d nb) {t v : Nat} (hv : v < n) : dg d n t v < d v := Nat.mod_lt _ (G.2.2.2.1 v hv).1
theorem dg_vld (G : GR n m d nb) {s t : Nat} (hs : s < n) : vld n d (s, dg d n t) := ⟨hs, fun _ hv => dg_lt G hv⟩
theorem prd_mono (G : GR n m d nb) {j : Nat} (hj : j ≤ n) : prd d j ≤ prd d n := by
  obtain ⟨hn2, hn8, hm, hd, -⟩ := id G
  obtain ⟨c, rfl⟩ := Nat.le.dest hj
  clear hj
  have : ∀ c, j + c ≤ j + c → (∀ v, v < j + c → 1 ≤ d v) → prd d j ≤ prd d (j + c) := by
    intro c _
    induction c with
    | zero => intro _; exact Nat.le_refl _
    | succ c ih =>
      intro h
      have h1 := ih (Nat.le_refl _) (fun v hv => h v (by omega))
      have h2 := h (j + c) (by omega)
      show prd d j ≤ prd d (j + c) * d (j + c)
      exact Nat.le_trans h1 (Nat.le_mul_of_pos_right _ h2)
  exact this c (Nat.le_refl _) (fun v hv => (hd v hv).1)
theorem assign_C (G : GR n m d nb) (hG : GC n m d nb nodes links deg nbr) : f_X0_assignments FUEL nodes deg = some (nI (prd d n)) := by
  have hFU : FUEL = 1100000 := rfl
  obtain ⟨-, hn8, hm, hd, -⟩ := id G
  obtain ⟨rfl, rfl, g3, -⟩ := id hG
  obtain ⟨u, g1, g2⟩ := iter_for (body := b_X0_assignments_4 (nI n) deg) n (fun i st => st.1 = nI (prd d i) ∧ st.2 = nI i) (fun u => u = nI (prd d n)) (by
    intro i st hi hI
    obtain ⟨e, e2⟩ := hI
    refine ⟨(st.1 * deg i, st.2 + 1), ?_, by rw [e, g3 i hi]; exact pk_mul _ _, by rw [e2]; exact nI_1 i⟩
    unfold b_X0_assignments_4
    rw [e2, if_neg (nI_ge hi (by omega)), grd_t (inB_n (show i < 8 by omega) (by decide)), nI_clamp (by omega)]) (by
    intro st hI
    obtain ⟨e, e2⟩ := hI
    refine ⟨st.1, ?_, e⟩
    unfold b_X0_assignments_4
    rw [e2, if_pos (nI_le (Nat.le_refl _) (by omega))]) (N := FUEL) (by omega) (s := ((1 : Int32), (0 : Int32))) ⟨rfl, rfl⟩
  unfold f_X0_assignments
  rw [g1, g2]
  rfl
theorem assign_M (G : GR n m d nb) (hG : GM n m d nb mnodes mlinks mdeg tab) : f_X5_assignments FUEL mnodes mdeg = some (nI (prd d n)) := by
  have hFU : FUEL = 1100000 := rfl
  obtain ⟨-, hn8, hm, hd, -⟩ := id G
  obtain ⟨rfl, rfl, g3, -⟩ := id hG
  obtain ⟨u, g1, g2⟩ := iter_for (body := b_X5_assignments_4 (nI n) mdeg) n (fun i st => st.1 = nI (prd d i) ∧ st.2 = nI i) (fun u => u = nI (prd d n)) (by
    intro i st hi hI
    obtain ⟨e, e2⟩ := hI
    have hdi := hd i hi
    refine ⟨(st.1 * mdeg i, st.2 + 1), ?_, by rw [e, g3 i hi]; exact pk_mul _ _, by rw [e2]; exact nI_1 i⟩
    unfold b_X5_assignments_4
    rw [e2, if_neg (nI_ge hi (by omega)), grd_t (inB_n (show i < 8 by omega) (by decide)), nI_clamp (by omega), g3 i hi, if_neg (nI_ne0 (by omega) (by omega)), grd_t (inB_n (show i < 8 by omega) (by decide))]) (by
    intro st hI
    obtain ⟨e, e2⟩ := hI
    refine ⟨st.1, ?_, e⟩
    unfold b_X5_assignments_4
    rw [e2, if_pos (nI_le (Nat.le_refl _) (by omega))]) (N := FUEL) (by omega) (s := ((1 : Int32), (0 : Int32))) ⟨rfl, rfl⟩
  unfold f_X5_assignments
  rw [g1, g2]
  rfl
theorem down_n {n j : Nat} (h : j < n) : nI (n - j) + (-1 : Int32) = nI (n - 1 - j) := by
  rw [show n - j = (n - 1 - j) + 1 by omega]
  exact pk_m1 _
theorem down_1 {n : Nat} (h : 1 ≤ n) : nI n - (1 : Int32) = nI (n - 0) + (-1) := by
  rw [nI_sub1 h, down_n h]
  rfl
theorem lay_M (G : GR n m d nb) (hG : GM n m d nb mnodes mlinks mdeg tab) {t : Nat} (ht : t < 2 ^ 31) (fsr : Nat → Int32) : ∃ u, f_X5_layAssignment FUEL mnodes mdeg fsr (nI t) = some u ∧ ∀ v, v < n → u v = nI (dg d n t v) := by
  have hFU : FUEL = 1100000 := rfl
  obtain ⟨hn2, hn8, hm, hd, -⟩ := id G
  obtain ⟨rfl, rfl, g3, -⟩ := id hG
  obtain ⟨u, g1, g2⟩ := iter_for (body := b_X5_layAssignment_9 mdeg) n (fun j st => st.1 = nI (t / pf d n j) ∧ st.2.1 = nI (n - j) + (-1) ∧ ∀ v, v < n → n - j ≤ v → st.2.2 v = nI (dg d n t v)) (fun u => ∀ v, v < n → u v = nI (dg d n t v)) (by
    intro j st hj hI
    obtain ⟨e, e2, hI⟩ := hI
    have hv : n - 1 - j < n := by omega
    have hdv := hd _ hv
    have hle : t / pf d n j ≤ t := Nat.div_le_self _ _
    rw [down_n hj] at e2
    refine ⟨(nI (t / pf d n (j + 1)), nI (n - 1 - j) + (-1), upd st.2.2 (n - 1 - j) (nI (dg d n t (n - 1 - j)))), ?_, rfl, by rw [show n - (j + 1) = n - 1 - j by omega], fun v hvn hv2 => ?_⟩
    · unfold b_X5_layAssignment_9
      have i1 := inB_n (show n - 1 - j < 8 by omega) (by decide)
      rw [e2, if_neg (nI_pos (by omega)), grd_t i1, nI_clamp (by omega), g3 _ hv, grd_t (nI_ne0 (by omega) (by omega)), grd_t i1, grd_t i1, grd_t (nI_ne0 (by omega) (by omega)), e, pk_div (by omega) (by omega) (by omega), pk_mul, pk_sub (Nat.div_mul_le_self _ _)]
      rw [show t / pf d n j - t / pf d n j / d (n - 1 - j) * d (n - 1 - j) = dg d n t (n - 1 - j) from by
        unfold dg
        rw [show n - 1 - (n - 1 - j) = j by omega, Nat.mod_eq_sub_div_mul], show t / pf d n j / d (n - 1 - j) = t / pf d n (j + 1) from Nat.div_div_eq_div_mul _ _ _]
    · show upd _ _ _ v = _
      by_cases q : v = n - 1 - j
      · rw [q, upd_at]
      · rw [upd_ne _ _ q]; exact hI v hvn (by omega)) (by
    intro st hI
    obtain ⟨e, e2, hI⟩ := hI
    refine ⟨st.2.2, ?_, fun v hv => hI v hv (by omega)⟩
    unfold b_X5_layAssignment_9
    rw [e2, Nat.sub_self, if_pos (by decide)]) (N := FUEL) (by omega) (s := (nI t, nI n - (1 : Int32), fsr)) ⟨by show nI t = nI (t / 1); rw [Nat.div_one], down_1 (by omega), fun v h1 h2 => absurd h1 (by omega)⟩
  unfold f_X5_layAssignment
  rw [g1]
  exact ⟨u, rfl, g2⟩
/-- turning the settings on by one -/
theorem turn_C (G : GR n m d nb) (hG : GC n m d nb nodes links deg nbr) {t : Nat} {tri : Nat → Int32} (h : ∀ v, v < n → tri v = nI (dg d n t v)) : ∃ u, f_X4_turnTrialRotors FUEL nodes deg tri = some u ∧ ∀ v, v < n → u v = nI (dg d n (t + 1) v) := by
  have hFU : FUEL = 1100000 := rfl
  obtain ⟨hn2, hn8, hm, hd, -⟩ := id G
  obtain ⟨rfl, rfl, g3, -⟩ := id hG
  obtain ⟨u, g1, f, g2, g3⟩ := iter_inv (body := b_X4_turnTrialRotors_10 deg) (T := n) (fun j st => st.1 = nI (n - j) + (-1) ∧ pf d n j ∣ t + 1 ∧ (∀ v, v < n → n - j ≤ v → st.2 v = nI (dg d n (t + 1) v)) ∧ ∀ v, v < n - j → st.2 v = nI (dg d n t v)) (fun e => ∃ f, (e = .inl f ∨ e = .inr f) ∧ ∀ v, v < n → f v = nI (dg d n (t + 1) v)) (by
    intro j st hj hI
    obtain ⟨e, hdv, hI1, hI2⟩ := hI
    rcases Nat.lt_or_ge j n with q | q
    · have hv : n - 1 - j < n := by omega
      have hd1 := hd _ hv
      have hdl := dg_lt G (t := t) hv
      have hdl2 := dg_lt G (t := t + 1) hv
      rw [down_n q] at e
      have hj2 : n - 1 - (n - 1 - j) = j := by omega
      have ht : turn d (n - 1 - j) (dg d n t (n - 1 - j)) = dg d n (t + 1) (n - 1 - j) := by
        rw [turn_mod hdl]
        unfold dg
        rw [hj2, Nat.succ_div_of_dvd hdv, Nat.mod_add_mod]
      have i1 := inB_n (show n - 1 - j < 8 by omega) (by decide)
      have hb : b_X4_turnTrialRotors_10 deg st = if nI (dg d n (t + 1) (n - 1 - j)) = 0 then some (.inl (nI (n - 1 - j) + (-1), upd st.2 (n - 1 - j) (nI (dg d n (t + 1) (n - 1 - j))))) else some (.inr (.inr (upd st.2 (n - 1 - j) (nI (dg d n (t + 1) (n - 1 - j)))))) := by
        unfold b_X4_turnTrialRotors_10
        rw [e, if_neg (nI_pos (by omega)), nI_clamp (by omega), hI2 _ (by omega), rotorAfter_n (by omega) (g3 _ hv) (by omega) (by omega), bnd_s, ht, upd_at, grd_t i1, grd_t i1, grd_t i1]
      by_cases z : dg d n (t + 1) (n - 1 - j) = 0
      · left
        rw [hb, if_pos ((nI_z (by omega)).mpr z)]
        refine ⟨_, q, rfl, by rw [show n - (j + 1) = n - 1 - j by omega], ?_, fun v hvn hv2 => ?_, fun v hv2 => ?_⟩
        · show pf d n j * d (n - 1 - j) ∣ t + 1
          obtain ⟨c, hc⟩ := hdv
          unfold dg at z
          rw [hj2, hc, Nat.mul_div_cancel_left _ (pf_pos G (by omega))] at z
          obtain ⟨c2, hc2⟩ := Nat.dvd_of_mod_eq_zero z
          exact ⟨c2, by rw [hc, hc2, Nat.mul_assoc]⟩
        · show upd _ _ _ v = _
          by_cases q2 : v = n - 1 - j
          · rw [q2, upd_at]
          · rw [upd_ne _ _ q2]; exact hI1 v hvn (by omega)
        · show upd _ _ _ v = _
          rw [upd_ne _ _ (by omega)]
          exact hI2 v (by omega)
      · right
        rw [hb, if_neg (fun x => z ((nI_z (by omega)).mp x))]
        refine ⟨_, rfl, _, Or.inr rfl, fun v hvn => ?_⟩
        by_cases q2 : v = n - 1 - j
        · rw [q2, upd_at]
        · rw [upd_ne _ _ q2]
          rcases Nat.lt_or_ge v (n - j) with q3 | q3
          · rw [hI2 v q3]
            unfold dg
            rw [Nat.succ_div_of_not_dvd (fun x => z ?_)]
            have x2 : pf d n (j + 1) ∣ t + 1 := Nat.dvd_trans (pf_dvd (by omega)) x
            obtain ⟨c, hc⟩ := x2
            unfold dg
            rw [hj2, hc]
            show pf d n j * d (n - 1 - j) * c / pf d n j % d (n - 1 - j) = 0
            rw [Nat.mul_assoc, Nat.mul_div_cancel_left _ (pf_pos G (by omega)), Nat.mul_mod_right]
          · exact hI1 v hvn q3
    · have e2 : j = n := by omega
      subst e2
      right
      refine ⟨.inl st.2, ?_, st.2, Or.inl rfl, fun v hv => hI1 v hv (by omega)⟩
      unfold b_X4_turnTrialRotors_10
      rw [e, Nat.sub_self, if_pos (by decide)]) FUEL 0 (nI n - (1 : Int32), tri) (Nat.zero_le _) (by omega) ⟨down_1 (by omega), ⟨t + 1, by show t + 1 = 1 * (t + 1); omega⟩, fun v h1 h2 => absurd h1 (by omega), fun v hv => h v (by omega)⟩
  unfold f_X4_turnTrialRotors
  rw [g1, bnd_s]
  rcases g2 with rfl | rfl
  · exact ⟨f, rfl, g3⟩
  · exact ⟨f, rfl, g3⟩
theorem zero_C (G : GR n m d nb) (hG : GC n m d nb nodes links deg nbr) (tri : Nat → Int32) : ∃ u, iter (b_X4_searchAssignments_2 nodes) FUEL ((0 : Int32), tri) = some u ∧ ∀ v, v < n → u v = nI (dg d n 0 v) := by
  have hFU : FUEL = 1100000 := rfl
  obtain ⟨hn2, hn8, hm, hd, -⟩ := id G
  obtain ⟨rfl, rfl, g3, -⟩ := id hG
  refine iter_for (body := b_X4_searchAssignments_2 (nI n)) n (fun i st => st.1 = nI i ∧ ∀ v, v < i → st.2 v = nI (dg d n 0 v)) (fun u => ∀ v, v < n → u v = nI (dg d n 0 v)) ?_ ?_ (by omega) ⟨rfl, fun v h => absurd h (by omega)⟩
  · intro i st hi hI
    obtain ⟨e, hI⟩ := hI
    refine ⟨(st.1 + 1, upd st.2 i 0), ?_, by rw [e]; exact nI_1 i, fun v hv => ?_⟩
    · unfold b_X4_searchAssignments_2
      rw [e, if_neg (nI_ge hi (by omega)), grd_t (inB_n (show i < 8 by omega) (by decide)), nI_clamp (by omega)]
    · show upd _ _ _ v = _
      by_cases q : v = i
      · rw [q, upd_at]
        unfold dg
        rw [Nat.zero_div, Nat.zero_mod]
        rfl
      · rw [upd_ne _ _ q]; exact hI v (by omega)
  · intro st hI
    obtain ⟨e, hI⟩ := hI
    refine ⟨st.2, ?_, hI⟩
    unfold b_X4_searchAssignments_2
    rw [e, if_pos (nI_le (Nat.le_refl _) (by omega))]
/-- the search, in the class -/
theorem search_C (G : GR n m d nb) (hG : GC n m d nb nodes links deg nbr) {s : Nat} (hs : s < n) (node : Int32) (prot tri bst : Nat → Int32) : ∃ u, f_X4_searchAssignments FUEL nodes deg nbr node prot tri bst (nI s) = some u ∧ u.1 = nI (lst (fun t => covT n d nb (s, dg d n t)) (prd d n)) ∧ ∀ v, v < n → u.2.2.2.2 v = nI (dg d n (bsc (fun t => covT n d nb (s, dg d n t)) (prd d n)) v) := by
  have hFU : FUEL = 1100000 := rfl
  have hSB : SB = 52488 := rfl
  have hpl := prd_le G
  obtain ⟨hn2, hn8, hm, hd, -⟩ := id G
  have hpp : 1 ≤ prd d n := prd_pos (fun v hv => (hd v hv).1)
  obtain ⟨u0, z1, z2⟩ := zero_C G hG tri
  have has := assign_C G hG
  obtain ⟨rfl, rfl, g3, -⟩ := id hG
  generalize hct : (fun t => covT n d nb (s, dg d n t)) = ct
  have hctv : ∀ t, covT n d nb (s, dg d n t) = ct t := fun t => by rw [← hct]
  have hge : ∀ t, n - 1 ≤ ct t := fun t => by rw [← hct]; exact covT_ge G (dg_vld G hs)
  have hle : ∀ t, ct t ≤ SB := fun t => by rw [← hct]; exact (covT_spec G (dg_vld G hs)).1
  obtain ⟨u, g1, g2, g3⟩ := iter_inv (body := b_X4_searchAssignments_51 FUEL (nI n) deg nbr (nI s) (nI (prd d n)) (nI (n - 1))) (T := prd d n) (fun j st => st.1 = nI (lst ct j) ∧ st.2.1 = nI j ∧ (∀ v, v < n → st.2.2.2.2.1 v = nI (dg d n j v)) ∧ (1 ≤ j → ∀ v, v < n → st.2.2.2.2.2 v = nI (dg d n (bsc ct j) v))) (fun e => e.1 = nI (lst ct (prd d n)) ∧ ∀ v, v < n → e.2.2.2.2 v = nI (dg d n (bsc ct (prd d n)) v)) (by
    intro j st hj hI
    obtain ⟨e, e2, hI1, hI2⟩ := hI
    have hl := lst_le ct j
    rcases Nat.lt_or_ge j (prd d n) with q | q
    · by_cases q2 : lst ct j ≤ n - 1
      · right
        have hj1 : 1 ≤ j := by
          rcases Nat.eq_zero_or_pos j with z | z
          · subst z
            have : lst ct 0 = 1000000 := rfl
            omega
          · exact z
        obtain ⟨s1, s2⟩ := lst_stay hge q2 (prd d n - j)
        rw [show j + (prd d n - j) = prd d n by omega] at s1 s2
        refine ⟨(st.1, st.2.2.1, st.2.2.2.1, st.2.2.2.2.1, st.2.2.2.2.2), ?_, by rw [s1]; exact e, fun v hv => by rw [s2]; exact hI2 hj1 v hv⟩
        unfold b_X4_searchAssignments_51
        rw [e2, if_neg (nI_ge q (by omega)), e, if_pos (nI_le q2 (by omega)), ← e]
      · left
        obtain ⟨u5, h1, h2⟩ := cover_C G hG (c := (s, dg d n j)) (dg_vld G hs) (src := st.2.2.2.2.1) hI1 hl st.2.2.1 st.2.2.2.1
        rw [hctv] at h2
        obtain ⟨u7, h3, h4⟩ := turn_C G hG hI1
        have h1 : f_X4_coverTimeBelow FUEL (nI n) deg nbr st.2.2.1 st.2.2.2.1 st.2.2.2.2.1 (nI (lst ct j)) (nI s) = some u5 := h1
        by_cases q3 : ct j < lst ct j
        · refine ⟨(u5.1, st.2.1 + 1, u5.2.1, u5.2.2, u7, va_cpy st.2.2.2.2.1 st.2.2.2.2.2 0 0 8), q, ?_, ?_, by rw [e2]; exact nI_1 j, h4, fun _ v hv => ?_⟩
          · unfold b_X4_searchAssignments_51
            rw [e2, if_neg (nI_ge q (by omega)), e, if_neg (nI_ge (by omega) (by omega)), h1, bnd_s, h2, if_neg (nI_ge (show min (ct j) (lst ct j) < lst ct j by omega) (by omega)), h3, bnd_s, ← h2, ← e2]
          · show u5.1 = _
            unfold lst
            rw [if_pos q3, h2, show min (ct j) (lst ct j) = ct j by omega]
          · show va_cpy _ _ _ _ _ v = _
            unfold bsc
            rw [if_pos q3, cpy_lo (by omega)]
            exact hI1 v hv
        · refine ⟨(st.1, st.2.1 + 1, u5.2.1, u5.2.2, u7, st.2.2.2.2.2), q, ?_, ?_, by rw [e2]; exact nI_1 j, h4, fun _ v hv => ?_⟩
          · unfold b_X4_searchAssignments_51
            rw [e2, if_neg (nI_ge q (by omega)), e, if_neg (nI_ge (by omega) (by omega)), h1, bnd_s, h2, if_pos (nI_le (show lst ct j ≤ min (ct j) (lst ct j) by omega) (by omega)), h3, bnd_s, ← e, ← e2]
          · show st.1 = _
            unfold lst
            rw [if_neg q3]; exact e
          · show st.2.2.2.2.2 v = _
            unfold bsc
            rw [if_neg q3]
            refine hI2 ?_ v hv
            rcases Nat.eq_zero_or_pos j with z | z
            · subst z
              have h9 : lst ct 0 = 1000000 := rfl
              have := hle 0
              omega
            · exact z
    · have e3 : j = prd d n := by omega
      subst e3
      right
      refine ⟨(st.1, st.2.2.1, st.2.2.2.1, st.2.2.2.2.1, st.2.2.2.2.2), ?_, e, hI2 hpp⟩
      unfold b_X4_searchAssignments_51
      rw [e2, if_pos (nI_le (Nat.le_refl _) (by omega))]) FUEL 0 ((1000000 : Int32), (0 : Int32), node, prot, u0, bst) (Nat.zero_le _) (by omega) ⟨rfl, rfl, z2, fun h => absurd h (by omega)⟩
  unfold f_X4_searchAssignments
  simp only [z1, bnd_s, has, nI_sub1 (show 1 ≤ n by omega), g1]
  exact ⟨_, rfl, g2, g3⟩
/-- the search, in the model -/
theorem search_M (G : GR n m d nb) (hG : GM n m d nb mnodes mlinks mdeg tab) {s : Nat} (hs : s < n) (bcode : Int32) (fsr : Nat → Int32) : ∃ u, f_X5_leastFrom FUEL mnodes bcode tab mdeg fsr (nI s) = some u ∧ u.1 = nI (lst (fun t => covT n d nb (s, dg d n t)) (prd d n)) ∧ u.2.1 = nI (bsc (fun t => covT n d nb (s, dg d n t)) (prd d n)) := by
  have hFU : FUEL = 1100000 := rfl
  have hSB : SB = 52488 := rfl
  have hpl := prd_le G
  obtain ⟨hn2, hn8, hm, hd, -⟩ := id G
  have hpp : 1 ≤ prd d n := prd_pos (fun v hv => (hd v hv).1)
  have has := assign_M G hG
  generalize hct : (fun t => covT n d nb (s, dg d n t)) = ct
  have hctv : ∀ t, covT n d nb (s, dg d n t) = ct t := fun t => by rw [← hct]
  have hle : ∀ t, ct t ≤ SB := fun t => by rw [← hct]; exact (covT_spec G (dg_vld G hs)).1
  obtain ⟨u, g1, g2⟩ := iter_for (body := b_X5_leastFrom_11 FUEL mnodes tab mdeg (nI s) (nI (prd d n))) (prd d n) (fun j st => st.1 = nI (if j = 0 then 1073741824 else lst ct j) ∧ st.2.1 = nI j ∧ (1 ≤ j → st.2.2.1 = nI (bsc ct j))) (fun e => e.1 = nI (lst ct (prd d n)) ∧ e.2.1 = nI (bsc ct (prd d n))) (by
    intro j st hj hI
    obtain ⟨e, e2, hI⟩ := hI
    have hl := lst_le ct j
    obtain ⟨u2, h1, h2⟩ := lay_M G hG (t := j) (by omega) st.2.2.2
    obtain ⟨u3, h3, h4⟩ := cover_M G hG (c := (s, dg d n j)) (dg_vld G hs) (src := u2) h2
    rw [hctv] at h4
    have h3 : f_X5_coverFrom FUEL mnodes tab mdeg u2 (nI s) = some u3 := h3
    have hcj := hle j
    by_cases q3 : ct j < lst ct j
    · refine ⟨(u3.1, st.2.1 + 1, st.2.1, u3.2), ?_, ?_, by rw [e2]; exact nI_1 j, fun _ => ?_⟩
      · unfold b_X5_leastFrom_11
        have hx : ¬ st.1 ≤ u3.1 := by
          rw [e, h4]
          by_cases z : j = 0
          · rw [if_pos z]; exact nI_ge (by omega) (by omega)
          · rw [if_neg z]; exact nI_ge q3 (by omega)
        rw [e2, if_neg (nI_ge hj (by omega)), h1, bnd_s, h3, bnd_s, if_neg hx, if_neg hx]
      · show u3.1 = _
        rw [if_neg (by omega), h4]
        unfold lst
        rw [if_pos q3]
      · show st.2.1 = _
        rw [e2]
        unfold bsc
        rw [if_pos q3]
    · have z : ¬ j = 0 := by
        intro z
        subst z
        have : lst ct 0 = 1000000 := rfl
        omega
      rw [if_neg z] at e
      refine ⟨(st.1, st.2.1 + 1, st.2.2.1, u3.2), ?_, ?_, by rw [e2]; exact nI_1 j, fun _ => ?_⟩
      · unfold b_X5_leastFrom_11
        have hx : st.1 ≤ u3.1 := by
          rw [e, h4]
          exact nI_le (by omega) (by omega)
        rw [e2, if_neg (nI_ge hj (by omega)), h1, bnd_s, h3, bnd_s, if_pos hx, if_pos hx]
      · show st.1 = _
        rw [if_neg (by omega), e, lst_s, if_neg q3]
      · show st.2.2.1 = _
        rw [hI (by omega), bsc_s, if_neg q3]) (by
    intro st hI
    obtain ⟨e, e2, hI⟩ := hI
    rw [if_neg (by omega)] at e
    refine ⟨(st.1, st.2.2.1, st.2.2.2), ?_, e, hI hpp⟩
    unfold b_X5_leastFrom_11
    rw [e2, if_pos (nI_le (Nat.le_refl _) (by omega))]) (N := FUEL) (by omega) (s := ((1073741824 : Int32), (0 : Int32), bcode, fsr)) ⟨rfl, rfl, fun h => absurd h (by omega)⟩
  unfold f_X5_leastFrom
  simp only [has, bnd_s, g1]
  exact ⟨_, rfl, g2⟩
end SE
theorem st_leastCoverTime : St_leastCoverTime LInv FUEL := by
  intro hask len codes nodes links deg nbr wk rot arv dep pos wkK rotK arvK depK posK node prot nodeA protA tri bst chs nxt mlen mnodes mlinks mwk bcode hass kwk hsh buf tab mdeg mrot plc marr mdep fsr snr chn aft krot kplc karr kdep y1 y2 y3 hI
  obtain ⟨hB, hH, n, m, d, nb, hG, hC, hM, hS, hK⟩ := id hI
  obtain ⟨n8, -, d7⟩ := g_n8 hG
  obtain ⟨rfl, rfl, -, -⟩ := id hC
  obtain ⟨rfl, rfl, -, -⟩ := id hM
  unfold f_X4_leastCoverTime f_X5_leastCoverTime
  rcases node_cases (n := n) (by omega) y1 with ⟨e1, e2⟩ | ⟨s, hs, rfl, e1, e2⟩
  · simp only [e1, e2, bnd_s, if_true]
    exact ⟨_, _, rfl, rfl, rfl, hI⟩
  · have G := g_gr hG hs
    simp only [e1, e2, bnd_s, if_neg i10, assign_C G hC, assign_M G hM]
    by_cases c : nI (prd d n) ≤ 2000
    · obtain ⟨u, h1, h2, -⟩ := search_C G hC hs node prot tri bst
      obtain ⟨v, h3, h4, -⟩ := search_M G hM hs bcode fsr
      simp only [if_pos c, h1, h3, bnd_s]
      exact ⟨_, _, rfl, rfl, h2.trans h4.symm, hI⟩
    · simp only [if_neg c]
      exact ⟨_, _, rfl, rfl, rfl, hI⟩
theorem st_bestRotor : St_bestRotor LInv FUEL := by
  intro hask len codes nodes links deg nbr wk rot arv dep pos wkK rotK arvK depK posK node prot nodeA protA tri bst chs nxt mlen mnodes mlinks mwk bcode hass kwk hsh buf tab mdeg mrot plc marr mdep fsr snr chn aft krot kplc karr kdep y1 y2 y3 hI
  obtain ⟨hB, hH, n, m, d, nb, hG, hC, hM, hS, hK⟩ := id hI
  obtain ⟨n8, -, d7⟩ := g_n8 hG
  obtain ⟨rfl, rfl, -, -⟩ := id hC
  obtain ⟨rfl, rfl, -, -⟩ := id hM
  unfold f_X4_bestRotor f_X5_bestRotor
  rcases node_cases (n := n) (by omega) y1 with ⟨e1, e2⟩ | ⟨s, hs, rfl, e1, e2⟩
  · simp only [e1, e2, bnd_s, if_true]
    exact ⟨_, _, rfl, rfl, rfl, hI⟩
  · rcases node_cases (n := n) (by omega) y2 with ⟨e3, e4⟩ | ⟨v0, hv0, rfl, e3, e4⟩
    · simp only [e1, e2, e3, e4, bnd_s, if_neg i10, if_true]
      exact ⟨_, _, rfl, rfl, rfl, hI⟩
    · have G := g_gr hG hs
      have hpl := prd_le G
      simp only [e1, e2, e3, e4, bnd_s, if_neg i10, assign_C G hC, assign_M G hM]
      by_cases c : nI (prd d n) ≤ 2000
      · obtain ⟨u, h1, -, h2⟩ := search_C G hC hs node prot tri bst
        obtain ⟨v, h3, -, h4⟩ := search_M G hM hs bcode fsr
        have hbl := bsc_le (fun t => covT n d nb (s, dg d n t)) (prd d n)
        obtain ⟨w, h5, h6⟩ := lay_M G hM (t := bsc (fun t => covT n d nb (s, dg d n t)) (prd d n)) (by omega) v.2.2
        rw [← h4] at h5
        simp only [if_pos c, h1, h3, h5, bnd_s, grd_t (inB_n (show v0 < 8 by omega) (by decide)), nI_clamp (show v0 < 2 ^ 31 by omega)]
        exact ⟨_, _, rfl, rfl, (h2 v0 hv0).trans (h6 v0 hv0).symm, hI⟩
      · simp only [if_neg c]
        exact ⟨_, _, rfl, rfl, rfl, hI⟩
