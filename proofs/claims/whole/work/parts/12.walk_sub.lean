abbrev w_X0_slot  (cI cD : ClassId)  : va_W := []
set_option maxRecDepth 100000 in
set_option maxHeartbeats 4000000 in
theorem c_X0_slot (l : Launch) (D : va_G) (cI cD : ClassId)   (p0 : Int32) (p1 : Int32) (u : Int32) (h : f_X0_slot p0 p1 = some u) : MetI l yX0_slot wsX0_slot { frames := 0, cells := 0, slots := 0, locals := 0 } D [(cI, .int), (cD, .double)] [.int p0, .int p1] (w_X0_slot cI cD) u (w_X0_slot cI cD) := by
  refine MetI.of (own := RX0) (cc := cX0_slot) (nL := 2) (ret := (some .int)) (by decide) rfl rfl (Nat.le_of_ble_eq_true rfl) rfl ?_
  intro p e s m args below meth c A hA C hr hlk
  unfold f_X0_slot at h
  refine wd_iload_n (j := 1) C 0 dX0_slot_0 rfl rfl rfl ?_
  refine wd_bipush (j := 3) (v := 7) C dX0_slot_1 (by decide) rfl ?_
  refine wd_imul (j := 4) C dX0_slot_3 rfl ?_
  refine wd_iload_n (j := 5) C 1 dX0_slot_4 rfl rfl rfl ?_
  refine wd_iadd (j := 6) C dX0_slot_5 rfl ?_
  obtain rfl := Option.some.inj h
  exact wd_iret C hA hr hlk rfl rfl rfl dX0_slot_6
abbrev w_X1_nodes (x0 x1 : Nat) (cI cD : ClassId) (len : Int32) (codes : Nat → Int32) : va_W := [(x0, .inr (1, [.ref x1, .int len])), (x1, .inl (cI, 40, .inl codes))]
theorem kX1_nodes_1 : Cond.fieldLink "RotorRouter$InputText" 11 "RotorRouter$InputText" "codes" "[I" ∈ wsX1_nodes := List.mem_of_getElem? (i := 1) rfl
theorem inX1_nodes_X1 : ∀ w ∈ wsX10, w ∈ wsX1_nodes := fun _ h => List.mem_cons_of_mem _ (List.mem_append_right _ h)
set_option maxRecDepth 100000 in
set_option maxHeartbeats 4000000 in
theorem c_X1_nodes (l : Launch) (D : va_G) (cI cD : ClassId) (x0 x1 : Nat) (len : Int32) (codes : Nat → Int32)  (u : Int32) (h : f_X1_nodes codes = some u) : MetI l yX1_nodes wsX1_nodes { frames := 0, cells := 0, slots := 0, locals := 0 } D [(cI, .int), (cD, .double)] [.ref x0] (w_X1_nodes x0 x1 cI cD len codes) u (w_X1_nodes x0 x1 cI cD len codes) := by
  refine MetI.of (own := RX1) (cc := cX1_nodes) (nL := 1) (ret := (some .int)) (by decide) rfl rfl (Nat.le_of_ble_eq_true rfl) rfl ?_
  intro p e s m args below meth c A hA C hr hlk
  unfold f_X1_nodes at h
  refine wd_aload_n (j := 1) C 0 dX1_nodes_0 rfl rfl rfl ?_
  refine wd_get (j := 4) (q0 := 0) (f := 0) (ci := 1) (v := .ref x1) C inX1_nodes_X1 kX1_nodes_1 rfl (by decide) rfl rfl dX1_nodes_1 rfl ?_
  refine wd_iconst (j := 5) (v := 0) C dX1_nodes_4 (by decide) rfl ?_
  refine wd_iald (j := 6) (q0 := 1) (t0 := 0) C rfl rfl (inB_in (by decide)) dX1_nodes_5 rfl ?_
  refine wd_bipush (j := 8) (v := 48) C dX1_nodes_6 (by decide) rfl ?_
  refine wd_isub (j := 9) C dX1_nodes_8 rfl ?_
  obtain rfl := Option.some.inj h
  exact wd_iret C hA hr hlk rfl rfl rfl dX1_nodes_9
abbrev w_X1_links (x0 x1 : Nat) (cI cD : ClassId) (len : Int32) : va_W := [(x0, .inr (1, [.ref x1, .int len]))]
theorem kX1_links_1 : Cond.fieldLink "RotorRouter$InputText" 15 "RotorRouter$InputText" "length" "I" ∈ wsX1_links := List.mem_of_getElem? (i := 1) rfl
theorem inX1_links_X1 : ∀ w ∈ wsX10, w ∈ wsX1_links := fun _ h => List.mem_cons_of_mem _ (List.mem_append_right _ h)
set_option maxRecDepth 100000 in
set_option maxHeartbeats 4000000 in
theorem c_X1_links (l : Launch) (D : va_G) (cI cD : ClassId) (x0 x1 : Nat) (len : Int32)  (u : Int32) (h : f_X1_links len = some u) : MetI l yX1_links wsX1_links { frames := 0, cells := 0, slots := 0, locals := 0 } D [(cI, .int), (cD, .double)] [.ref x0] (w_X1_links x0 x1 cI cD len) u (w_X1_links x0 x1 cI cD len) := by
  refine MetI.of (own := RX1) (cc := cX1_links) (nL := 1) (ret := (some .int)) (by decide) rfl rfl (Nat.le_of_ble_eq_true rfl) rfl ?_
  intro p e s m args below meth c A hA C hr hlk
  unfold f_X1_links at h
  refine wd_aload_n (j := 1) C 0 dX1_links_0 rfl rfl rfl ?_
  refine wd_get (j := 4) (q0 := 0) (f := 1) (ci := 1) (v := .int len) C inX1_links_X1 kX1_links_1 rfl (by decide) rfl rfl dX1_links_1 rfl ?_
  refine wd_iconst (j := 5) (v := 1) C dX1_links_4 (by decide) rfl ?_
  refine wd_isub (j := 6) C dX1_links_5 rfl ?_
  refine wd_iconst (j := 7) (v := 3) C dX1_links_6 (by decide) rfl ?_
  refine wd_idiv (j := 8) C dX1_links_7 (by decide) rfl ?_
  obtain rfl := Option.some.inj h
  exact wd_iret C hA hr hlk rfl rfl rfl dX1_links_8
abbrev w_X1_firstNode (x0 x1 : Nat) (cI cD : ClassId) (len : Int32) (codes : Nat → Int32) : va_W := [(x0, .inr (1, [.ref x1, .int len])), (x1, .inl (cI, 40, .inl codes))]
theorem kX1_firstNode_1 : Cond.fieldLink "RotorRouter$InputText" 11 "RotorRouter$InputText" "codes" "[I" ∈ wsX1_firstNode := List.mem_of_getElem? (i := 1) rfl
theorem inX1_firstNode_X1 : ∀ w ∈ wsX10, w ∈ wsX1_firstNode := fun _ h => List.mem_cons_of_mem _ (List.mem_append_right _ h)
set_option maxRecDepth 100000 in
set_option maxHeartbeats 4000000 in
theorem c_X1_firstNode (l : Launch) (D : va_G) (cI cD : ClassId) (x0 x1 : Nat) (len : Int32) (codes : Nat → Int32) (p1 : Int32) (u : Int32) (h : f_X1_firstNode codes p1 = some u) : MetI l yX1_firstNode wsX1_firstNode { frames := 0, cells := 0, slots := 0, locals := 0 } D [(cI, .int), (cD, .double)] [.ref x0, .int p1] (w_X1_firstNode x0 x1 cI cD len codes) u (w_X1_firstNode x0 x1 cI cD len codes) := by
  refine MetI.of (own := RX1) (cc := cX1_firstNode) (nL := 2) (ret := (some .int)) (by decide) rfl rfl (Nat.le_of_ble_eq_true rfl) rfl ?_
  intro p e s m args below meth c A hA C hr hlk
  unfold f_X1_firstNode at h
  refine wd_aload_n (j := 1) C 0 dX1_firstNode_0 rfl rfl rfl ?_
  refine wd_get (j := 4) (q0 := 0) (f := 0) (ci := 1) (v := .ref x1) C inX1_firstNode_X1 kX1_firstNode_1 rfl (by decide) rfl rfl dX1_firstNode_1 rfl ?_
  refine wd_iconst (j := 5) (v := 2) C dX1_firstNode_4 (by decide) rfl ?_
  refine wd_iconst (j := 6) (v := 3) C dX1_firstNode_5 (by decide) rfl ?_
  refine wd_iload_n (j := 7) C 1 dX1_firstNode_6 rfl rfl rfl ?_
  refine wd_imul (j := 8) C dX1_firstNode_7 rfl ?_
  refine wd_iadd (j := 9) C dX1_firstNode_8 rfl ?_
  obtain ⟨g1, h⟩ := grd_some h
  refine wd_iald (j := 10) (q0 := 1) (t0 := 0) C rfl rfl (inB_in g1) dX1_firstNode_9 rfl ?_
  refine wd_bipush (j := 12) (v := 48) C dX1_firstNode_10 (by decide) rfl ?_
  refine wd_isub (j := 13) C dX1_firstNode_12 rfl ?_
  obtain rfl := Option.some.inj h
  exact wd_iret C hA hr hlk rfl rfl rfl dX1_firstNode_13
abbrev w_X1_secondNode (x0 x1 : Nat) (cI cD : ClassId) (len : Int32) (codes : Nat → Int32) : va_W := [(x0, .inr (1, [.ref x1, .int len])), (x1, .inl (cI, 40, .inl codes))]
theorem kX1_secondNode_1 : Cond.fieldLink "RotorRouter$InputText" 11 "RotorRouter$InputText" "codes" "[I" ∈ wsX1_secondNode := List.mem_of_getElem? (i := 1) rfl
theorem inX1_secondNode_X1 : ∀ w ∈ wsX10, w ∈ wsX1_secondNode := fun _ h => List.mem_cons_of_mem _ (List.mem_append_right _ h)
set_option maxRecDepth 100000 in
set_option maxHeartbeats 4000000 in
theorem c_X1_secondNode (l : Launch) (D : va_G) (cI cD : ClassId) (x0 x1 : Nat) (len : Int32) (codes : Nat → Int32) (p1 : Int32) (u : Int32) (h : f_X1_secondNode codes p1 = some u) : MetI l yX1_secondNode wsX1_secondNode { frames := 0, cells := 0, slots := 0, locals := 0 } D [(cI, .int), (cD, .double)] [.ref x0, .int p1] (w_X1_secondNode x0 x1 cI cD len codes) u (w_X1_secondNode x0 x1 cI cD len codes) := by
  refine MetI.of (own := RX1) (cc := cX1_secondNode) (nL := 2) (ret := (some .int)) (by decide) rfl rfl (Nat.le_of_ble_eq_true rfl) rfl ?_
  intro p e s m args below meth c A hA C hr hlk
  unfold f_X1_secondNode at h
  refine wd_aload_n (j := 1) C 0 dX1_secondNode_0 rfl rfl rfl ?_
  refine wd_get (j := 4) (q0 := 0) (f := 0) (ci := 1) (v := .ref x1) C inX1_secondNode_X1 kX1_secondNode_1 rfl (by decide) rfl rfl dX1_secondNode_1 rfl ?_
  refine wd_iconst (j := 5) (v := 2) C dX1_secondNode_4 (by decide) rfl ?_
  refine wd_iconst (j := 6) (v := 3) C dX1_secondNode_5 (by decide) rfl ?_
  refine wd_iload_n (j := 7) C 1 dX1_secondNode_6 rfl rfl rfl ?_
  refine wd_imul (j := 8) C dX1_secondNode_7 rfl ?_
  refine wd_iadd (j := 9) C dX1_secondNode_8 rfl ?_
  refine wd_iconst (j := 10) (v := 1) C dX1_secondNode_9 (by decide) rfl ?_
  refine wd_iadd (j := 11) C dX1_secondNode_10 rfl ?_
  obtain ⟨g1, h⟩ := grd_some h
  refine wd_iald (j := 12) (q0 := 1) (t0 := 0) C rfl rfl (inB_in g1) dX1_secondNode_11 rfl ?_
  refine wd_bipush (j := 14) (v := 48) C dX1_secondNode_12 (by decide) rfl ?_
  refine wd_isub (j := 15) C dX1_secondNode_14 rfl ?_
  obtain rfl := Option.some.inj h
  exact wd_iret C hA hr hlk rfl rfl rfl dX1_secondNode_15
abbrev w_X0_addNeighbor (x0 x1 x2 : Nat) (cI cD : ClassId) (nodes : Int32) (links : Int32) (deg : Nat → Int32) (nbr : Nat → Int32) : va_W := [(x0, .inr (0, [.ref x1, .ref x2, .int nodes, .int links])), (x1, .inl (cI, 8, .inl deg)), (x2, .inl (cI, 56, .inl nbr))]
theorem kX0_addNeighbor_1 : Cond.fieldLink "RotorRouter$Graph" 15 "RotorRouter$Graph" "neighbors" "[I" ∈ wsX0_addNeighbor := List.mem_of_getElem? (i := 1) rfl
theorem kX0_addNeighbor_2 : Cond.fieldLink "RotorRouter$Graph" 9 "RotorRouter$Graph" "degrees" "[I" ∈ wsX0_addNeighbor := List.mem_of_getElem? (i := 2) rfl
theorem inX0_addNeighbor_X0 : ∀ w ∈ wsX00, w ∈ wsX0_addNeighbor := fun _ h => List.mem_cons_of_mem _ (List.mem_append_right _ h)
set_option maxRecDepth 100000 in
set_option maxHeartbeats 4000000 in
theorem c_X0_addNeighbor (l : Launch) (D : va_G) (cI cD : ClassId) (x0 x1 x2 : Nat) (nodes : Int32) (links : Int32) (deg : Nat → Int32) (nbr : Nat → Int32) (p1 : Int32) (p2 : Int32) (u : (Nat → Int32) × (Nat → Int32)) (h : f_X0_addNeighbor deg nbr p1 p2 = some u) : MetV l yX0_addNeighbor wsX0_addNeighbor { frames := 1, cells := 0, slots := 0, locals := 21 } D [(cI, .int), (cD, .double)] [.ref x0, .int p1, .int p2] (w_X0_addNeighbor x0 x1 x2 cI cD nodes links deg nbr) (w_X0_addNeighbor x0 x1 x2 cI cD nodes links u.1 u.2) := by
  refine MetV.of (own := RX0) (cc := cX0_addNeighbor) (nL := 3) (ret := none) (by decide) rfl rfl (Nat.le_of_ble_eq_true rfl) rfl ?_
  intro p e s m args below meth c A hA C hr hlk
  unfold f_X0_addNeighbor at h
  refine wd_aload_n (j := 1) C 0 dX0_addNeighbor_0 rfl rfl rfl ?_
  refine wd_get (j := 4) (q0 := 0) (f := 1) (ci := 0) (v := .ref x2) C inX0_addNeighbor_X0 kX0_addNeighbor_1 rfl (by decide) rfl rfl dX0_addNeighbor_1 rfl ?_
  refine wd_iload_n (j := 5) C 1 dX0_addNeighbor_4 rfl rfl rfl ?_
  refine wd_aload_n (j := 6) C 0 dX0_addNeighbor_5 rfl rfl rfl ?_
  refine wd_get (j := 9) (q0 := 0) (f := 0) (ci := 0) (v := .ref x1) C inX0_addNeighbor_X0 kX0_addNeighbor_2 rfl (by decide) rfl rfl dX0_addNeighbor_6 rfl ?_
  refine wd_iload_n (j := 10) C 1 dX0_addNeighbor_9 rfl rfl rfl ?_
  obtain ⟨g1, h⟩ := grd_some h
  refine wd_iald (j := 11) (q0 := 1) (t0 := 0) C rfl rfl (inB_in g1) dX0_addNeighbor_10 rfl ?_
  obtain ⟨u2, hu2, h⟩ := bnd_some h
  refine wd_callSi (j := 14) (As := [.int p1, .int (deg p1.toNatClampNeg)]) (rest := [.ref x2]) (ws' := (w_X0_addNeighbor x0 x1 x2 cI cD nodes links deg nbr)) C (c_X0_slot l D cI cD p1 (deg p1.toNatClampNeg) u2 hu2) (va_cwS 2 C.1.2.2.2.2 gX0_addNeighbor_X0_slot rfl rfl rfl (by decide +kernel) ⟨Nat.le_of_ble_eq_true rfl, Nat.le_of_ble_eq_true rfl⟩) [] [0, 1, 2] rfl rfl rfl rfl (by decide) [0, 1, 2] rfl rfl rfl (Nat.le_of_ble_eq_true rfl) (Nat.le_of_ble_eq_true rfl) (Nat.le_of_ble_eq_true rfl) dX0_addNeighbor_11 rfl ?_
  refine wd_iload_n (j := 15) C 2 dX0_addNeighbor_14 rfl rfl rfl ?_
  obtain ⟨g3, h⟩ := grd_some h
  refine wd_iast (j := 16) (q0 := 2) (t0 := 0) (ws' := (w_X0_addNeighbor x0 x1 x2 cI cD nodes links deg (upd nbr u2.toNatClampNeg p2))) C rfl rfl (inB_in g3) rfl dX0_addNeighbor_15 rfl ?_
  refine wd_aload_n (j := 17) C 0 dX0_addNeighbor_16 rfl rfl rfl ?_
  refine wd_get (j := 20) (q0 := 0) (f := 0) (ci := 0) (v := .ref x1) C inX0_addNeighbor_X0 kX0_addNeighbor_2 rfl (by decide) rfl rfl dX0_addNeighbor_17 rfl ?_
  refine wd_iload_n (j := 21) C 1 dX0_addNeighbor_20 rfl rfl rfl ?_
  refine wd_dup2 (j := 22) C dX0_addNeighbor_21 rfl rfl rfl ?_
  obtain ⟨g4, h⟩ := grd_some h
  refine wd_iald (j := 23) (q0 := 1) (t0 := 0) C rfl rfl (inB_in g4) dX0_addNeighbor_22 rfl ?_
  refine wd_iconst (j := 24) (v := 1) C dX0_addNeighbor_23 (by decide) rfl ?_
  refine wd_iadd (j := 25) C dX0_addNeighbor_24 rfl ?_
  obtain ⟨g5, h⟩ := grd_some h
  refine wd_iast (j := 26) (q0 := 1) (t0 := 0) (ws' := (w_X0_addNeighbor x0 x1 x2 cI cD nodes links (upd deg p1.toNatClampNeg ((deg p1.toNatClampNeg) + (1 : Int32))) (upd nbr u2.toNatClampNeg p2))) C rfl rfl (inB_in g5) rfl dX0_addNeighbor_25 rfl ?_
  obtain rfl := Option.some.inj h
  exact wd_vret C hA hr hlk rfl dX0_addNeighbor_26
abbrev w_X0_build (x0 x1 x2 x3 x4 : Nat) (cI cD : ClassId) (nodes : Int32) (links : Int32) (deg : Nat → Int32) (nbr : Nat → Int32) (len : Int32) (codes : Nat → Int32) : va_W := [(x0, .inr (0, [.ref x1, .ref x2, .int nodes, .int links])), (x1, .inl (cI, 8, .inl deg)), (x2, .inl (cI, 56, .inl nbr)), (x3, .inr (1, [.ref x4, .int len])), (x4, .inl (cI, 40, .inl codes))]
theorem kX0_build_1 : Cond.fieldLink "RotorRouter$Graph" 18 "RotorRouter$Graph" "nodes" "I" ∈ wsX0_build := List.mem_of_getElem? (i := 1) rfl
theorem kX0_build_2 : Cond.fieldLink "RotorRouter$Graph" 22 "RotorRouter$Graph" "links" "I" ∈ wsX0_build := List.mem_of_getElem? (i := 2) rfl
theorem kX0_build_3 : Cond.fieldLink "RotorRouter$Graph" 9 "RotorRouter$Graph" "degrees" "[I" ∈ wsX0_build := List.mem_of_getElem? (i := 3) rfl
theorem inX0_build_X0 : ∀ w ∈ wsX00, w ∈ wsX0_build := fun _ h => List.mem_cons_of_mem _ (List.mem_append_left _ (List.mem_append_right _ h))
set_option maxRecDepth 100000 in
set_option maxHeartbeats 4000000 in
theorem lw_X0_build_18 (l : Launch) (D : va_G) (cI cD : ClassId) (x0 x1 x2 x3 x4 : Nat) (N : Nat) (nodes : Int32) (links : Int32) (nbr : Nat → Int32) (len : Int32) (codes : Nat → Int32)  {p : Program} {e : Env} {s : State} {m : MethodId} {args : Array Value} {below : List Frame} {meth : Method} {c : Code} {A : Nat → Prop} {Q : State → Prop} (C : wd_C p m c cX0_build 5 s args wsX0_build RX0 D [(cI, .int), (cD, .double)] A) : ∀ (n : Nat) (st : Int32 × (Nat → Int32)) (E : (Nat → Int32)), iter (b_X0_build_18) n st = some E → (Wd p l e { frames := 2, cells := 0, slots := 0, locals := 43 } s m args below meth c 5 D A 0 0 Q 37 [(0, .ref x0), (1, .ref x3)] [] (w_X0_build x0 x1 x2 x3 x4 cI cD nodes links E nbr len codes)) → Wd p l e { frames := 2, cells := 0, slots := 0, locals := 43 } s m args below meth c 5 D A 0 0 Q 18 [(0, .ref x0), (1, .ref x3), (2, .int st.1)] [] (w_X0_build x0 x1 x2 x3 x4 cI cD nodes links st.2 nbr len codes) := by
  intro n
  induction n with
  | zero => intro st E h; cases h
  | succ n ih =>
    intro st E h kx
    obtain ⟨b, h, hk⟩ := iter_step h
    unfold b_X0_build_18 at h
    refine wd_iload_n (j := 19) C 2 dX0_build_18 rfl rfl rfl ?_
    refine wd_bipush (j := 21) (v := 8) C dX0_build_19 (by decide) rfl ?_
    refine wd_icmp_ge (j := 24) (t := 37) C dX0_build_21 (by decide) rfl (fun c1 => ?_) (fun c1 => ?_)
    · replace h := (if_pos c1).symm.trans h
      obtain rfl := Option.some.inj h
      obtain rfl := hk
      refine wd_lv (lv' := [(0, .ref x0), (1, .ref x3)]) [0, 1] rfl ?_
      exact kx
    · replace h := (if_neg c1).symm.trans h
      refine wd_aload_n (j := 25) C 0 dX0_build_24 rfl rfl rfl ?_
      refine wd_get (j := 28) (q0 := 0) (f := 0) (ci := 0) (v := .ref x1) C inX0_build_X0 kX0_build_3 rfl (by decide) rfl rfl dX0_build_25 rfl ?_
      refine wd_iload_n (j := 29) C 2 dX0_build_28 rfl rfl rfl ?_
      refine wd_iconst (j := 30) (v := 0) C dX0_build_29 (by decide) rfl ?_
      obtain ⟨g2, h⟩ := grd_some h
      refine wd_iast (j := 31) (q0 := 1) (t0 := 0) (ws' := (w_X0_build x0 x1 x2 x3 x4 cI cD nodes links (upd st.2 st.1.toNatClampNeg (0 : Int32)) nbr len codes)) C rfl rfl (inB_in g2) rfl dX0_build_30 rfl ?_
      refine wd_iinc (j := 34) (lv' := [(2, .int (st.1 + 1)), (0, .ref x0), (1, .ref x3)]) C 2 dX0_build_31 rfl rfl (by decide) rfl rfl ?_
      refine wd_goto (t := 18) C dX0_build_34 (by decide) ?_
      obtain rfl := Option.some.inj h
      refine wd_lv (lv' := [(0, .ref x0), (1, .ref x3), (2, .int (st.1 + 1))]) [1, 2, 0] rfl ?_
      exact ih ((st.1 + 1), (upd st.2 st.1.toNatClampNeg (0 : Int32))) E hk kx
set_option maxRecDepth 100000 in
set_option maxHeartbeats 4000000 in
theorem lw_X0_build_39 (l : Launch) (D : va_G) (cI cD : ClassId) (x0 x1 x2 x3 x4 : Nat) (N : Nat) (nodes : Int32) (len : Int32) (links : Int32) (codes : Nat → Int32)  {p : Program} {e : Env} {s : State} {m : MethodId} {args : Array Value} {below : List Frame} {meth : Method} {c : Code} {A : Nat → Prop} {Q : State → Prop} (C : wd_C p m c cX0_build 5 s args wsX0_build RX0 D [(cI, .int), (cD, .double)] A) : ∀ (n : Nat) (st : Int32 × (Nat → Int32) × (Nat → Int32)) (E : (Nat → Int32) × (Nat → Int32)), iter (b_X0_build_39 links codes) n st = some E → (Wd p l e { frames := 2, cells := 0, slots := 0, locals := 43 } s m args below meth c 5 D A 0 0 Q 80 [] [] (w_X0_build x0 x1 x2 x3 x4 cI cD nodes links E.1 E.2 len codes)) → Wd p l e { frames := 2, cells := 0, slots := 0, locals := 43 } s m args below meth c 5 D A 0 0 Q 39 [(0, .ref x0), (1, .ref x3), (2, .int st.1)] [] (w_X0_build x0 x1 x2 x3 x4 cI cD nodes links st.2.1 st.2.2 len codes) := by
  intro n
  induction n with
  | zero => intro st E h; cases h
  | succ n ih =>
    intro st E h kx
    obtain ⟨b, h, hk⟩ := iter_step h
    unfold b_X0_build_39 at h
    refine wd_iload_n (j := 40) C 2 dX0_build_39 rfl rfl rfl ?_
    refine wd_aload_n (j := 41) C 0 dX0_build_40 rfl rfl rfl ?_
    refine wd_get (j := 44) (q0 := 0) (f := 3) (ci := 0) (v := .int links) C inX0_build_X0 kX0_build_2 rfl (by decide) rfl rfl dX0_build_41 rfl ?_
    refine wd_icmp_ge (j := 47) (t := 80) C dX0_build_44 (by decide) rfl (fun c3 => ?_) (fun c3 => ?_)
    · replace h := (if_pos c3).symm.trans h
      obtain rfl := Option.some.inj h
      obtain rfl := hk
      refine wd_lv (lv' := []) [] rfl ?_
      exact kx
    · replace h := (if_neg c3).symm.trans h
      refine wd_aload_n (j := 48) C 1 dX0_build_47 rfl rfl rfl ?_
      refine wd_iload_n (j := 49) C 2 dX0_build_48 rfl rfl rfl ?_
      obtain ⟨u4, hu4, h⟩ := bnd_some h
      refine wd_callVi (j := 52) (q0 := 0) (ci := 1) (As := [.int st.1]) (rest := []) (ws' := (w_X0_build x0 x1 x2 x3 x4 cI cD nodes links st.2.1 st.2.2 len codes)) C (c_X1_firstNode l D cI cD x3 x4 len codes st.1 u4 hu4) (cwV 1 C.1.2.2.2.2 gX0_build_X1_firstNode rfl rfl rfl (by decide +kernel) ⟨Nat.le_of_ble_eq_true rfl, Nat.le_of_ble_eq_true rfl⟩) rfl rfl [3, 4] [0, 1, 2] rfl rfl rfl rfl (by decide) [0, 1, 2, 3, 4] rfl rfl rfl (Nat.le_of_ble_eq_true rfl) (Nat.le_of_ble_eq_true rfl) (Nat.le_of_ble_eq_true rfl) dX0_build_49 rfl ?_
      refine wd_istore_n (j := 53) (lv' := [(3, .int u4), (0, .ref x0), (1, .ref x3), (2, .int st.1)]) C dX0_build_52 rfl (by decide) rfl rfl ?_
      refine wd_aload_n (j := 54) C 2 dX0_build_53 rfl rfl rfl ?_
      refine wd_iload_n (j := 55) C 3 dX0_build_54 rfl rfl rfl ?_
      obtain ⟨u5, hu5, h⟩ := bnd_some h
      refine wd_callVi (j := 58) (q0 := 0) (ci := 1) (As := [.int st.1]) (rest := []) (ws' := (w_X0_build x0 x1 x2 x3 x4 cI cD nodes links st.2.1 st.2.2 len codes)) C (c_X1_secondNode l D cI cD x3 x4 len codes st.1 u5 hu5) (cwV 1 C.1.2.2.2.2 gX0_build_X1_secondNode rfl rfl rfl (by decide +kernel) ⟨Nat.le_of_ble_eq_true rfl, Nat.le_of_ble_eq_true rfl⟩) rfl rfl [3, 4] [0, 1, 2] rfl rfl rfl rfl (by decide) [0, 1, 2, 3, 4] rfl rfl rfl (Nat.le_of_ble_eq_true rfl) (Nat.le_of_ble_eq_true rfl) (Nat.le_of_ble_eq_true rfl) dX0_build_55 rfl ?_
      refine wd_istore (j := 60) (lv' := [(4, .int u5), (3, .int u4), (0, .ref x0), (1, .ref x3), (2, .int st.1)]) C dX0_build_58 (by decide) rfl rfl ?_
      refine wd_aload_n (j := 61) C 2 dX0_build_60 rfl rfl rfl ?_
      refine wd_iload_n (j := 62) C 1 dX0_build_61 rfl rfl rfl ?_
      refine wd_iload (j := 64) C 0 dX0_build_62 rfl rfl ?_
      obtain ⟨u6, hu6, h⟩ := bnd_some h
      refine wd_callVv (j := 67) (q0 := 0) (ci := 0) (As := [.int u4, .int u5]) (rest := []) (ws' := (w_X0_build x0 x1 x2 x3 x4 cI cD nodes links u6.1 u6.2 len codes)) C (c_X0_addNeighbor l D cI cD x0 x1 x2 nodes links st.2.1 st.2.2 u4 u5 u6 hu6) (cwV 2 C.1.2.2.2.2 gX0_build_X0_addNeighbor rfl rfl rfl (by decide +kernel) ⟨Nat.le_of_ble_eq_true rfl, Nat.le_of_ble_eq_true rfl⟩) rfl rfl [0, 1, 2] [3, 4] rfl rfl rfl rfl (by decide) [2, 3, 4, 0, 1] rfl rfl rfl (Nat.le_of_ble_eq_true rfl) (Nat.le_of_ble_eq_true rfl) (Nat.le_of_ble_eq_true rfl) dX0_build_64 rfl ?_
      refine wd_aload_n (j := 68) C 2 dX0_build_67 rfl rfl rfl ?_
      refine wd_iload (j := 70) C 0 dX0_build_68 rfl rfl ?_
      refine wd_iload_n (j := 71) C 1 dX0_build_70 rfl rfl rfl ?_
      obtain ⟨u7, hu7, h⟩ := bnd_some h
      refine wd_callVv (j := 74) (q0 := 0) (ci := 0) (As := [.int u5, .int u4]) (rest := []) (ws' := (w_X0_build x0 x1 x2 x3 x4 cI cD nodes links u7.1 u7.2 len codes)) C (c_X0_addNeighbor l D cI cD x0 x1 x2 nodes links u6.1 u6.2 u5 u4 u7 hu7) (cwV 2 C.1.2.2.2.2 gX0_build_X0_addNeighbor rfl rfl rfl (by decide +kernel) ⟨Nat.le_of_ble_eq_true rfl, Nat.le_of_ble_eq_true rfl⟩) rfl rfl [0, 1, 2] [3, 4] rfl rfl rfl rfl (by decide) [2, 3, 4, 0, 1] rfl rfl rfl (Nat.le_of_ble_eq_true rfl) (Nat.le_of_ble_eq_true rfl) (Nat.le_of_ble_eq_true rfl) dX0_build_71 rfl ?_
      refine wd_iinc (j := 77) (lv' := [(2, .int (st.1 + 1)), (4, .int u5), (3, .int u4), (0, .ref x0), (1, .ref x3)]) C 4 dX0_build_74 rfl rfl (by decide) rfl rfl ?_
      refine wd_goto (t := 39) C dX0_build_77 (by decide) ?_
      obtain rfl := Option.some.inj h
      refine wd_lv (lv' := [(0, .ref x0), (1, .ref x3), (2, .int (st.1 + 1))]) [3, 4, 0] rfl ?_
      exact ih ((st.1 + 1), u7.1, u7.2) E hk kx
set_option maxRecDepth 100000 in
set_option maxHeartbeats 4000000 in
theorem c_X0_build (l : Launch) (D : va_G) (cI cD : ClassId) (x0 x1 x2 x3 x4 : Nat) (N : Nat) (nodes : Int32) (links : Int32) (deg : Nat → Int32) (nbr : Nat → Int32) (len : Int32) (codes : Nat → Int32)  (u : Int32 × Int32 × (Nat → Int32) × (Nat → Int32)) (h : f_X0_build N nodes links deg nbr len codes = some u) : MetV l yX0_build wsX0_build { frames := 2, cells := 0, slots := 0, locals := 43 } D [(cI, .int), (cD, .double)] [.ref x0, .ref x3] (w_X0_build x0 x1 x2 x3 x4 cI cD nodes links deg nbr len codes) (w_X0_build x0 x1 x2 x3 x4 cI cD u.1 u.2.1 u.2.2.1 u.2.2.2 len codes) := by
  refine MetV.of (own := RX0) (cc := cX0_build) (nL := 5) (ret := none) (by decide) rfl rfl (Nat.le_of_ble_eq_true rfl) rfl ?_
  intro p e s m args below meth c A hA C hr hlk
  unfold f_X0_build at h
  refine wd_aload_n (j := 1) C 0 dX0_build_0 rfl rfl rfl ?_
  refine wd_aload_n (j := 2) C 1 dX0_build_1 rfl rfl rfl ?_
  obtain ⟨u8, hu8, h⟩ := bnd_some h
  refine wd_callVi (j := 5) (q0 := 0) (ci := 1) (As := []) (rest := [.ref x0]) (ws' := (w_X0_build x0 x1 x2 x3 x4 cI cD nodes links deg nbr len codes)) C (c_X1_nodes l D cI cD x3 x4 len codes u8 hu8) (cwV 0 C.1.2.2.2.2 gX0_build_X1_nodes rfl rfl rfl (by decide +kernel) ⟨Nat.le_of_ble_eq_true rfl, Nat.le_of_ble_eq_true rfl⟩) rfl rfl [3, 4] [0, 1, 2] rfl rfl rfl rfl (by decide) [0, 1, 2, 3, 4] rfl rfl rfl (Nat.le_of_ble_eq_true rfl) (Nat.le_of_ble_eq_true rfl) (Nat.le_of_ble_eq_true rfl) dX0_build_2 rfl ?_
  refine wd_put (j := 8) (q0 := 0) (f := 2) (ci := 0) (ws' := (w_X0_build x0 x1 x2 x3 x4 cI cD u8 links deg nbr len codes)) C inX0_build_X0 tyX0 tyX0_ok nmX0 kX0_build_1 rfl (by decide) rfl rfl rfl rfl (Nat.le_of_ble_eq_true rfl) rfl dX0_build_5 rfl ?_
  refine wd_aload_n (j := 9) C 0 dX0_build_8 rfl rfl rfl ?_
  refine wd_aload_n (j := 10) C 1 dX0_build_9 rfl rfl rfl ?_
  obtain ⟨u9, hu9, h⟩ := bnd_some h
  refine wd_callVi (j := 13) (q0 := 0) (ci := 1) (As := []) (rest := [.ref x0]) (ws' := (w_X0_build x0 x1 x2 x3 x4 cI cD u8 links deg nbr len codes)) C (c_X1_links l D cI cD x3 x4 len u9 hu9) (cwV 0 C.1.2.2.2.2 gX0_build_X1_links rfl rfl rfl (by decide +kernel) ⟨Nat.le_of_ble_eq_true rfl, Nat.le_of_ble_eq_true rfl⟩) rfl rfl [3] [0, 1, 2, 4] rfl rfl rfl rfl (by decide) [0, 1, 2, 4, 3] rfl rfl rfl (Nat.le_of_ble_eq_true rfl) (Nat.le_of_ble_eq_true rfl) (Nat.le_of_ble_eq_true rfl) dX0_build_10 rfl ?_
  refine wd_put (j := 16) (q0 := 0) (f := 3) (ci := 0) (ws' := (w_X0_build x0 x1 x2 x3 x4 cI cD u8 u9 deg nbr len codes)) C inX0_build_X0 tyX0 tyX0_ok nmX0 kX0_build_2 rfl (by decide) rfl rfl rfl rfl (Nat.le_of_ble_eq_true rfl) rfl dX0_build_13 rfl ?_
  refine wd_iconst (j := 17) (v := 0) C dX0_build_16 (by decide) rfl ?_
  refine wd_istore_n (j := 18) (lv' := [(2, .int (0 : Int32)), (0, .ref x0), (1, .ref x3)]) C dX0_build_17 rfl (by decide) rfl rfl ?_
  refine wd_lv (lv' := [(0, .ref x0), (1, .ref x3), (2, .int (0 : Int32))]) [1, 2, 0] rfl ?_
  obtain ⟨u10, hu10, h⟩ := bnd_some h
  refine lw_X0_build_18 l D cI cD x0 x1 x2 x3 x4 N u8 u9 nbr len codes C N ((0 : Int32), deg) u10 hu10 ?_
  refine wd_iconst (j := 38) (v := 0) C dX0_build_37 (by decide) rfl ?_
  refine wd_istore_n (j := 39) (lv' := [(2, .int (0 : Int32)), (0, .ref x0), (1, .ref x3)]) C dX0_build_38 rfl (by decide) rfl rfl ?_
  refine wd_lv (lv' := [(0, .ref x0), (1, .ref x3), (2, .int (0 : Int32))]) [1, 2, 0] rfl ?_
  obtain ⟨u11, hu11, h⟩ := bnd_some h
  refine lw_X0_build_39 l D cI cD x0 x1 x2 x3 x4 N u8 len u9 codes C N ((0 : Int32), u10, nbr) u11 hu11 ?_
  obtain rfl := Option.some.inj h
  exact wd_vret C hA hr hlk rfl dX0_build_80
abbrev w_X0_hasNode (x0 x1 x2 : Nat) (cI cD : ClassId) (nodes : Int32) (links : Int32) : va_W := [(x0, .inr (0, [.ref x1, .ref x2, .int nodes, .int links]))]
theorem kX0_hasNode_1 : Cond.fieldLink "RotorRouter$Graph" 18 "RotorRouter$Graph" "nodes" "I" ∈ wsX0_hasNode := List.mem_of_getElem? (i := 1) rfl
theorem inX0_hasNode_X0 : ∀ w ∈ wsX00, w ∈ wsX0_hasNode := fun _ h => List.mem_cons_of_mem _ (List.mem_append_right _ h)
set_option maxRecDepth 100000 in
set_option maxHeartbeats 4000000 in
theorem c_X0_hasNode (l : Launch) (D : va_G) (cI cD : ClassId) (x0 x1 x2 : Nat) (nodes : Int32) (links : Int32) (p1 : Int32) (u : Int32) (h : f_X0_hasNode nodes p1 = some u) : MetI l yX0_hasNode wsX0_hasNode { frames := 0, cells := 0, slots := 0, locals := 0 } D [(cI, .int), (cD, .double)] [.ref x0, .int p1] (w_X0_hasNode x0 x1 x2 cI cD nodes links) u (w_X0_hasNode x0 x1 x2 cI cD nodes links) := by
  refine MetI.of (own := RX0) (cc := cX0_hasNode) (nL := 2) (ret := (some .boolean)) (by decide) rfl rfl (Nat.le_of_ble_eq_true rfl) rfl ?_
  intro p e s m args below meth c A hA C hr hlk
  unfold f_X0_hasNode at h
  refine wd_iload_n (j := 1) C 1 dX0_hasNode_0 rfl rfl rfl ?_
  refine wd_if_lt (j := 4) (t := 16) C dX0_hasNode_1 (by decide) rfl (fun c1 => ?_) (fun c1 => ?_)
  · replace h := (if_pos c1).symm.trans h
    refine wd_iconst (j := 17) (v := 0) C dX0_hasNode_16 (by decide) rfl ?_
    obtain rfl := Option.some.inj h
    exact wd_iret C hA hr hlk rfl rfl rfl dX0_hasNode_17
  · replace h := (if_neg c1).symm.trans h
    refine wd_iload_n (j := 5) C 1 dX0_hasNode_4 rfl rfl rfl ?_
    refine wd_aload_n (j := 6) C 0 dX0_hasNode_5 rfl rfl rfl ?_
    refine wd_get (j := 9) (q0 := 0) (f := 2) (ci := 0) (v := .int nodes) C inX0_hasNode_X0 kX0_hasNode_1 rfl (by decide) rfl rfl dX0_hasNode_6 rfl ?_
    refine wd_icmp_ge (j := 12) (t := 16) C dX0_hasNode_9 (by decide) rfl (fun c2 => ?_) (fun c2 => ?_)
    · replace h := (if_pos c2).symm.trans h
      refine wd_iconst (j := 17) (v := 0) C dX0_hasNode_16 (by decide) rfl ?_
      obtain rfl := Option.some.inj h
      exact wd_iret C hA hr hlk rfl rfl rfl dX0_hasNode_17
    · replace h := (if_neg c2).symm.trans h
      refine wd_iconst (j := 13) (v := 1) C dX0_hasNode_12 (by decide) rfl ?_
      refine wd_goto (t := 17) C dX0_hasNode_13 (by decide) ?_
      obtain rfl := Option.some.inj h
      exact wd_iret C hA hr hlk rfl rfl rfl dX0_hasNode_17
abbrev w_X0_neighborError (x0 x1 x2 : Nat) (cI cD : ClassId) (nodes : Int32) (links : Int32) (deg : Nat → Int32) : va_W := [(x0, .inr (0, [.ref x1, .ref x2, .int nodes, .int links])), (x1, .inl (cI, 8, .inl deg))]
theorem kX0_neighborError_1 : Cond.fieldLink "RotorRouter$Graph" 9 "RotorRouter$Graph" "degrees" "[I" ∈ wsX0_neighborError := List.mem_of_getElem? (i := 1) rfl
theorem inX0_neighborError_X0 : ∀ w ∈ wsX00, w ∈ wsX0_neighborError := fun _ h => List.mem_cons_of_mem _ (List.mem_append_right _ h)
set_option maxRecDepth 100000 in
set_option maxHeartbeats 4000000 in
theorem c_X0_neighborError (l : Launch) (D : va_G) (cI cD : ClassId) (x0 x1 x2 : Nat) (nodes : Int32) (links : Int32) (deg : Nat → Int32) (p1 : Int32) (p2 : Int32) (u : Int32) (h : f_X0_neighborError nodes deg p1 p2 = some u) : MetI l yX0_neighborError wsX0_neighborError { frames := 1, cells := 0, slots := 0, locals := 21 } D [(cI, .int), (cD, .double)] [.ref x0, .int p1, .int p2] (w_X0_neighborError x0 x1 x2 cI cD nodes links deg) u (w_X0_neighborError x0 x1 x2 cI cD nodes links deg) := by
  refine MetI.of (own := RX0) (cc := cX0_neighborError) (nL := 3) (ret := (some .int)) (by decide) rfl rfl (Nat.le_of_ble_eq_true rfl) rfl ?_
  intro p e s m args below meth c A hA C hr hlk
  unfold f_X0_neighborError at h
  refine wd_aload_n (j := 1) C 0 dX0_neighborError_0 rfl rfl rfl ?_
  refine wd_iload_n (j := 2) C 1 dX0_neighborError_1 rfl rfl rfl ?_
  obtain ⟨u1, hu1, h⟩ := bnd_some h
  refine wd_callVi (j := 5) (q0 := 0) (ci := 0) (As := [.int p1]) (rest := []) (ws' := (w_X0_neighborError x0 x1 x2 cI cD nodes links deg)) C (c_X0_hasNode l D cI cD x0 x1 x2 nodes links p1 u1 hu1) (cwV 1 C.1.2.2.2.2 gX0_neighborError_X0_hasNode rfl rfl rfl (by decide +kernel) ⟨Nat.le_of_ble_eq_true rfl, Nat.le_of_ble_eq_true rfl⟩) rfl rfl [0] [1] rfl rfl rfl rfl (by decide) [1, 0] rfl rfl rfl (Nat.le_of_ble_eq_true rfl) (Nat.le_of_ble_eq_true rfl) (Nat.le_of_ble_eq_true rfl) dX0_neighborError_2 rfl ?_
  refine wd_if_ne (j := 8) (t := 11) C dX0_neighborError_5 (by decide) rfl (fun c2 => ?_) (fun c2 => ?_)
  · replace h := (if_neg c2).symm.trans h
    refine wd_iload_n (j := 12) C 2 dX0_neighborError_11 rfl rfl rfl ?_
    refine wd_if_lt (j := 15) (t := 29) C dX0_neighborError_12 (by decide) rfl (fun c3 => ?_) (fun c3 => ?_)
    · replace h := (if_pos c3).symm.trans h
      refine wd_bipush (j := 31) (v := -6) C dX0_neighborError_29 (by decide) rfl ?_
      obtain rfl := Option.some.inj h
      exact wd_iret C hA hr hlk rfl rfl rfl dX0_neighborError_31
    · replace h := (if_neg c3).symm.trans h
      refine wd_iload_n (j := 16) C 2 dX0_neighborError_15 rfl rfl rfl ?_
      refine wd_aload_n (j := 17) C 0 dX0_neighborError_16 rfl rfl rfl ?_
      refine wd_get (j := 20) (q0 := 0) (f := 0) (ci := 0) (v := .ref x1) C inX0_neighborError_X0 kX0_neighborError_1 rfl (by decide) rfl rfl dX0_neighborError_17 rfl ?_
      refine wd_iload_n (j := 21) C 1 dX0_neighborError_20 rfl rfl rfl ?_
      obtain ⟨g4, h⟩ := grd_some h
      refine wd_iald (j := 22) (q0 := 1) (t0 := 0) C rfl rfl (inB_in g4) dX0_neighborError_21 rfl ?_
      refine wd_icmp_ge (j := 25) (t := 29) C dX0_neighborError_22 (by decide) rfl (fun c5 => ?_) (fun c5 => ?_)
      · replace h := (if_pos c5).symm.trans h
        refine wd_bipush (j := 31) (v := -6) C dX0_neighborError_29 (by decide) rfl ?_
        obtain rfl := Option.some.inj h
        exact wd_iret C hA hr hlk rfl rfl rfl dX0_neighborError_31
      · replace h := (if_neg c5).symm.trans h
        refine wd_iconst (j := 26) (v := 0) C dX0_neighborError_25 (by decide) rfl ?_
        refine wd_goto (t := 31) C dX0_neighborError_26 (by decide) ?_
        obtain rfl := Option.some.inj h
        exact wd_iret C hA hr hlk rfl rfl rfl dX0_neighborError_31
  · replace h := (if_pos c2).symm.trans h
    refine wd_bipush (j := 10) (v := -4) C dX0_neighborError_8 (by decide) rfl ?_
    obtain rfl := Option.some.inj h
    exact wd_iret C hA hr hlk rfl rfl rfl dX0_neighborError_10
abbrev w_X0_rotorAfter (x0 x1 x2 : Nat) (cI cD : ClassId) (nodes : Int32) (links : Int32) (deg : Nat → Int32) : va_W := [(x0, .inr (0, [.ref x1, .ref x2, .int nodes, .int links])), (x1, .inl (cI, 8, .inl deg))]
theorem kX0_rotorAfter_1 : Cond.fieldLink "RotorRouter$Graph" 9 "RotorRouter$Graph" "degrees" "[I" ∈ wsX0_rotorAfter := List.mem_of_getElem? (i := 1) rfl
theorem inX0_rotorAfter_X0 : ∀ w ∈ wsX00, w ∈ wsX0_rotorAfter := fun _ h => List.mem_cons_of_mem _ (List.mem_append_right _ h)
set_option maxRecDepth 100000 in
set_option maxHeartbeats 4000000 in
theorem c_X0_rotorAfter (l : Launch) (D : va_G) (cI cD : ClassId) (x0 x1 x2 : Nat) (nodes : Int32) (links : Int32) (deg : Nat → Int32) (p1 : Int32) (p2 : Int32) (u : Int32) (h : f_X0_rotorAfter deg p1 p2 = some u) : MetI l yX0_rotorAfter wsX0_rotorAfter { frames := 0, cells := 0, slots := 0, locals := 0 } D [(cI, .int), (cD, .double)] [.ref x0, .int p1, .int p2] (w_X0_rotorAfter x0 x1 x2 cI cD nodes links deg) u (w_X0_rotorAfter x0 x1 x2 cI cD nodes links deg) := by
  refine MetI.of (own := RX0) (cc := cX0_rotorAfter) (nL := 4) (ret := (some .int)) (by decide) rfl rfl (Nat.le_of_ble_eq_true rfl) rfl ?_
  intro p e s m args below meth c A hA C hr hlk
  unfold f_X0_rotorAfter at h
  refine wd_iload_n (j := 1) C 2 dX0_rotorAfter_0 rfl rfl rfl ?_
  refine wd_iconst (j := 2) (v := 1) C dX0_rotorAfter_1 (by decide) rfl ?_
  refine wd_iadd (j := 3) C dX0_rotorAfter_2 rfl ?_
  refine wd_istore_n (j := 4) (lv' := [(3, .int (p2 + (1 : Int32))), (0, .ref x0), (1, .int p1), (2, .int p2)]) C dX0_rotorAfter_3 rfl (by decide) rfl rfl ?_
  refine wd_iload_n (j := 5) C 0 dX0_rotorAfter_4 rfl rfl rfl ?_
  refine wd_aload_n (j := 6) C 1 dX0_rotorAfter_5 rfl rfl rfl ?_
  refine wd_get (j := 9) (q0 := 0) (f := 0) (ci := 0) (v := .ref x1) C inX0_rotorAfter_X0 kX0_rotorAfter_1 rfl (by decide) rfl rfl dX0_rotorAfter_6 rfl ?_
  refine wd_iload_n (j := 10) C 2 dX0_rotorAfter_9 rfl rfl rfl ?_
  obtain ⟨g1, h⟩ := grd_some h
  refine wd_iald (j := 11) (q0 := 1) (t0 := 0) C rfl rfl (inB_in g1) dX0_rotorAfter_10 rfl ?_
  refine wd_icmp_ne (j := 14) (t := 18) C dX0_rotorAfter_11 (by decide) rfl (fun c2 => ?_) (fun c2 => ?_)
  · replace h := (if_neg c2).symm.trans h
    refine wd_iload_n (j := 19) C 0 dX0_rotorAfter_18 rfl rfl rfl ?_
    obtain rfl := Option.some.inj h
    exact wd_iret C hA hr hlk rfl rfl rfl dX0_rotorAfter_19
  · replace h := (if_pos c2).symm.trans h
    refine wd_iconst (j := 15) (v := 0) C dX0_rotorAfter_14 (by decide) rfl ?_
    refine wd_goto (t := 19) C dX0_rotorAfter_15 (by decide) ?_
    obtain rfl := Option.some.inj h
    exact wd_iret C hA hr hlk rfl rfl rfl dX0_rotorAfter_19
abbrev w_X0_assignments (x0 x1 x2 : Nat) (cI cD : ClassId) (nodes : Int32) (links : Int32) (deg : Nat → Int32) : va_W := [(x0, .inr (0, [.ref x1, .ref x2, .int nodes, .int links])), (x1, .inl (cI, 8, .inl deg))]
theorem kX0_assignments_1 : Cond.fieldLink "RotorRouter$Graph" 18 "RotorRouter$Graph" "nodes" "I" ∈ wsX0_assignments := List.mem_of_getElem? (i := 1) rfl
theorem kX0_assignments_2 : Cond.fieldLink "RotorRouter$Graph" 9 "RotorRouter$Graph" "degrees" "[I" ∈ wsX0_assignments := List.mem_of_getElem? (i := 2) rfl
theorem inX0_assignments_X0 : ∀ w ∈ wsX00, w ∈ wsX0_assignments := fun _ h => List.mem_cons_of_mem _ (List.mem_append_right _ h)
set_option maxRecDepth 100000 in
set_option maxHeartbeats 4000000 in
theorem lw_X0_assignments_4 (l : Launch) (D : va_G) (cI cD : ClassId) (x0 x1 x2 : Nat) (N : Nat) (links : Int32) (nodes : Int32) (deg : Nat → Int32)  {p : Program} {e : Env} {s : State} {m : MethodId} {args : Array Value} {below : List Frame} {meth : Method} {c : Code} {A : Nat → Prop} {Q : State → Prop} (C : wd_C p m c cX0_assignments 3 s args wsX0_assignments RX0 D [(cI, .int), (cD, .double)] A) : ∀ (n : Nat) (st : Int32 × Int32) (E : Int32), iter (b_X0_assignments_4 nodes deg) n st = some E → (Wd p l e { frames := 0, cells := 0, slots := 0, locals := 0 } s m args below meth c 3 D A 0 0 Q 27 [(1, .int E)] [] (w_X0_assignments x0 x1 x2 cI cD nodes links deg)) → Wd p l e { frames := 0, cells := 0, slots := 0, locals := 0 } s m args below meth c 3 D A 0 0 Q 4 [(0, .ref x0), (1, .int st.1), (2, .int st.2)] [] (w_X0_assignments x0 x1 x2 cI cD nodes links deg) := by
  intro n
  induction n with
  | zero => intro st E h; cases h
  | succ n ih =>
    intro st E h kx
    obtain ⟨b, h, hk⟩ := iter_step h
    unfold b_X0_assignments_4 at h
    refine wd_iload_n (j := 5) C 2 dX0_assignments_4 rfl rfl rfl ?_
    refine wd_aload_n (j := 6) C 0 dX0_assignments_5 rfl rfl rfl ?_
    refine wd_get (j := 9) (q0 := 0) (f := 2) (ci := 0) (v := .int nodes) C inX0_assignments_X0 kX0_assignments_1 rfl (by decide) rfl rfl dX0_assignments_6 rfl ?_
    refine wd_icmp_ge (j := 12) (t := 27) C dX0_assignments_9 (by decide) rfl (fun c1 => ?_) (fun c1 => ?_)
    · replace h := (if_pos c1).symm.trans h
      obtain rfl := Option.some.inj h
      obtain rfl := hk
      refine wd_lv (lv' := [(1, .int st.1)]) [1] rfl ?_
      exact kx
    · replace h := (if_neg c1).symm.trans h
      refine wd_iload_n (j := 13) C 1 dX0_assignments_12 rfl rfl rfl ?_
      refine wd_aload_n (j := 14) C 0 dX0_assignments_13 rfl rfl rfl ?_
      refine wd_get (j := 17) (q0 := 0) (f := 0) (ci := 0) (v := .ref x1) C inX0_assignments_X0 kX0_assignments_2 rfl (by decide) rfl rfl dX0_assignments_14 rfl ?_
      refine wd_iload_n (j := 18) C 2 dX0_assignments_17 rfl rfl rfl ?_
      obtain ⟨g2, h⟩ := grd_some h
      refine wd_iald (j := 19) (q0 := 1) (t0 := 0) C rfl rfl (inB_in g2) dX0_assignments_18 rfl ?_
      refine wd_imul (j := 20) C dX0_assignments_19 rfl ?_
      refine wd_istore_n (j := 21) (lv' := [(1, .int (st.1 * (deg st.2.toNatClampNeg))), (0, .ref x0), (2, .int st.2)]) C dX0_assignments_20 rfl (by decide) rfl rfl ?_
      refine wd_iinc (j := 24) (lv' := [(2, .int (st.2 + 1)), (1, .int (st.1 * (deg st.2.toNatClampNeg))), (0, .ref x0)]) C 2 dX0_assignments_21 rfl rfl (by decide) rfl rfl ?_
      refine wd_goto (t := 4) C dX0_assignments_24 (by decide) ?_
      obtain rfl := Option.some.inj h
      refine wd_lv (lv' := [(0, .ref x0), (1, .int (st.1 * (deg st.2.toNatClampNeg))), (2, .int (st.2 + 1))]) [2, 1, 0] rfl ?_
      exact ih ((st.1 * (deg st.2.toNatClampNeg)), (st.2 + 1)) E hk kx
set_option maxRecDepth 100000 in
set_option maxHeartbeats 4000000 in
theorem c_X0_assignments (l : Launch) (D : va_G) (cI cD : ClassId) (x0 x1 x2 : Nat) (N : Nat) (nodes : Int32) (links : Int32) (deg : Nat → Int32)  (u : Int32) (h : f_X0_assignments N nodes deg = some u) : MetI l yX0_assignments wsX0_assignments { frames := 0, cells := 0, slots := 0, locals := 0 } D [(cI, .int), (cD, .double)] [.ref x0] (w_X0_assignments x0 x1 x2 cI cD nodes links deg) u (w_X0_assignments x0 x1 x2 cI cD nodes links deg) := by
  refine MetI.of (own := RX0) (cc := cX0_assignments) (nL := 3) (ret := (some .int)) (by decide) rfl rfl (Nat.le_of_ble_eq_true rfl) rfl ?_
  intro p e s m args below meth c A hA C hr hlk
  unfold f_X0_assignments at h
  refine wd_iconst (j := 1) (v := 1) C dX0_assignments_0 (by decide) rfl ?_
  refine wd_istore_n (j := 2) (lv' := [(1, .int (1 : Int32)), (0, .ref x0)]) C dX0_assignments_1 rfl (by decide) rfl rfl ?_
  refine wd_iconst (j := 3) (v := 0) C dX0_assignments_2 (by decide) rfl ?_
  refine wd_istore_n (j := 4) (lv' := [(2, .int (0 : Int32)), (1, .int (1 : Int32)), (0, .ref x0)]) C dX0_assignments_3 rfl (by decide) rfl rfl ?_
  refine wd_lv (lv' := [(0, .ref x0), (1, .int (1 : Int32)), (2, .int (0 : Int32))]) [2, 1, 0] rfl ?_
  obtain ⟨u3, hu3, h⟩ := bnd_some h
  refine lw_X0_assignments_4 l D cI cD x0 x1 x2 N links nodes deg C N ((1 : Int32), (0 : Int32)) u3 hu3 ?_
  refine wd_iload_n (j := 28) C 0 dX0_assignments_27 rfl rfl rfl ?_
  obtain rfl := Option.some.inj h
  exact wd_iret C hA hr hlk rfl rfl rfl dX0_assignments_28
abbrev w_X1_placeInGroup  (cI cD : ClassId)  : va_W := []
set_option maxRecDepth 100000 in
set_option maxHeartbeats 4000000 in
theorem c_X1_placeInGroup (l : Launch) (D : va_G) (cI cD : ClassId)   (p0 : Int32) (u : Int32) (h : f_X1_placeInGroup p0 = some u) : MetI l yX1_placeInGroup wsX1_placeInGroup { frames := 0, cells := 0, slots := 0, locals := 0 } D [(cI, .int), (cD, .double)] [.int p0] (w_X1_placeInGroup cI cD) u (w_X1_placeInGroup cI cD) := by
  refine MetI.of (own := RX1) (cc := cX1_placeInGroup) (nL := 1) (ret := (some .int)) (by decide) rfl rfl (Nat.le_of_ble_eq_true rfl) rfl ?_
  intro p e s m args below meth c A hA C hr hlk
  unfold f_X1_placeInGroup at h
  refine wd_iload_n (j := 1) C 0 dX1_placeInGroup_0 rfl rfl rfl ?_
  refine wd_iconst (j := 2) (v := 2) C dX1_placeInGroup_1 (by decide) rfl ?_
  refine wd_isub (j := 3) C dX1_placeInGroup_2 rfl ?_
  refine wd_iconst (j := 4) (v := 3) C dX1_placeInGroup_3 (by decide) rfl ?_
  refine wd_irem (j := 5) C dX1_placeInGroup_4 (by decide) rfl ?_
  obtain rfl := Option.some.inj h
  exact wd_iret C hA hr hlk rfl rfl rfl dX1_placeInGroup_5
abbrev w_X1_isNode (x0 x1 : Nat) (cI cD : ClassId) (len : Int32) (codes : Nat → Int32) : va_W := [(x0, .inr (1, [.ref x1, .int len])), (x1, .inl (cI, 40, .inl codes))]
theorem kX1_isNode_1 : Cond.fieldLink "RotorRouter$InputText" 11 "RotorRouter$InputText" "codes" "[I" ∈ wsX1_isNode := List.mem_of_getElem? (i := 1) rfl
theorem inX1_isNode_X1 : ∀ w ∈ wsX10, w ∈ wsX1_isNode := fun _ h => List.mem_cons_of_mem _ (List.mem_append_right _ h)
set_option maxRecDepth 100000 in
set_option maxHeartbeats 4000000 in
theorem c_X1_isNode (l : Launch) (D : va_G) (cI cD : ClassId) (x0 x1 : Nat) (len : Int32) (codes : Nat → Int32) (p1 : Int32) (u : Int32) (h : f_X1_isNode codes p1 = some u) : MetI l yX1_isNode wsX1_isNode { frames := 0, cells := 0, slots := 0, locals := 0 } D [(cI, .int), (cD, .double)] [.ref x0, .int p1] (w_X1_isNode x0 x1 cI cD len codes) u (w_X1_isNode x0 x1 cI cD len codes) := by
  refine MetI.of (own := RX1) (cc := cX1_isNode) (nL := 2) (ret := (some .boolean)) (by decide) rfl rfl (Nat.le_of_ble_eq_true rfl) rfl ?_
  intro p e s m args below meth c A hA C hr hlk
  unfold f_X1_isNode at h
  refine wd_iload_n (j := 1) C 1 dX1_isNode_0 rfl rfl rfl ?_
  refine wd_bipush (j := 3) (v := 48) C dX1_isNode_1 (by decide) rfl ?_
  refine wd_icmp_lt (j := 6) (t := 20) C dX1_isNode_3 (by decide) rfl (fun c1 => ?_) (fun c1 => ?_)
  · replace h := (if_pos c1).symm.trans h
    refine wd_iconst (j := 21) (v := 0) C dX1_isNode_20 (by decide) rfl ?_
    obtain rfl := Option.some.inj h
    exact wd_iret C hA hr hlk rfl rfl rfl dX1_isNode_21
  · replace h := (if_neg c1).symm.trans h
    refine wd_iload_n (j := 7) C 1 dX1_isNode_6 rfl rfl rfl ?_
    refine wd_aload_n (j := 8) C 0 dX1_isNode_7 rfl rfl rfl ?_
    refine wd_get (j := 11) (q0 := 0) (f := 0) (ci := 1) (v := .ref x1) C inX1_isNode_X1 kX1_isNode_1 rfl (by decide) rfl rfl dX1_isNode_8 rfl ?_
    refine wd_iconst (j := 12) (v := 0) C dX1_isNode_11 (by decide) rfl ?_
    refine wd_iald (j := 13) (q0 := 1) (t0 := 0) C rfl rfl (inB_in (by decide)) dX1_isNode_12 rfl ?_
    refine wd_icmp_ge (j := 16) (t := 20) C dX1_isNode_13 (by decide) rfl (fun c2 => ?_) (fun c2 => ?_)
    · replace h := (if_pos c2).symm.trans h
      refine wd_iconst (j := 21) (v := 0) C dX1_isNode_20 (by decide) rfl ?_
      obtain rfl := Option.some.inj h
      exact wd_iret C hA hr hlk rfl rfl rfl dX1_isNode_21
    · replace h := (if_neg c2).symm.trans h
      refine wd_iconst (j := 17) (v := 1) C dX1_isNode_16 (by decide) rfl ?_
      refine wd_goto (t := 21) C dX1_isNode_17 (by decide) ?_
      obtain rfl := Option.some.inj h
      exact wd_iret C hA hr hlk rfl rfl rfl dX1_isNode_21
abbrev w_X1_isNewLink (x0 x1 : Nat) (cI cD : ClassId) (len : Int32) (codes : Nat → Int32) : va_W := [(x0, .inr (1, [.ref x1, .int len])), (x1, .inl (cI, 40, .inl codes))]
theorem kX1_isNewLink_1 : Cond.fieldLink "RotorRouter$InputText" 11 "RotorRouter$InputText" "codes" "[I" ∈ wsX1_isNewLink := List.mem_of_getElem? (i := 1) rfl
theorem inX1_isNewLink_X1 : ∀ w ∈ wsX10, w ∈ wsX1_isNewLink := fun _ h => List.mem_cons_of_mem _ (List.mem_append_right _ h)
set_option maxRecDepth 100000 in
set_option maxHeartbeats 4000000 in
theorem lw_X1_isNewLink_19 (l : Launch) (D : va_G) (cI cD : ClassId) (x0 x1 : Nat) (N : Nat) (len : Int32) (codes : Nat → Int32) (p1 : Int32) (p2 : Int32) (p3 : Int32) {p : Program} {e : Env} {s : State} {m : MethodId} {args : Array Value} {below : List Frame} {meth : Method} {c : Code} {A : Nat → Prop} {Q : State → Prop} (C : wd_C p m c cX1_isNewLink 7 s args wsX1_isNewLink RX1 D [(cI, .int), (cD, .double)] A) : ∀ (n : Nat) (st : Int32) (E : (Unit) ⊕ (Unit)), iter (b_X1_isNewLink_19 codes p1 p2 p3) n st = some E → (∀ e1, E = .inl e1 → Wd p l e { frames := 0, cells := 0, slots := 0, locals := 0 } s m args below meth c 7 D A 0 0 Q 107 [] [] (w_X1_isNewLink x0 x1 cI cD len codes)) → (∀ e2, E = .inr e2 → Wd p l e { frames := 0, cells := 0, slots := 0, locals := 0 } s m args below meth c 7 D A 0 0 Q 99 [] [] (w_X1_isNewLink x0 x1 cI cD len codes)) → Wd p l e { frames := 0, cells := 0, slots := 0, locals := 0 } s m args below meth c 7 D A 0 0 Q 19 [(0, .ref x0), (1, .int p1), (2, .int p2), (3, .int p3), (4, .int st)] [] (w_X1_isNewLink x0 x1 cI cD len codes) := by
  intro n
  induction n with
  | zero => intro st E h; cases h
  | succ n ih =>
    intro st E h kx1 kx2
    obtain ⟨b, h, hk⟩ := iter_step h
    unfold b_X1_isNewLink_19 at h
    refine wd_iload (j := 21) C 4 dX1_isNewLink_19 rfl rfl ?_
    refine wd_iload_n (j := 22) C 1 dX1_isNewLink_21 rfl rfl rfl ?_
    refine wd_iconst (j := 23) (v := 1) C dX1_isNewLink_22 (by decide) rfl ?_
    refine wd_isub (j := 24) C dX1_isNewLink_23 rfl ?_
    refine wd_icmp_ge (j := 27) (t := 107) C dX1_isNewLink_24 (by decide) rfl (fun c1 => ?_) (fun c1 => ?_)
    · replace h := (if_pos c1).symm.trans h
      obtain rfl := Option.some.inj h
      obtain rfl := hk
      refine wd_lv (lv' := []) [] rfl ?_
      exact kx1 _ rfl
    · replace h := (if_neg c1).symm.trans h
      refine wd_aload_n (j := 28) C 0 dX1_isNewLink_27 rfl rfl rfl ?_
      refine wd_get (j := 31) (q0 := 0) (f := 0) (ci := 1) (v := .ref x1) C inX1_isNewLink_X1 kX1_isNewLink_1 rfl (by decide) rfl rfl dX1_isNewLink_28 rfl ?_
      refine wd_iload (j := 33) C 4 dX1_isNewLink_31 rfl rfl ?_
      obtain ⟨g2, h⟩ := grd_some h
      refine wd_iald (j := 34) (q0 := 1) (t0 := 0) C rfl rfl (inB_in g2) dX1_isNewLink_33 rfl ?_
      refine wd_iload_n (j := 35) C 2 dX1_isNewLink_34 rfl rfl rfl ?_
      refine wd_icmp_ne (j := 38) (t := 55) C dX1_isNewLink_35 (by decide) rfl (fun c3 => ?_) (fun c3 => ?_)
      · replace h := (if_neg c3).symm.trans h
        refine wd_iconst (j := 56) (v := 0) C dX1_isNewLink_55 (by decide) rfl ?_
        refine wd_istore (j := 58) (lv' := [(5, .int (0 : Int32)), (0, .ref x0), (1, .int p1), (2, .int p2), (3, .int p3), (4, .int st)]) C dX1_isNewLink_56 (by decide) rfl rfl ?_
        refine wd_aload_n (j := 59) C 1 dX1_isNewLink_58 rfl rfl rfl ?_
        refine wd_get (j := 62) (q0 := 0) (f := 0) (ci := 1) (v := .ref x1) C inX1_isNewLink_X1 kX1_isNewLink_1 rfl (by decide) rfl rfl dX1_isNewLink_59 rfl ?_
        refine wd_iload (j := 64) C 5 dX1_isNewLink_62 rfl rfl ?_
        obtain ⟨g4, h⟩ := grd_some h
        refine wd_iald (j := 65) (q0 := 1) (t0 := 0) C rfl rfl (inB_in g4) dX1_isNewLink_64 rfl ?_
        refine wd_iload_n (j := 66) C 4 dX1_isNewLink_65 rfl rfl rfl ?_
        refine wd_icmp_ne (j := 69) (t := 86) C dX1_isNewLink_66 (by decide) rfl (fun c5 => ?_) (fun c5 => ?_)
        · replace h := (if_neg c5).symm.trans h
          refine wd_iconst (j := 87) (v := 0) C dX1_isNewLink_86 (by decide) rfl ?_
          refine wd_istore (j := 89) (lv' := [(6, .int (0 : Int32)), (5, .int (0 : Int32)), (0, .ref x0), (1, .int p1), (2, .int p2), (3, .int p3), (4, .int st)]) C dX1_isNewLink_87 (by decide) rfl rfl ?_
          refine wd_iload (j := 91) C 1 dX1_isNewLink_89 rfl rfl ?_
          refine wd_if_ne (j := 94) (t := 99) C dX1_isNewLink_91 (by decide) rfl (fun hc => absurd hc (by decide)) (fun _ => ?_)
          refine wd_iload (j := 96) C 0 dX1_isNewLink_94 rfl rfl ?_
          refine wd_if_eq (j := 99) (t := 101) C dX1_isNewLink_96 (by decide) rfl (fun _ => ?_) (fun hc => absurd hc (by decide))
          refine wd_iinc (j := 104) (lv' := [(4, .int (st + 3)), (6, .int (0 : Int32)), (5, .int (0 : Int32)), (0, .ref x0), (1, .int p1), (2, .int p2), (3, .int p3)]) C 6 dX1_isNewLink_101 rfl rfl (by decide) rfl rfl ?_
          refine wd_goto (t := 19) C dX1_isNewLink_104 (by decide) ?_
          obtain rfl := Option.some.inj h
          refine wd_lv (lv' := [(0, .ref x0), (1, .int p1), (2, .int p2), (3, .int p3), (4, .int (st + 3))]) [3, 4, 5, 6, 0] rfl ?_
          exact ih (st + 3) E hk kx1 kx2
        · replace h := (if_pos c5).symm.trans h
          refine wd_aload_n (j := 70) C 1 dX1_isNewLink_69 rfl rfl rfl ?_
          refine wd_get (j := 73) (q0 := 0) (f := 0) (ci := 1) (v := .ref x1) C inX1_isNewLink_X1 kX1_isNewLink_1 rfl (by decide) rfl rfl dX1_isNewLink_70 rfl ?_
          refine wd_iload (j := 75) C 5 dX1_isNewLink_73 rfl rfl ?_
          refine wd_iconst (j := 76) (v := 1) C dX1_isNewLink_75 (by decide) rfl ?_
          refine wd_iadd (j := 77) C dX1_isNewLink_76 rfl ?_
          obtain ⟨g6, h⟩ := grd_some h
          refine wd_iald (j := 78) (q0 := 1) (t0 := 0) C rfl rfl (inB_in g6) dX1_isNewLink_77 rfl ?_
          refine wd_iload_n (j := 79) C 3 dX1_isNewLink_78 rfl rfl rfl ?_
          refine wd_icmp_ne (j := 82) (t := 86) C dX1_isNewLink_79 (by decide) rfl (fun c7 => ?_) (fun c7 => ?_)
          · replace h := (if_neg c7).symm.trans h
            refine wd_iconst (j := 87) (v := 0) C dX1_isNewLink_86 (by decide) rfl ?_
            refine wd_istore (j := 89) (lv' := [(6, .int (0 : Int32)), (5, .int (0 : Int32)), (0, .ref x0), (1, .int p1), (2, .int p2), (3, .int p3), (4, .int st)]) C dX1_isNewLink_87 (by decide) rfl rfl ?_
            refine wd_iload (j := 91) C 1 dX1_isNewLink_89 rfl rfl ?_
            refine wd_if_ne (j := 94) (t := 99) C dX1_isNewLink_91 (by decide) rfl (fun hc => absurd hc (by decide)) (fun _ => ?_)
            refine wd_iload (j := 96) C 0 dX1_isNewLink_94 rfl rfl ?_
            refine wd_if_eq (j := 99) (t := 101) C dX1_isNewLink_96 (by decide) rfl (fun _ => ?_) (fun hc => absurd hc (by decide))
            refine wd_iinc (j := 104) (lv' := [(4, .int (st + 3)), (6, .int (0 : Int32)), (5, .int (0 : Int32)), (0, .ref x0), (1, .int p1), (2, .int p2), (3, .int p3)]) C 6 dX1_isNewLink_101 rfl rfl (by decide) rfl rfl ?_
            refine wd_goto (t := 19) C dX1_isNewLink_104 (by decide) ?_
            obtain rfl := Option.some.inj h
            refine wd_lv (lv' := [(0, .ref x0), (1, .int p1), (2, .int p2), (3, .int p3), (4, .int (st + 3))]) [3, 4, 5, 6, 0] rfl ?_
            exact ih (st + 3) E hk kx1 kx2
          · replace h := (if_pos c7).symm.trans h
            refine wd_iconst (j := 83) (v := 1) C dX1_isNewLink_82 (by decide) rfl ?_
            refine wd_goto (t := 87) C dX1_isNewLink_83 (by decide) ?_
            refine wd_istore (j := 89) (lv' := [(6, .int (1 : Int32)), (5, .int (0 : Int32)), (0, .ref x0), (1, .int p1), (2, .int p2), (3, .int p3), (4, .int st)]) C dX1_isNewLink_87 (by decide) rfl rfl ?_
            refine wd_iload (j := 91) C 1 dX1_isNewLink_89 rfl rfl ?_
            refine wd_if_ne (j := 94) (t := 99) C dX1_isNewLink_91 (by decide) rfl (fun hc => absurd hc (by decide)) (fun _ => ?_)
            refine wd_iload (j := 96) C 0 dX1_isNewLink_94 rfl rfl ?_
            refine wd_if_eq (j := 99) (t := 101) C dX1_isNewLink_96 (by decide) rfl (fun hc => absurd hc (by decide)) (fun _ => ?_)
            obtain rfl := Option.some.inj h
            obtain rfl := hk
            refine wd_lv (lv' := []) [] rfl ?_
            exact kx2 _ rfl
      · replace h := (if_pos c3).symm.trans h
        refine wd_aload_n (j := 39) C 0 dX1_isNewLink_38 rfl rfl rfl ?_
        refine wd_get (j := 42) (q0 := 0) (f := 0) (ci := 1) (v := .ref x1) C inX1_isNewLink_X1 kX1_isNewLink_1 rfl (by decide) rfl rfl dX1_isNewLink_39 rfl ?_
        refine wd_iload (j := 44) C 4 dX1_isNewLink_42 rfl rfl ?_
        refine wd_iconst (j := 45) (v := 1) C dX1_isNewLink_44 (by decide) rfl ?_
        refine wd_iadd (j := 46) C dX1_isNewLink_45 rfl ?_
        obtain ⟨g8, h⟩ := grd_some h
        refine wd_iald (j := 47) (q0 := 1) (t0 := 0) C rfl rfl (inB_in g8) dX1_isNewLink_46 rfl ?_
        refine wd_iload_n (j := 48) C 3 dX1_isNewLink_47 rfl rfl rfl ?_
        refine wd_icmp_ne (j := 51) (t := 55) C dX1_isNewLink_48 (by decide) rfl (fun c9 => ?_) (fun c9 => ?_)
        · replace h := (if_neg c9).symm.trans h
          refine wd_iconst (j := 56) (v := 0) C dX1_isNewLink_55 (by decide) rfl ?_
          refine wd_istore (j := 58) (lv' := [(5, .int (0 : Int32)), (0, .ref x0), (1, .int p1), (2, .int p2), (3, .int p3), (4, .int st)]) C dX1_isNewLink_56 (by decide) rfl rfl ?_
          refine wd_aload_n (j := 59) C 1 dX1_isNewLink_58 rfl rfl rfl ?_
          refine wd_get (j := 62) (q0 := 0) (f := 0) (ci := 1) (v := .ref x1) C inX1_isNewLink_X1 kX1_isNewLink_1 rfl (by decide) rfl rfl dX1_isNewLink_59 rfl ?_
          refine wd_iload (j := 64) C 5 dX1_isNewLink_62 rfl rfl ?_
          obtain ⟨g10, h⟩ := grd_some h
          refine wd_iald (j := 65) (q0 := 1) (t0 := 0) C rfl rfl (inB_in g10) dX1_isNewLink_64 rfl ?_
          refine wd_iload_n (j := 66) C 4 dX1_isNewLink_65 rfl rfl rfl ?_
          refine wd_icmp_ne (j := 69) (t := 86) C dX1_isNewLink_66 (by decide) rfl (fun c11 => ?_) (fun c11 => ?_)
          · replace h := (if_neg c11).symm.trans h
            refine wd_iconst (j := 87) (v := 0) C dX1_isNewLink_86 (by decide) rfl ?_
            refine wd_istore (j := 89) (lv' := [(6, .int (0 : Int32)), (5, .int (0 : Int32)), (0, .ref x0), (1, .int p1), (2, .int p2), (3, .int p3), (4, .int st)]) C dX1_isNewLink_87 (by decide) rfl rfl ?_
            refine wd_iload (j := 91) C 1 dX1_isNewLink_89 rfl rfl ?_
            refine wd_if_ne (j := 94) (t := 99) C dX1_isNewLink_91 (by decide) rfl (fun hc => absurd hc (by decide)) (fun _ => ?_)
            refine wd_iload (j := 96) C 0 dX1_isNewLink_94 rfl rfl ?_
            refine wd_if_eq (j := 99) (t := 101) C dX1_isNewLink_96 (by decide) rfl (fun _ => ?_) (fun hc => absurd hc (by decide))
            refine wd_iinc (j := 104) (lv' := [(4, .int (st + 3)), (6, .int (0 : Int32)), (5, .int (0 : Int32)), (0, .ref x0), (1, .int p1), (2, .int p2), (3, .int p3)]) C 6 dX1_isNewLink_101 rfl rfl (by decide) rfl rfl ?_
            refine wd_goto (t := 19) C dX1_isNewLink_104 (by decide) ?_
            obtain rfl := Option.some.inj h
            refine wd_lv (lv' := [(0, .ref x0), (1, .int p1), (2, .int p2), (3, .int p3), (4, .int (st + 3))]) [3, 4, 5, 6, 0] rfl ?_
            exact ih (st + 3) E hk kx1 kx2
          · replace h := (if_pos c11).symm.trans h
            refine wd_aload_n (j := 70) C 1 dX1_isNewLink_69 rfl rfl rfl ?_
            refine wd_get (j := 73) (q0 := 0) (f := 0) (ci := 1) (v := .ref x1) C inX1_isNewLink_X1 kX1_isNewLink_1 rfl (by decide) rfl rfl dX1_isNewLink_70 rfl ?_
            refine wd_iload (j := 75) C 5 dX1_isNewLink_73 rfl rfl ?_
            refine wd_iconst (j := 76) (v := 1) C dX1_isNewLink_75 (by decide) rfl ?_
            refine wd_iadd (j := 77) C dX1_isNewLink_76 rfl ?_
            obtain ⟨g12, h⟩ := grd_some h
            refine wd_iald (j := 78) (q0 := 1) (t0 := 0) C rfl rfl (inB_in g12) dX1_isNewLink_77 rfl ?_
            refine wd_iload_n (j := 79) C 3 dX1_isNewLink_78 rfl rfl rfl ?_
            refine wd_icmp_ne (j := 82) (t := 86) C dX1_isNewLink_79 (by decide) rfl (fun c13 => ?_) (fun c13 => ?_)
            · replace h := (if_neg c13).symm.trans h
              refine wd_iconst (j := 87) (v := 0) C dX1_isNewLink_86 (by decide) rfl ?_
              refine wd_istore (j := 89) (lv' := [(6, .int (0 : Int32)), (5, .int (0 : Int32)), (0, .ref x0), (1, .int p1), (2, .int p2), (3, .int p3), (4, .int st)]) C dX1_isNewLink_87 (by decide) rfl rfl ?_
              refine wd_iload (j := 91) C 1 dX1_isNewLink_89 rfl rfl ?_
              refine wd_if_ne (j := 94) (t := 99) C dX1_isNewLink_91 (by decide) rfl (fun hc => absurd hc (by decide)) (fun _ => ?_)
              refine wd_iload (j := 96) C 0 dX1_isNewLink_94 rfl rfl ?_
              refine wd_if_eq (j := 99) (t := 101) C dX1_isNewLink_96 (by decide) rfl (fun _ => ?_) (fun hc => absurd hc (by decide))
              refine wd_iinc (j := 104) (lv' := [(4, .int (st + 3)), (6, .int (0 : Int32)), (5, .int (0 : Int32)), (0, .ref x0), (1, .int p1), (2, .int p2), (3, .int p3)]) C 6 dX1_isNewLink_101 rfl rfl (by decide) rfl rfl ?_
              refine wd_goto (t := 19) C dX1_isNewLink_104 (by decide) ?_
              obtain rfl := Option.some.inj h
              refine wd_lv (lv' := [(0, .ref x0), (1, .int p1), (2, .int p2), (3, .int p3), (4, .int (st + 3))]) [3, 4, 5, 6, 0] rfl ?_
              exact ih (st + 3) E hk kx1 kx2
            · replace h := (if_pos c13).symm.trans h
              refine wd_iconst (j := 83) (v := 1) C dX1_isNewLink_82 (by decide) rfl ?_
              refine wd_goto (t := 87) C dX1_isNewLink_83 (by decide) ?_
              refine wd_istore (j := 89) (lv' := [(6, .int (1 : Int32)), (5, .int (0 : Int32)), (0, .ref x0), (1, .int p1), (2, .int p2), (3, .int p3), (4, .int st)]) C dX1_isNewLink_87 (by decide) rfl rfl ?_
              refine wd_iload (j := 91) C 1 dX1_isNewLink_89 rfl rfl ?_
              refine wd_if_ne (j := 94) (t := 99) C dX1_isNewLink_91 (by decide) rfl (fun hc => absurd hc (by decide)) (fun _ => ?_)
              refine wd_iload (j := 96) C 0 dX1_isNewLink_94 rfl rfl ?_
              refine wd_if_eq (j := 99) (t := 101) C dX1_isNewLink_96 (by decide) rfl (fun hc => absurd hc (by decide)) (fun _ => ?_)
              obtain rfl := Option.some.inj h
              obtain rfl := hk
              refine wd_lv (lv' := []) [] rfl ?_
              exact kx2 _ rfl
        · replace h := (if_pos c9).symm.trans h
          refine wd_iconst (j := 52) (v := 1) C dX1_isNewLink_51 (by decide) rfl ?_
          refine wd_goto (t := 56) C dX1_isNewLink_52 (by decide) ?_
          refine wd_istore (j := 58) (lv' := [(5, .int (1 : Int32)), (0, .ref x0), (1, .int p1), (2, .int p2), (3, .int p3), (4, .int st)]) C dX1_isNewLink_56 (by decide) rfl rfl ?_
          refine wd_aload_n (j := 59) C 1 dX1_isNewLink_58 rfl rfl rfl ?_
          refine wd_get (j := 62) (q0 := 0) (f := 0) (ci := 1) (v := .ref x1) C inX1_isNewLink_X1 kX1_isNewLink_1 rfl (by decide) rfl rfl dX1_isNewLink_59 rfl ?_
          refine wd_iload (j := 64) C 5 dX1_isNewLink_62 rfl rfl ?_
          obtain ⟨g14, h⟩ := grd_some h
          refine wd_iald (j := 65) (q0 := 1) (t0 := 0) C rfl rfl (inB_in g14) dX1_isNewLink_64 rfl ?_
          refine wd_iload_n (j := 66) C 4 dX1_isNewLink_65 rfl rfl rfl ?_
          refine wd_icmp_ne (j := 69) (t := 86) C dX1_isNewLink_66 (by decide) rfl (fun c15 => ?_) (fun c15 => ?_)
          · replace h := (if_neg c15).symm.trans h
            refine wd_iconst (j := 87) (v := 0) C dX1_isNewLink_86 (by decide) rfl ?_
            refine wd_istore (j := 89) (lv' := [(6, .int (0 : Int32)), (5, .int (1 : Int32)), (0, .ref x0), (1, .int p1), (2, .int p2), (3, .int p3), (4, .int st)]) C dX1_isNewLink_87 (by decide) rfl rfl ?_
            refine wd_iload (j := 91) C 1 dX1_isNewLink_89 rfl rfl ?_
            refine wd_if_ne (j := 94) (t := 99) C dX1_isNewLink_91 (by decide) rfl (fun _ => ?_) (fun hc => absurd hc (by decide))
            obtain rfl := Option.some.inj h
            obtain rfl := hk
            refine wd_lv (lv' := []) [] rfl ?_
            exact kx2 _ rfl
          · replace h := (if_pos c15).symm.trans h
            refine wd_aload_n (j := 70) C 1 dX1_isNewLink_69 rfl rfl rfl ?_
            refine wd_get (j := 73) (q0 := 0) (f := 0) (ci := 1) (v := .ref x1) C inX1_isNewLink_X1 kX1_isNewLink_1 rfl (by decide) rfl rfl dX1_isNewLink_70 rfl ?_
            refine wd_iload (j := 75) C 5 dX1_isNewLink_73 rfl rfl ?_
            refine wd_iconst (j := 76) (v := 1) C dX1_isNewLink_75 (by decide) rfl ?_
            refine wd_iadd (j := 77) C dX1_isNewLink_76 rfl ?_
            obtain ⟨g16, h⟩ := grd_some h
            refine wd_iald (j := 78) (q0 := 1) (t0 := 0) C rfl rfl (inB_in g16) dX1_isNewLink_77 rfl ?_
            refine wd_iload_n (j := 79) C 3 dX1_isNewLink_78 rfl rfl rfl ?_
            refine wd_icmp_ne (j := 82) (t := 86) C dX1_isNewLink_79 (by decide) rfl (fun c17 => ?_) (fun c17 => ?_)
            · replace h := (if_neg c17).symm.trans h
              refine wd_iconst (j := 87) (v := 0) C dX1_isNewLink_86 (by decide) rfl ?_
              refine wd_istore (j := 89) (lv' := [(6, .int (0 : Int32)), (5, .int (1 : Int32)), (0, .ref x0), (1, .int p1), (2, .int p2), (3, .int p3), (4, .int st)]) C dX1_isNewLink_87 (by decide) rfl rfl ?_
              refine wd_iload (j := 91) C 1 dX1_isNewLink_89 rfl rfl ?_
              refine wd_if_ne (j := 94) (t := 99) C dX1_isNewLink_91 (by decide) rfl (fun _ => ?_) (fun hc => absurd hc (by decide))
              obtain rfl := Option.some.inj h
              obtain rfl := hk
              refine wd_lv (lv' := []) [] rfl ?_
              exact kx2 _ rfl
            · replace h := (if_pos c17).symm.trans h
              refine wd_iconst (j := 83) (v := 1) C dX1_isNewLink_82 (by decide) rfl ?_
              refine wd_goto (t := 87) C dX1_isNewLink_83 (by decide) ?_
              refine wd_istore (j := 89) (lv' := [(6, .int (1 : Int32)), (5, .int (1 : Int32)), (0, .ref x0), (1, .int p1), (2, .int p2), (3, .int p3), (4, .int st)]) C dX1_isNewLink_87 (by decide) rfl rfl ?_
              refine wd_iload (j := 91) C 1 dX1_isNewLink_89 rfl rfl ?_
              refine wd_if_ne (j := 94) (t := 99) C dX1_isNewLink_91 (by decide) rfl (fun _ => ?_) (fun hc => absurd hc (by decide))
              obtain rfl := Option.some.inj h
              obtain rfl := hk
              refine wd_lv (lv' := []) [] rfl ?_
              exact kx2 _ rfl
set_option maxRecDepth 100000 in
set_option maxHeartbeats 4000000 in
theorem c_X1_isNewLink (l : Launch) (D : va_G) (cI cD : ClassId) (x0 x1 : Nat) (N : Nat) (len : Int32) (codes : Nat → Int32) (p1 : Int32) (u : Int32) (h : f_X1_isNewLink N codes p1 = some u) : MetI l yX1_isNewLink wsX1_isNewLink { frames := 0, cells := 0, slots := 0, locals := 0 } D [(cI, .int), (cD, .double)] [.ref x0, .int p1] (w_X1_isNewLink x0 x1 cI cD len codes) u (w_X1_isNewLink x0 x1 cI cD len codes) := by
  refine MetI.of (own := RX1) (cc := cX1_isNewLink) (nL := 7) (ret := (some .boolean)) (by decide) rfl rfl (Nat.le_of_ble_eq_true rfl) rfl ?_
  intro p e s m args below meth c A hA C hr hlk
  unfold f_X1_isNewLink at h
  refine wd_aload_n (j := 1) C 0 dX1_isNewLink_0 rfl rfl rfl ?_
  refine wd_get (j := 4) (q0 := 0) (f := 0) (ci := 1) (v := .ref x1) C inX1_isNewLink_X1 kX1_isNewLink_1 rfl (by decide) rfl rfl dX1_isNewLink_1 rfl ?_
  refine wd_iload_n (j := 5) C 1 dX1_isNewLink_4 rfl rfl rfl ?_
  refine wd_iconst (j := 6) (v := 1) C dX1_isNewLink_5 (by decide) rfl ?_
  refine wd_isub (j := 7) C dX1_isNewLink_6 rfl ?_
  obtain ⟨g18, h⟩ := grd_some h
  refine wd_iald (j := 8) (q0 := 1) (t0 := 0) C rfl rfl (inB_in g18) dX1_isNewLink_7 rfl ?_
  refine wd_istore_n (j := 9) (lv' := [(2, .int (codes (p1 - (1 : Int32)).toNatClampNeg)), (0, .ref x0), (1, .int p1)]) C dX1_isNewLink_8 rfl (by decide) rfl rfl ?_
  refine wd_aload_n (j := 10) C 1 dX1_isNewLink_9 rfl rfl rfl ?_
  refine wd_get (j := 13) (q0 := 0) (f := 0) (ci := 1) (v := .ref x1) C inX1_isNewLink_X1 kX1_isNewLink_1 rfl (by decide) rfl rfl dX1_isNewLink_10 rfl ?_
  refine wd_iload_n (j := 14) C 2 dX1_isNewLink_13 rfl rfl rfl ?_
  obtain ⟨g19, h⟩ := grd_some h
  refine wd_iald (j := 15) (q0 := 1) (t0 := 0) C rfl rfl (inB_in g19) dX1_isNewLink_14 rfl ?_
  refine wd_istore_n (j := 16) (lv' := [(3, .int (codes p1.toNatClampNeg)), (2, .int (codes (p1 - (1 : Int32)).toNatClampNeg)), (0, .ref x0), (1, .int p1)]) C dX1_isNewLink_15 rfl (by decide) rfl rfl ?_
  refine wd_iconst (j := 17) (v := 2) C dX1_isNewLink_16 (by decide) rfl ?_
  refine wd_istore (j := 19) (lv' := [(4, .int (2 : Int32)), (3, .int (codes p1.toNatClampNeg)), (2, .int (codes (p1 - (1 : Int32)).toNatClampNeg)), (0, .ref x0), (1, .int p1)]) C dX1_isNewLink_17 (by decide) rfl rfl ?_
  refine wd_lv (lv' := [(0, .ref x0), (1, .int p1), (2, .int (codes (p1 - (1 : Int32)).toNatClampNeg)), (3, .int (codes p1.toNatClampNeg)), (4, .int (2 : Int32))]) [3, 4, 2, 1, 0] rfl ?_
  obtain ⟨u20, hu20, h⟩ := bnd_some h
  refine lw_X1_isNewLink_19 l D cI cD x0 x1 N len codes p1 (codes (p1 - (1 : Int32)).toNatClampNeg) (codes p1.toNatClampNeg) C N (2 : Int32) u20 hu20 (fun u20a he => ?_) (fun u20b he => ?_)
  · subst he
    refine wd_iconst (j := 108) (v := 1) C dX1_isNewLink_107 (by decide) rfl ?_
    obtain rfl := Option.some.inj h
    exact wd_iret C hA hr hlk rfl rfl rfl dX1_isNewLink_108
  · subst he
    refine wd_iconst (j := 100) (v := 0) C dX1_isNewLink_99 (by decide) rfl ?_
    obtain rfl := Option.some.inj h
    exact wd_iret C hA hr hlk rfl rfl rfl dX1_isNewLink_100
abbrev w_X1_keepsRules (x0 x1 : Nat) (cI cD : ClassId) (len : Int32) (codes : Nat → Int32) : va_W := [(x0, .inr (1, [.ref x1, .int len])), (x1, .inl (cI, 40, .inl codes))]
theorem kX1_keepsRules_1 : Cond.fieldLink "RotorRouter$InputText" 11 "RotorRouter$InputText" "codes" "[I" ∈ wsX1_keepsRules := List.mem_of_getElem? (i := 1) rfl
theorem inX1_keepsRules_X1 : ∀ w ∈ wsX10, w ∈ wsX1_keepsRules := fun _ h => List.mem_cons_of_mem _ (List.mem_append_right _ h)
set_option maxRecDepth 100000 in
set_option maxHeartbeats 4000000 in
theorem c_X1_keepsRules (l : Launch) (D : va_G) (cI cD : ClassId) (x0 x1 : Nat) (N : Nat) (len : Int32) (codes : Nat → Int32) (p1 : Int32) (u : Int32) (h : f_X1_keepsRules N codes p1 = some u) : MetI l yX1_keepsRules wsX1_keepsRules { frames := 1, cells := 0, slots := 0, locals := 26 } D [(cI, .int), (cD, .double)] [.ref x0, .int p1] (w_X1_keepsRules x0 x1 cI cD len codes) u (w_X1_keepsRules x0 x1 cI cD len codes) := by
  refine MetI.of (own := RX1) (cc := cX1_keepsRules) (nL := 4) (ret := (some .boolean)) (by decide) rfl rfl (Nat.le_of_ble_eq_true rfl) rfl ?_
  intro p e s m args below meth c A hA C hr hlk
  unfold f_X1_keepsRules at h
  refine wd_aload_n (j := 1) C 0 dX1_keepsRules_0 rfl rfl rfl ?_
  refine wd_get (j := 4) (q0 := 0) (f := 0) (ci := 1) (v := .ref x1) C inX1_keepsRules_X1 kX1_keepsRules_1 rfl (by decide) rfl rfl dX1_keepsRules_1 rfl ?_
  refine wd_iload_n (j := 5) C 1 dX1_keepsRules_4 rfl rfl rfl ?_
  obtain ⟨g1, h⟩ := grd_some h
  refine wd_iald (j := 6) (q0 := 1) (t0 := 0) C rfl rfl (inB_in g1) dX1_keepsRules_5 rfl ?_
  refine wd_istore_n (j := 7) (lv' := [(2, .int (codes p1.toNatClampNeg)), (0, .ref x0), (1, .int p1)]) C dX1_keepsRules_6 rfl (by decide) rfl rfl ?_
  refine wd_iload_n (j := 8) C 2 dX1_keepsRules_7 rfl rfl rfl ?_
  refine wd_if_ne (j := 11) (t := 29) C dX1_keepsRules_8 (by decide) rfl (fun c2 => ?_) (fun c2 => ?_)
  · replace h := (if_neg c2).symm.trans h
    refine wd_iload_n (j := 30) C 2 dX1_keepsRules_29 rfl rfl rfl ?_
    refine wd_iconst (j := 31) (v := 1) C dX1_keepsRules_30 (by decide) rfl ?_
    refine wd_icmp_ne (j := 34) (t := 46) C dX1_keepsRules_31 (by decide) rfl (fun c3 => ?_) (fun c3 => ?_)
    · replace h := (if_neg c3).symm.trans h
      refine wd_iload_n (j := 47) C 2 dX1_keepsRules_46 rfl rfl rfl ?_
      obtain ⟨u4, hu4, h⟩ := bnd_some h
      refine wd_callSi (j := 50) (As := [.int p1]) (rest := []) (ws' := (w_X1_keepsRules x0 x1 cI cD len codes)) C (c_X1_placeInGroup l D cI cD p1 u4 hu4) (va_cwS 1 C.1.2.2.2.2 gX1_keepsRules_X1_placeInGroup rfl rfl rfl (by decide +kernel) ⟨Nat.le_of_ble_eq_true rfl, Nat.le_of_ble_eq_true rfl⟩) [] [0, 1] rfl rfl rfl rfl (by decide) [0, 1] rfl rfl rfl (Nat.le_of_ble_eq_true rfl) (Nat.le_of_ble_eq_true rfl) (Nat.le_of_ble_eq_true rfl) dX1_keepsRules_47 rfl ?_
      refine wd_istore_n (j := 51) (lv' := [(3, .int u4), (2, .int (codes p1.toNatClampNeg)), (0, .ref x0), (1, .int p1)]) C dX1_keepsRules_50 rfl (by decide) rfl rfl ?_
      refine wd_iload_n (j := 52) C 0 dX1_keepsRules_51 rfl rfl rfl ?_
      refine wd_if_ne (j := 55) (t := 61) C dX1_keepsRules_52 (by decide) rfl (fun c5 => ?_) (fun c5 => ?_)
      · replace h := (if_neg c5).symm.trans h
        refine wd_iload_n (j := 62) C 0 dX1_keepsRules_61 rfl rfl rfl ?_
        refine wd_iconst (j := 63) (v := 1) C dX1_keepsRules_62 (by decide) rfl ?_
        refine wd_icmp_ne (j := 66) (t := 100) C dX1_keepsRules_63 (by decide) rfl (fun c6 => ?_) (fun c6 => ?_)
        · replace h := (if_neg c6).symm.trans h
          refine wd_iload_n (j := 101) C 1 dX1_keepsRules_100 rfl rfl rfl ?_
          refine wd_bipush (j := 103) (v := 44) C dX1_keepsRules_101 (by decide) rfl ?_
          refine wd_icmp_ne (j := 106) (t := 116) C dX1_keepsRules_103 (by decide) rfl (fun c7 => ?_) (fun c7 => ?_)
          · replace h := (if_neg c7).symm.trans h
            refine wd_iconst (j := 117) (v := 0) C dX1_keepsRules_116 (by decide) rfl ?_
            obtain rfl := Option.some.inj h
            exact wd_iret C hA hr hlk rfl rfl rfl dX1_keepsRules_117
          · replace h := (if_pos c7).symm.trans h
            refine wd_iload_n (j := 107) C 3 dX1_keepsRules_106 rfl rfl rfl ?_
            refine wd_bipush (j := 109) (v := 34) C dX1_keepsRules_107 (by decide) rfl ?_
            refine wd_icmp_gt (j := 112) (t := 116) C dX1_keepsRules_109 (by decide) rfl (fun c8 => ?_) (fun c8 => ?_)
            · replace h := (if_pos c8).symm.trans h
              refine wd_iconst (j := 117) (v := 0) C dX1_keepsRules_116 (by decide) rfl ?_
              obtain rfl := Option.some.inj h
              exact wd_iret C hA hr hlk rfl rfl rfl dX1_keepsRules_117
            · replace h := (if_neg c8).symm.trans h
              refine wd_iconst (j := 113) (v := 1) C dX1_keepsRules_112 (by decide) rfl ?_
              refine wd_goto (t := 117) C dX1_keepsRules_113 (by decide) ?_
              obtain rfl := Option.some.inj h
              exact wd_iret C hA hr hlk rfl rfl rfl dX1_keepsRules_117
        · replace h := (if_pos c6).symm.trans h
          refine wd_aload_n (j := 67) C 2 dX1_keepsRules_66 rfl rfl rfl ?_
          refine wd_iload_n (j := 68) C 1 dX1_keepsRules_67 rfl rfl rfl ?_
          obtain ⟨u9, hu9, h⟩ := bnd_some h
          refine wd_callVi (j := 71) (q0 := 0) (ci := 1) (As := [.int (codes p1.toNatClampNeg)]) (rest := []) (ws' := (w_X1_keepsRules x0 x1 cI cD len codes)) C (c_X1_isNode l D cI cD x0 x1 len codes (codes p1.toNatClampNeg) u9 hu9) (cwV 1 C.1.2.2.2.2 gX1_keepsRules_X1_isNode rfl rfl rfl (by decide +kernel) ⟨Nat.le_of_ble_eq_true rfl, Nat.le_of_ble_eq_true rfl⟩) rfl rfl [0, 1] [] rfl rfl rfl rfl (by decide) [0, 1] rfl rfl rfl (Nat.le_of_ble_eq_true rfl) (Nat.le_of_ble_eq_true rfl) (Nat.le_of_ble_eq_true rfl) dX1_keepsRules_68 rfl ?_
          refine wd_if_eq (j := 74) (t := 98) C dX1_keepsRules_71 (by decide) rfl (fun c10 => ?_) (fun c10 => ?_)
          · replace h := (if_pos c10).symm.trans h
            refine wd_iconst (j := 99) (v := 0) C dX1_keepsRules_98 (by decide) rfl ?_
            obtain rfl := Option.some.inj h
            exact wd_iret C hA hr hlk rfl rfl rfl dX1_keepsRules_99
          · replace h := (if_neg c10).symm.trans h
            refine wd_iload_n (j := 75) C 1 dX1_keepsRules_74 rfl rfl rfl ?_
            refine wd_aload_n (j := 76) C 2 dX1_keepsRules_75 rfl rfl rfl ?_
            refine wd_get (j := 79) (q0 := 0) (f := 0) (ci := 1) (v := .ref x1) C inX1_keepsRules_X1 kX1_keepsRules_1 rfl (by decide) rfl rfl dX1_keepsRules_76 rfl ?_
            refine wd_iload_n (j := 80) C 3 dX1_keepsRules_79 rfl rfl rfl ?_
            refine wd_iconst (j := 81) (v := 1) C dX1_keepsRules_80 (by decide) rfl ?_
            refine wd_isub (j := 82) C dX1_keepsRules_81 rfl ?_
            obtain ⟨g11, h⟩ := grd_some h
            refine wd_iald (j := 83) (q0 := 1) (t0 := 0) C rfl rfl (inB_in g11) dX1_keepsRules_82 rfl ?_
            refine wd_icmp_eq (j := 86) (t := 98) C dX1_keepsRules_83 (by decide) rfl (fun c12 => ?_) (fun c12 => ?_)
            · replace h := (if_pos c12).symm.trans h
              refine wd_iconst (j := 99) (v := 0) C dX1_keepsRules_98 (by decide) rfl ?_
              obtain rfl := Option.some.inj h
              exact wd_iret C hA hr hlk rfl rfl rfl dX1_keepsRules_99
            · replace h := (if_neg c12).symm.trans h
              refine wd_aload_n (j := 87) C 2 dX1_keepsRules_86 rfl rfl rfl ?_
              refine wd_iload_n (j := 88) C 3 dX1_keepsRules_87 rfl rfl rfl ?_
              obtain ⟨u13, hu13, h⟩ := bnd_some h
              refine wd_callVi (j := 91) (q0 := 0) (ci := 1) (As := [.int p1]) (rest := []) (ws' := (w_X1_keepsRules x0 x1 cI cD len codes)) C (c_X1_isNewLink l D cI cD x0 x1 N len codes p1 u13 hu13) (cwV 1 C.1.2.2.2.2 gX1_keepsRules_X1_isNewLink rfl rfl rfl (by decide +kernel) ⟨Nat.le_of_ble_eq_true rfl, Nat.le_of_ble_eq_true rfl⟩) rfl rfl [0, 1] [] rfl rfl rfl rfl (by decide) [0, 1] rfl rfl rfl (Nat.le_of_ble_eq_true rfl) (Nat.le_of_ble_eq_true rfl) (Nat.le_of_ble_eq_true rfl) dX1_keepsRules_88 rfl ?_
              refine wd_if_eq (j := 94) (t := 98) C dX1_keepsRules_91 (by decide) rfl (fun c14 => ?_) (fun c14 => ?_)
              · replace h := (if_pos c14).symm.trans h
                refine wd_iconst (j := 99) (v := 0) C dX1_keepsRules_98 (by decide) rfl ?_
                obtain rfl := Option.some.inj h
                exact wd_iret C hA hr hlk rfl rfl rfl dX1_keepsRules_99
              · replace h := (if_neg c14).symm.trans h
                refine wd_iconst (j := 95) (v := 1) C dX1_keepsRules_94 (by decide) rfl ?_
                refine wd_goto (t := 99) C dX1_keepsRules_95 (by decide) ?_
                obtain rfl := Option.some.inj h
                exact wd_iret C hA hr hlk rfl rfl rfl dX1_keepsRules_99
      · replace h := (if_pos c5).symm.trans h
        refine wd_aload_n (j := 56) C 2 dX1_keepsRules_55 rfl rfl rfl ?_
        refine wd_iload_n (j := 57) C 1 dX1_keepsRules_56 rfl rfl rfl ?_
        obtain ⟨u15, hu15, h⟩ := bnd_some h
        refine wd_callVi (j := 60) (q0 := 0) (ci := 1) (As := [.int (codes p1.toNatClampNeg)]) (rest := []) (ws' := (w_X1_keepsRules x0 x1 cI cD len codes)) C (c_X1_isNode l D cI cD x0 x1 len codes (codes p1.toNatClampNeg) u15 hu15) (cwV 1 C.1.2.2.2.2 gX1_keepsRules_X1_isNode rfl rfl rfl (by decide +kernel) ⟨Nat.le_of_ble_eq_true rfl, Nat.le_of_ble_eq_true rfl⟩) rfl rfl [0, 1] [] rfl rfl rfl rfl (by decide) [0, 1] rfl rfl rfl (Nat.le_of_ble_eq_true rfl) (Nat.le_of_ble_eq_true rfl) (Nat.le_of_ble_eq_true rfl) dX1_keepsRules_57 rfl ?_
        obtain ⟨g16, h⟩ := grd_some h
        obtain rfl := Option.some.inj h
        exact wd_iret C hA hr hlk (z01_in g16) rfl rfl dX1_keepsRules_60
    · replace h := (if_pos c3).symm.trans h
      refine wd_iload_n (j := 35) C 0 dX1_keepsRules_34 rfl rfl rfl ?_
      refine wd_bipush (j := 37) (v := 58) C dX1_keepsRules_35 (by decide) rfl ?_
      refine wd_icmp_ne (j := 40) (t := 44) C dX1_keepsRules_37 (by decide) rfl (fun c17 => ?_) (fun c17 => ?_)
      · replace h := (if_neg c17).symm.trans h
        refine wd_iconst (j := 45) (v := 0) C dX1_keepsRules_44 (by decide) rfl ?_
        obtain rfl := Option.some.inj h
        exact wd_iret C hA hr hlk rfl rfl rfl dX1_keepsRules_45
      · replace h := (if_pos c17).symm.trans h
        refine wd_iconst (j := 41) (v := 1) C dX1_keepsRules_40 (by decide) rfl ?_
        refine wd_goto (t := 45) C dX1_keepsRules_41 (by decide) ?_
        obtain rfl := Option.some.inj h
        exact wd_iret C hA hr hlk rfl rfl rfl dX1_keepsRules_45
  · replace h := (if_pos c2).symm.trans h
    refine wd_iload_n (j := 12) C 0 dX1_keepsRules_11 rfl rfl rfl ?_
    refine wd_bipush (j := 14) (v := 50) C dX1_keepsRules_12 (by decide) rfl ?_
    refine wd_icmp_lt (j := 17) (t := 27) C dX1_keepsRules_14 (by decide) rfl (fun c18 => ?_) (fun c18 => ?_)
    · replace h := (if_pos c18).symm.trans h
      refine wd_iconst (j := 28) (v := 0) C dX1_keepsRules_27 (by decide) rfl ?_
      obtain rfl := Option.some.inj h
      exact wd_iret C hA hr hlk rfl rfl rfl dX1_keepsRules_28
    · replace h := (if_neg c18).symm.trans h
      refine wd_iload_n (j := 18) C 0 dX1_keepsRules_17 rfl rfl rfl ?_
      refine wd_bipush (j := 20) (v := 56) C dX1_keepsRules_18 (by decide) rfl ?_
      refine wd_icmp_gt (j := 23) (t := 27) C dX1_keepsRules_20 (by decide) rfl (fun c19 => ?_) (fun c19 => ?_)
      · replace h := (if_pos c19).symm.trans h
        refine wd_iconst (j := 28) (v := 0) C dX1_keepsRules_27 (by decide) rfl ?_
        obtain rfl := Option.some.inj h
        exact wd_iret C hA hr hlk rfl rfl rfl dX1_keepsRules_28
      · replace h := (if_neg c19).symm.trans h
        refine wd_iconst (j := 24) (v := 1) C dX1_keepsRules_23 (by decide) rfl ?_
        refine wd_goto (t := 28) C dX1_keepsRules_24 (by decide) ?_
        obtain rfl := Option.some.inj h
        exact wd_iret C hA hr hlk rfl rfl rfl dX1_keepsRules_28
abbrev w_X1_firstBrokenIndex (x0 x1 : Nat) (cI cD : ClassId) (len : Int32) (codes : Nat → Int32) : va_W := [(x0, .inr (1, [.ref x1, .int len])), (x1, .inl (cI, 40, .inl codes))]
theorem kX1_firstBrokenIndex_1 : Cond.fieldLink "RotorRouter$InputText" 15 "RotorRouter$InputText" "length" "I" ∈ wsX1_firstBrokenIndex := List.mem_of_getElem? (i := 1) rfl
theorem inX1_firstBrokenIndex_X1 : ∀ w ∈ wsX10, w ∈ wsX1_firstBrokenIndex := fun _ h => List.mem_cons_of_mem _ (List.mem_append_right _ h)
set_option maxRecDepth 100000 in
set_option maxHeartbeats 4000000 in
theorem lw_X1_firstBrokenIndex_2 (l : Launch) (D : va_G) (cI cD : ClassId) (x0 x1 : Nat) (N : Nat) (len : Int32) (codes : Nat → Int32)  {p : Program} {e : Env} {s : State} {m : MethodId} {args : Array Value} {below : List Frame} {meth : Method} {c : Code} {A : Nat → Prop} {Q : State → Prop} (C : wd_C p m c cX1_firstBrokenIndex 2 s args wsX1_firstBrokenIndex RX1 D [(cI, .int), (cD, .double)] A) : ∀ (n : Nat) (st : Int32) (E : Int32), iter (b_X1_firstBrokenIndex_2 N len codes) n st = some E → (Wd p l e { frames := 2, cells := 0, slots := 0, locals := 49 } s m args below meth c 2 D A 0 0 Q 24 [(1, .int E)] [] (w_X1_firstBrokenIndex x0 x1 cI cD len codes)) → Wd p l e { frames := 2, cells := 0, slots := 0, locals := 49 } s m args below meth c 2 D A 0 0 Q 2 [(0, .ref x0), (1, .int st)] [] (w_X1_firstBrokenIndex x0 x1 cI cD len codes) := by
  intro n
  induction n with
  | zero => intro st E h; cases h
  | succ n ih =>
    intro st E h kx
    obtain ⟨b, h, hk⟩ := iter_step h
    unfold b_X1_firstBrokenIndex_2 at h
    refine wd_iload_n (j := 3) C 1 dX1_firstBrokenIndex_2 rfl rfl rfl ?_
    refine wd_aload_n (j := 4) C 0 dX1_firstBrokenIndex_3 rfl rfl rfl ?_
    refine wd_get (j := 7) (q0 := 0) (f := 1) (ci := 1) (v := .int len) C inX1_firstBrokenIndex_X1 kX1_firstBrokenIndex_1 rfl (by decide) rfl rfl dX1_firstBrokenIndex_4 rfl ?_
    refine wd_icmp_ge (j := 10) (t := 24) C dX1_firstBrokenIndex_7 (by decide) rfl (fun c1 => ?_) (fun c1 => ?_)
    · replace h := (if_pos c1).symm.trans h
      obtain rfl := Option.some.inj h
      obtain rfl := hk
      refine wd_lv (lv' := [(1, .int st)]) [1] rfl ?_
      exact kx
    · replace h := (if_neg c1).symm.trans h
      refine wd_aload_n (j := 11) C 0 dX1_firstBrokenIndex_10 rfl rfl rfl ?_
      refine wd_iload_n (j := 12) C 1 dX1_firstBrokenIndex_11 rfl rfl rfl ?_
      obtain ⟨u2, hu2, h⟩ := bnd_some h
      refine wd_callVi (j := 15) (q0 := 0) (ci := 1) (As := [.int st]) (rest := []) (ws' := (w_X1_firstBrokenIndex x0 x1 cI cD len codes)) C (c_X1_keepsRules l D cI cD x0 x1 N len codes st u2 hu2) (cwV 1 C.1.2.2.2.2 gX1_firstBrokenIndex_X1_keepsRules rfl rfl rfl (by decide +kernel) ⟨Nat.le_of_ble_eq_true rfl, Nat.le_of_ble_eq_true rfl⟩) rfl rfl [0, 1] [] rfl rfl rfl rfl (by decide) [0, 1] rfl rfl rfl (Nat.le_of_ble_eq_true rfl) (Nat.le_of_ble_eq_true rfl) (Nat.le_of_ble_eq_true rfl) dX1_firstBrokenIndex_12 rfl ?_
      refine wd_if_eq (j := 18) (t := 24) C dX1_firstBrokenIndex_15 (by decide) rfl (fun c3 => ?_) (fun c3 => ?_)
      · replace h := (if_pos c3).symm.trans h
        obtain rfl := Option.some.inj h
        obtain rfl := hk
        refine wd_lv (lv' := [(1, .int st)]) [1] rfl ?_
        exact kx
      · replace h := (if_neg c3).symm.trans h
        refine wd_iinc (j := 21) (lv' := [(1, .int (st + 1)), (0, .ref x0)]) C 1 dX1_firstBrokenIndex_18 rfl rfl (by decide) rfl rfl ?_
        refine wd_goto (t := 2) C dX1_firstBrokenIndex_21 (by decide) ?_
        obtain rfl := Option.some.inj h
        refine wd_lv (lv' := [(0, .ref x0), (1, .int (st + 1))]) [1, 0] rfl ?_
        exact ih (st + 1) E hk kx
set_option maxRecDepth 100000 in
set_option maxHeartbeats 4000000 in
theorem c_X1_firstBrokenIndex (l : Launch) (D : va_G) (cI cD : ClassId) (x0 x1 : Nat) (N : Nat) (len : Int32) (codes : Nat → Int32)  (u : Int32) (h : f_X1_firstBrokenIndex N len codes = some u) : MetI l yX1_firstBrokenIndex wsX1_firstBrokenIndex { frames := 2, cells := 0, slots := 0, locals := 49 } D [(cI, .int), (cD, .double)] [.ref x0] (w_X1_firstBrokenIndex x0 x1 cI cD len codes) u (w_X1_firstBrokenIndex x0 x1 cI cD len codes) := by
  refine MetI.of (own := RX1) (cc := cX1_firstBrokenIndex) (nL := 2) (ret := (some .int)) (by decide) rfl rfl (Nat.le_of_ble_eq_true rfl) rfl ?_
  intro p e s m args below meth c A hA C hr hlk
  unfold f_X1_firstBrokenIndex at h
  refine wd_iconst (j := 1) (v := 0) C dX1_firstBrokenIndex_0 (by decide) rfl ?_
  refine wd_istore_n (j := 2) (lv' := [(1, .int (0 : Int32)), (0, .ref x0)]) C dX1_firstBrokenIndex_1 rfl (by decide) rfl rfl ?_
  refine wd_lv (lv' := [(0, .ref x0), (1, .int (0 : Int32))]) [1, 0] rfl ?_
  obtain ⟨u4, hu4, h⟩ := bnd_some h
  refine lw_X1_firstBrokenIndex_2 l D cI cD x0 x1 N len codes C N (0 : Int32) u4 hu4 ?_
  refine wd_iload_n (j := 25) C 0 dX1_firstBrokenIndex_24 rfl rfl rfl ?_
  obtain rfl := Option.some.inj h
  exact wd_iret C hA hr hlk rfl rfl rfl dX1_firstBrokenIndex_25
abbrev w_X1_isComplete (x0 x1 : Nat) (cI cD : ClassId) (len : Int32) (codes : Nat → Int32) : va_W := [(x0, .inr (1, [.ref x1, .int len])), (x1, .inl (cI, 40, .inl codes))]
theorem kX1_isComplete_1 : Cond.fieldLink "RotorRouter$InputText" 15 "RotorRouter$InputText" "length" "I" ∈ wsX1_isComplete := List.mem_of_getElem? (i := 1) rfl
theorem inX1_isComplete_X1 : ∀ w ∈ wsX10, w ∈ wsX1_isComplete := fun _ h => List.mem_cons_of_mem _ (List.mem_append_right _ h)
set_option maxRecDepth 100000 in
set_option maxHeartbeats 4000000 in
theorem c_X1_isComplete (l : Launch) (D : va_G) (cI cD : ClassId) (x0 x1 : Nat) (N : Nat) (len : Int32) (codes : Nat → Int32)  (u : Int32) (h : f_X1_isComplete N len codes = some u) : MetI l yX1_isComplete wsX1_isComplete { frames := 3, cells := 0, slots := 0, locals := 70 } D [(cI, .int), (cD, .double)] [.ref x0] (w_X1_isComplete x0 x1 cI cD len codes) u (w_X1_isComplete x0 x1 cI cD len codes) := by
  refine MetI.of (own := RX1) (cc := cX1_isComplete) (nL := 1) (ret := (some .boolean)) (by decide) rfl rfl (Nat.le_of_ble_eq_true rfl) rfl ?_
  intro p e s m args below meth c A hA C hr hlk
  unfold f_X1_isComplete at h
  refine wd_aload_n (j := 1) C 0 dX1_isComplete_0 rfl rfl rfl ?_
  refine wd_get (j := 4) (q0 := 0) (f := 1) (ci := 1) (v := .int len) C inX1_isComplete_X1 kX1_isComplete_1 rfl (by decide) rfl rfl dX1_isComplete_1 rfl ?_
  refine wd_iconst (j := 5) (v := 2) C dX1_isComplete_4 (by decide) rfl ?_
  refine wd_icmp_le (j := 8) (t := 36) C dX1_isComplete_5 (by decide) rfl (fun c1 => ?_) (fun c1 => ?_)
  · replace h := (if_pos c1).symm.trans h
    refine wd_iconst (j := 37) (v := 0) C dX1_isComplete_36 (by decide) rfl ?_
    obtain rfl := Option.some.inj h
    exact wd_iret C hA hr hlk rfl rfl rfl dX1_isComplete_37
  · replace h := (if_neg c1).symm.trans h
    refine wd_aload_n (j := 9) C 0 dX1_isComplete_8 rfl rfl rfl ?_
    refine wd_get (j := 12) (q0 := 0) (f := 1) (ci := 1) (v := .int len) C inX1_isComplete_X1 kX1_isComplete_1 rfl (by decide) rfl rfl dX1_isComplete_9 rfl ?_
    refine wd_iconst (j := 13) (v := 1) C dX1_isComplete_12 (by decide) rfl ?_
    refine wd_isub (j := 14) C dX1_isComplete_13 rfl ?_
    obtain ⟨u2, hu2, h⟩ := bnd_some h
    refine wd_callSi (j := 17) (As := [.int (len - (1 : Int32))]) (rest := []) (ws' := (w_X1_isComplete x0 x1 cI cD len codes)) C (c_X1_placeInGroup l D cI cD (len - (1 : Int32)) u2 hu2) (va_cwS 1 C.1.2.2.2.2 gX1_isComplete_X1_placeInGroup rfl rfl rfl (by decide +kernel) ⟨Nat.le_of_ble_eq_true rfl, Nat.le_of_ble_eq_true rfl⟩) [] [0, 1] rfl rfl rfl rfl (by decide) [0, 1] rfl rfl rfl (Nat.le_of_ble_eq_true rfl) (Nat.le_of_ble_eq_true rfl) (Nat.le_of_ble_eq_true rfl) dX1_isComplete_14 rfl ?_
    refine wd_iconst (j := 18) (v := 1) C dX1_isComplete_17 (by decide) rfl ?_
    refine wd_icmp_ne (j := 21) (t := 36) C dX1_isComplete_18 (by decide) rfl (fun c3 => ?_) (fun c3 => ?_)
    · replace h := (if_neg c3).symm.trans h
      refine wd_iconst (j := 37) (v := 0) C dX1_isComplete_36 (by decide) rfl ?_
      obtain rfl := Option.some.inj h
      exact wd_iret C hA hr hlk rfl rfl rfl dX1_isComplete_37
    · replace h := (if_pos c3).symm.trans h
      refine wd_aload_n (j := 22) C 0 dX1_isComplete_21 rfl rfl rfl ?_
      obtain ⟨u4, hu4, h⟩ := bnd_some h
      refine wd_callVi (j := 25) (q0 := 0) (ci := 1) (As := []) (rest := []) (ws' := (w_X1_isComplete x0 x1 cI cD len codes)) C (c_X1_firstBrokenIndex l D cI cD x0 x1 N len codes u4 hu4) (cwV 0 C.1.2.2.2.2 gX1_isComplete_X1_firstBrokenIndex rfl rfl rfl (by decide +kernel) ⟨Nat.le_of_ble_eq_true rfl, Nat.le_of_ble_eq_true rfl⟩) rfl rfl [0, 1] [] rfl rfl rfl rfl (by decide) [0, 1] rfl rfl rfl (Nat.le_of_ble_eq_true rfl) (Nat.le_of_ble_eq_true rfl) (Nat.le_of_ble_eq_true rfl) dX1_isComplete_22 rfl ?_
      refine wd_aload_n (j := 26) C 0 dX1_isComplete_25 rfl rfl rfl ?_
      refine wd_get (j := 29) (q0 := 0) (f := 1) (ci := 1) (v := .int len) C inX1_isComplete_X1 kX1_isComplete_1 rfl (by decide) rfl rfl dX1_isComplete_26 rfl ?_
      refine wd_icmp_ne (j := 32) (t := 36) C dX1_isComplete_29 (by decide) rfl (fun c5 => ?_) (fun c5 => ?_)
      · replace h := (if_neg c5).symm.trans h
        refine wd_iconst (j := 37) (v := 0) C dX1_isComplete_36 (by decide) rfl ?_
        obtain rfl := Option.some.inj h
        exact wd_iret C hA hr hlk rfl rfl rfl dX1_isComplete_37
      · replace h := (if_pos c5).symm.trans h
        refine wd_iconst (j := 33) (v := 1) C dX1_isComplete_32 (by decide) rfl ?_
        refine wd_goto (t := 37) C dX1_isComplete_33 (by decide) ?_
        obtain rfl := Option.some.inj h
        exact wd_iret C hA hr hlk rfl rfl rfl dX1_isComplete_37
abbrev w_X1_isConnected (x0 x1 : Nat) (cI cD : ClassId) (len : Int32) (codes : Nat → Int32) : va_W := [(x0, .inr (1, [.ref x1, .int len])), (x1, .inl (cI, 40, .inl codes))]
set_option maxRecDepth 100000 in
set_option maxHeartbeats 4000000 in
theorem lw_X1_isConnected_14 (l : Launch) (D : va_G) (cI cD : ClassId) (x0 x1 : Nat) (N : Nat) (len : Int32) (codes : Nat → Int32) (p2 : Int32) {p : Program} {e : Env} {s : State} {m : MethodId} {args : Array Value} {below : List Frame} {meth : Method} {c : Code} {A : Nat → Prop} {Q : State → Prop} (C : wd_C p m c cX1_isConnected 5 s args wsX1_isConnected RX1 D [(cI, .int), (cD, .double)] A) : ∀ (n : Nat) (st : Int32 × Int32) (E : Int32), iter (b_X1_isConnected_14 len codes) n st = some E → (Wd p l e { frames := 1, cells := 0, slots := 0, locals := 21 } s m args below meth c 5 D A 0 0 Q 57 [(0, .ref x0), (1, .int E), (2, .int p2)] [] (w_X1_isConnected x0 x1 cI cD len codes)) → Wd p l e { frames := 1, cells := 0, slots := 0, locals := 21 } s m args below meth c 5 D A 0 0 Q 14 [(0, .ref x0), (1, .int st.1), (2, .int p2), (3, .int st.2)] [] (w_X1_isConnected x0 x1 cI cD len codes) := by
  intro n
  induction n with
  | zero => intro st E h; cases h
  | succ n ih =>
    intro st E h kx
    obtain ⟨b, h, hk⟩ := iter_step h
    unfold b_X1_isConnected_14 at h
    refine wd_iload_n (j := 15) C 3 dX1_isConnected_14 rfl rfl rfl ?_
    refine wd_aload_n (j := 16) C 0 dX1_isConnected_15 rfl rfl rfl ?_
    obtain ⟨u1, hu1, h⟩ := bnd_some h
    refine wd_callVi (j := 19) (q0 := 0) (ci := 1) (As := []) (rest := [.int st.2]) (ws' := (w_X1_isConnected x0 x1 cI cD len codes)) C (c_X1_links l D cI cD x0 x1 len u1 hu1) (cwV 0 C.1.2.2.2.2 gX1_isConnected_X1_links rfl rfl rfl (by decide +kernel) ⟨Nat.le_of_ble_eq_true rfl, Nat.le_of_ble_eq_true rfl⟩) rfl rfl [0] [1] rfl rfl rfl rfl (by decide) [1, 0] rfl rfl rfl (Nat.le_of_ble_eq_true rfl) (Nat.le_of_ble_eq_true rfl) (Nat.le_of_ble_eq_true rfl) dX1_isConnected_16 rfl ?_
    refine wd_icmp_ge (j := 22) (t := 57) C dX1_isConnected_19 (by decide) rfl (fun c2 => ?_) (fun c2 => ?_)
    · replace h := (if_pos c2).symm.trans h
      obtain rfl := Option.some.inj h
      obtain rfl := hk
      refine wd_lv (lv' := [(0, .ref x0), (1, .int st.1), (2, .int p2)]) [0, 1, 2] rfl ?_
      exact kx
    · replace h := (if_neg c2).symm.trans h
      refine wd_iconst (j := 23) (v := 1) C dX1_isConnected_22 (by decide) rfl ?_
      refine wd_aload_n (j := 24) C 0 dX1_isConnected_23 rfl rfl rfl ?_
      refine wd_iload_n (j := 25) C 3 dX1_isConnected_24 rfl rfl rfl ?_
      obtain ⟨u3, hu3, h⟩ := bnd_some h
      refine wd_callVi (j := 28) (q0 := 0) (ci := 1) (As := [.int st.2]) (rest := [.int (1 : Int32)]) (ws' := (w_X1_isConnected x0 x1 cI cD len codes)) C (c_X1_firstNode l D cI cD x0 x1 len codes st.2 u3 hu3) (cwV 1 C.1.2.2.2.2 gX1_isConnected_X1_firstNode rfl rfl rfl (by decide +kernel) ⟨Nat.le_of_ble_eq_true rfl, Nat.le_of_ble_eq_true rfl⟩) rfl rfl [0, 1] [] rfl rfl rfl rfl (by decide) [0, 1] rfl rfl rfl (Nat.le_of_ble_eq_true rfl) (Nat.le_of_ble_eq_true rfl) (Nat.le_of_ble_eq_true rfl) dX1_isConnected_25 rfl ?_
      refine wd_ishl (j := 29) C dX1_isConnected_28 rfl ?_
      refine wd_iconst (j := 30) (v := 1) C dX1_isConnected_29 (by decide) rfl ?_
      refine wd_aload_n (j := 31) C 0 dX1_isConnected_30 rfl rfl rfl ?_
      refine wd_iload_n (j := 32) C 3 dX1_isConnected_31 rfl rfl rfl ?_
      obtain ⟨u4, hu4, h⟩ := bnd_some h
      refine wd_callVi (j := 35) (q0 := 0) (ci := 1) (As := [.int st.2]) (rest := [.int (1 : Int32), .int ((1 : Int32) <<< (u3 &&& 31))]) (ws' := (w_X1_isConnected x0 x1 cI cD len codes)) C (c_X1_secondNode l D cI cD x0 x1 len codes st.2 u4 hu4) (cwV 1 C.1.2.2.2.2 gX1_isConnected_X1_secondNode rfl rfl rfl (by decide +kernel) ⟨Nat.le_of_ble_eq_true rfl, Nat.le_of_ble_eq_true rfl⟩) rfl rfl [0, 1] [] rfl rfl rfl rfl (by decide) [0, 1] rfl rfl rfl (Nat.le_of_ble_eq_true rfl) (Nat.le_of_ble_eq_true rfl) (Nat.le_of_ble_eq_true rfl) dX1_isConnected_32 rfl ?_
      refine wd_ishl (j := 36) C dX1_isConnected_35 rfl ?_
      refine wd_ior (j := 37) C dX1_isConnected_36 rfl ?_
      refine wd_istore (j := 39) (lv' := [(4, .int (((1 : Int32) <<< (u3 &&& 31)) ||| ((1 : Int32) <<< (u4 &&& 31)))), (0, .ref x0), (1, .int st.1), (2, .int p2), (3, .int st.2)]) C dX1_isConnected_37 (by decide) rfl rfl ?_
      refine wd_iload_n (j := 40) C 2 dX1_isConnected_39 rfl rfl rfl ?_
      refine wd_iload (j := 42) C 0 dX1_isConnected_40 rfl rfl ?_
      refine wd_iand (j := 43) C dX1_isConnected_42 rfl ?_
      refine wd_if_eq (j := 46) (t := 51) C dX1_isConnected_43 (by decide) rfl (fun c5 => ?_) (fun c5 => ?_)
      · replace h := (if_pos c5).symm.trans h
        refine wd_iinc (j := 54) (lv' := [(3, .int (st.2 + 1)), (4, .int (((1 : Int32) <<< (u3 &&& 31)) ||| ((1 : Int32) <<< (u4 &&& 31)))), (0, .ref x0), (1, .int st.1), (2, .int p2)]) C 4 dX1_isConnected_51 rfl rfl (by decide) rfl rfl ?_
        refine wd_goto (t := 14) C dX1_isConnected_54 (by decide) ?_
        obtain rfl := Option.some.inj h
        refine wd_lv (lv' := [(0, .ref x0), (1, .int st.1), (2, .int p2), (3, .int (st.2 + 1))]) [2, 3, 4, 0] rfl ?_
        exact ih (st.1, (st.2 + 1)) E hk kx
      · replace h := (if_neg c5).symm.trans h
        refine wd_iload_n (j := 47) C 2 dX1_isConnected_46 rfl rfl rfl ?_
        refine wd_iload (j := 49) C 0 dX1_isConnected_47 rfl rfl ?_
        refine wd_ior (j := 50) C dX1_isConnected_49 rfl ?_
        refine wd_istore_n (j := 51) (lv' := [(1, .int (st.1 ||| (((1 : Int32) <<< (u3 &&& 31)) ||| ((1 : Int32) <<< (u4 &&& 31))))), (4, .int (((1 : Int32) <<< (u3 &&& 31)) ||| ((1 : Int32) <<< (u4 &&& 31)))), (0, .ref x0), (2, .int p2), (3, .int st.2)]) C dX1_isConnected_50 rfl (by decide) rfl rfl ?_
        refine wd_iinc (j := 54) (lv' := [(3, .int (st.2 + 1)), (1, .int (st.1 ||| (((1 : Int32) <<< (u3 &&& 31)) ||| ((1 : Int32) <<< (u4 &&& 31))))), (4, .int (((1 : Int32) <<< (u3 &&& 31)) ||| ((1 : Int32) <<< (u4 &&& 31)))), (0, .ref x0), (2, .int p2)]) C 4 dX1_isConnected_51 rfl rfl (by decide) rfl rfl ?_
        refine wd_goto (t := 14) C dX1_isConnected_54 (by decide) ?_
        obtain rfl := Option.some.inj h
        refine wd_lv (lv' := [(0, .ref x0), (1, .int (st.1 ||| (((1 : Int32) <<< (u3 &&& 31)) ||| ((1 : Int32) <<< (u4 &&& 31))))), (2, .int p2), (3, .int (st.2 + 1))]) [3, 1, 4, 0] rfl ?_
        exact ih ((st.1 ||| (((1 : Int32) <<< (u3 &&& 31)) ||| ((1 : Int32) <<< (u4 &&& 31)))), (st.2 + 1)) E hk kx
set_option maxRecDepth 100000 in
set_option maxHeartbeats 4000000 in
theorem lw_X1_isConnected_4 (l : Launch) (D : va_G) (cI cD : ClassId) (x0 x1 : Nat) (N : Nat) (len : Int32) (codes : Nat → Int32)  {p : Program} {e : Env} {s : State} {m : MethodId} {args : Array Value} {below : List Frame} {meth : Method} {c : Code} {A : Nat → Prop} {Q : State → Prop} (C : wd_C p m c cX1_isConnected 5 s args wsX1_isConnected RX1 D [(cI, .int), (cD, .double)] A) : ∀ (n : Nat) (st : Int32 × Int32) (E : Int32), iter (b_X1_isConnected_4 N len codes) n st = some E → (Wd p l e { frames := 1, cells := 0, slots := 0, locals := 21 } s m args below meth c 5 D A 0 0 Q 63 [(0, .ref x0), (1, .int E)] [] (w_X1_isConnected x0 x1 cI cD len codes)) → Wd p l e { frames := 1, cells := 0, slots := 0, locals := 21 } s m args below meth c 5 D A 0 0 Q 4 [(0, .ref x0), (1, .int st.1), (2, .int st.2)] [] (w_X1_isConnected x0 x1 cI cD len codes) := by
  intro n
  induction n with
  | zero => intro st E h; cases h
  | succ n ih =>
    intro st E h kx
    obtain ⟨b, h, hk⟩ := iter_step h
    unfold b_X1_isConnected_4 at h
    refine wd_iload_n (j := 5) C 2 dX1_isConnected_4 rfl rfl rfl ?_
    refine wd_aload_n (j := 6) C 0 dX1_isConnected_5 rfl rfl rfl ?_
    obtain ⟨u6, hu6, h⟩ := bnd_some h
    refine wd_callVi (j := 9) (q0 := 0) (ci := 1) (As := []) (rest := [.int st.2]) (ws' := (w_X1_isConnected x0 x1 cI cD len codes)) C (c_X1_nodes l D cI cD x0 x1 len codes u6 hu6) (cwV 0 C.1.2.2.2.2 gX1_isConnected_X1_nodes rfl rfl rfl (by decide +kernel) ⟨Nat.le_of_ble_eq_true rfl, Nat.le_of_ble_eq_true rfl⟩) rfl rfl [0, 1] [] rfl rfl rfl rfl (by decide) [0, 1] rfl rfl rfl (Nat.le_of_ble_eq_true rfl) (Nat.le_of_ble_eq_true rfl) (Nat.le_of_ble_eq_true rfl) dX1_isConnected_6 rfl ?_
    refine wd_icmp_ge (j := 12) (t := 63) C dX1_isConnected_9 (by decide) rfl (fun c7 => ?_) (fun c7 => ?_)
    · replace h := (if_pos c7).symm.trans h
      obtain rfl := Option.some.inj h
      obtain rfl := hk
      refine wd_lv (lv' := [(0, .ref x0), (1, .int st.1)]) [0, 1] rfl ?_
      exact kx
    · replace h := (if_neg c7).symm.trans h
      refine wd_iconst (j := 13) (v := 0) C dX1_isConnected_12 (by decide) rfl ?_
      refine wd_istore_n (j := 14) (lv' := [(3, .int (0 : Int32)), (0, .ref x0), (1, .int st.1), (2, .int st.2)]) C dX1_isConnected_13 rfl (by decide) rfl rfl ?_
      refine wd_lv (lv' := [(0, .ref x0), (1, .int st.1), (2, .int st.2), (3, .int (0 : Int32))]) [1, 2, 3, 0] rfl ?_
      obtain ⟨u8, hu8, h⟩ := bnd_some h
      refine lw_X1_isConnected_14 l D cI cD x0 x1 N len codes st.2 C N (st.1, (0 : Int32)) u8 hu8 ?_
      refine wd_iinc (j := 60) (lv' := [(2, .int (st.2 + 1)), (0, .ref x0), (1, .int u8)]) C 2 dX1_isConnected_57 rfl rfl (by decide) rfl rfl ?_
      refine wd_goto (t := 4) C dX1_isConnected_60 (by decide) ?_
      obtain rfl := Option.some.inj h
      refine wd_lv (lv' := [(0, .ref x0), (1, .int u8), (2, .int (st.2 + 1))]) [1, 2, 0] rfl ?_
      exact ih (u8, (st.2 + 1)) E hk kx
set_option maxRecDepth 100000 in
set_option maxHeartbeats 4000000 in
theorem c_X1_isConnected (l : Launch) (D : va_G) (cI cD : ClassId) (x0 x1 : Nat) (N : Nat) (len : Int32) (codes : Nat → Int32)  (u : Int32) (h : f_X1_isConnected N len codes = some u) : MetI l yX1_isConnected wsX1_isConnected { frames := 1, cells := 0, slots := 0, locals := 21 } D [(cI, .int), (cD, .double)] [.ref x0] (w_X1_isConnected x0 x1 cI cD len codes) u (w_X1_isConnected x0 x1 cI cD len codes) := by
  refine MetI.of (own := RX1) (cc := cX1_isConnected) (nL := 5) (ret := (some .boolean)) (by decide) rfl rfl (Nat.le_of_ble_eq_true rfl) rfl ?_
  intro p e s m args below meth c A hA C hr hlk
  unfold f_X1_isConnected at h
  refine wd_iconst (j := 1) (v := 1) C dX1_isConnected_0 (by decide) rfl ?_
  refine wd_istore_n (j := 2) (lv' := [(1, .int (1 : Int32)), (0, .ref x0)]) C dX1_isConnected_1 rfl (by decide) rfl rfl ?_
  refine wd_iconst (j := 3) (v := 1) C dX1_isConnected_2 (by decide) rfl ?_
  refine wd_istore_n (j := 4) (lv' := [(2, .int (1 : Int32)), (1, .int (1 : Int32)), (0, .ref x0)]) C dX1_isConnected_3 rfl (by decide) rfl rfl ?_
  refine wd_lv (lv' := [(0, .ref x0), (1, .int (1 : Int32)), (2, .int (1 : Int32))]) [2, 1, 0] rfl ?_
  obtain ⟨u9, hu9, h⟩ := bnd_some h
  refine lw_X1_isConnected_4 l D cI cD x0 x1 N len codes C N ((1 : Int32), (1 : Int32)) u9 hu9 ?_
  refine wd_iload_n (j := 64) C 1 dX1_isConnected_63 rfl rfl rfl ?_
  refine wd_iconst (j := 65) (v := 1) C dX1_isConnected_64 (by decide) rfl ?_
  refine wd_aload_n (j := 66) C 0 dX1_isConnected_65 rfl rfl rfl ?_
  obtain ⟨u10, hu10, h⟩ := bnd_some h
  refine wd_callVi (j := 69) (q0 := 0) (ci := 1) (As := []) (rest := [.int (1 : Int32), .int u9]) (ws' := (w_X1_isConnected x0 x1 cI cD len codes)) C (c_X1_nodes l D cI cD x0 x1 len codes u10 hu10) (cwV 0 C.1.2.2.2.2 gX1_isConnected_X1_nodes rfl rfl rfl (by decide +kernel) ⟨Nat.le_of_ble_eq_true rfl, Nat.le_of_ble_eq_true rfl⟩) rfl rfl [0, 1] [] rfl rfl rfl rfl (by decide) [0, 1] rfl rfl rfl (Nat.le_of_ble_eq_true rfl) (Nat.le_of_ble_eq_true rfl) (Nat.le_of_ble_eq_true rfl) dX1_isConnected_66 rfl ?_
  refine wd_ishl (j := 70) C dX1_isConnected_69 rfl ?_
  refine wd_iconst (j := 71) (v := 1) C dX1_isConnected_70 (by decide) rfl ?_
  refine wd_isub (j := 72) C dX1_isConnected_71 rfl ?_
  refine wd_icmp_ne (j := 75) (t := 79) C dX1_isConnected_72 (by decide) rfl (fun c11 => ?_) (fun c11 => ?_)
  · replace h := (if_neg c11).symm.trans h
    refine wd_iconst (j := 80) (v := 0) C dX1_isConnected_79 (by decide) rfl ?_
    obtain rfl := Option.some.inj h
    exact wd_iret C hA hr hlk rfl rfl rfl dX1_isConnected_80
  · replace h := (if_pos c11).symm.trans h
    refine wd_iconst (j := 76) (v := 1) C dX1_isConnected_75 (by decide) rfl ?_
    refine wd_goto (t := 80) C dX1_isConnected_76 (by decide) ?_
    obtain rfl := Option.some.inj h
    exact wd_iret C hA hr hlk rfl rfl rfl dX1_isConnected_80
abbrev w_X2_start (x0 x1 x2 : Nat) (cI cD : ClassId) (node : Int32) (prot : Nat → Int32) (src : Nat → Int32) : va_W := [(x0, .inr (2, [.ref x1, .int node])), (x1, .inl (cI, 8, .inl prot)), (x2, .inl (cI, 8, .inl src))]
theorem kX2_start_1 : Cond.fieldLink "RotorRouter$Probe" 15 "RotorRouter$Probe" "node" "I" ∈ wsX2_start := List.mem_of_getElem? (i := 1) rfl
theorem kX2_start_2 : Cond.fieldLink "RotorRouter$Probe" 9 "RotorRouter$Probe" "rotors" "[I" ∈ wsX2_start := List.mem_of_getElem? (i := 2) rfl
theorem kX2_start_3 : Cond.methodLink "RotorRouter$Probe" 19 arraycopyName ∈ wsX2_start := List.mem_of_getElem? (i := 3) rfl
theorem kX2_start_4 : Cond.native arraycopyName ∈ wsX2_start := List.mem_of_getElem? (i := 4) rfl
theorem kX2_start_5 : Cond.static arraycopyName ∈ wsX2_start := List.mem_of_getElem? (i := 5) rfl
theorem kX2_start_6 : Cond.initialized "java/lang/System" ∈ wsX2_start := List.mem_of_getElem? (i := 6) rfl
theorem inX2_start_X2 : ∀ w ∈ wsX20, w ∈ wsX2_start := fun _ h => List.mem_cons_of_mem _ (List.mem_append_right _ h)
set_option maxRecDepth 100000 in
set_option maxHeartbeats 4000000 in
theorem c_X2_start (l : Launch) (D : va_G) (cI cD : ClassId) (x0 x1 x2 : Nat) (node : Int32) (prot : Nat → Int32) (src : Nat → Int32) (p1 : Int32) (u : Int32 × (Nat → Int32)) (h : f_X2_start node prot src p1 = some u) : MetV l yX2_start wsX2_start { frames := 1, cells := 0, slots := 0, locals := 40 } D [(cI, .int), (cD, .double)] [.ref x0, .int p1, .ref x2] (w_X2_start x0 x1 x2 cI cD node prot src) (w_X2_start x0 x1 x2 cI cD u.1 u.2 src) := by
  refine MetV.of (own := RX2) (cc := cX2_start) (nL := 3) (ret := none) (by decide) rfl rfl (Nat.le_of_ble_eq_true rfl) rfl ?_
  intro p e s m args below meth c A hA C hr hlk
  unfold f_X2_start at h
  refine wd_aload_n (j := 1) C 0 dX2_start_0 rfl rfl rfl ?_
  refine wd_iload_n (j := 2) C 1 dX2_start_1 rfl rfl rfl ?_
  refine wd_put (j := 5) (q0 := 0) (f := 1) (ci := 2) (ws' := (w_X2_start x0 x1 x2 cI cD p1 prot src)) C inX2_start_X2 tyX2 tyX2_ok nmX2 kX2_start_1 rfl (by decide) rfl rfl rfl rfl (Nat.le_of_ble_eq_true rfl) rfl dX2_start_2 rfl ?_
  refine wd_aload_n (j := 6) C 2 dX2_start_5 rfl rfl rfl ?_
  refine wd_iconst (j := 7) (v := 0) C dX2_start_6 (by decide) rfl ?_
  refine wd_aload_n (j := 8) C 0 dX2_start_7 rfl rfl rfl ?_
  refine wd_get (j := 11) (q0 := 0) (f := 0) (ci := 2) (v := .ref x1) C inX2_start_X2 kX2_start_2 rfl (by decide) rfl rfl dX2_start_8 rfl ?_
  refine wd_iconst (j := 12) (v := 0) C dX2_start_11 (by decide) rfl ?_
  refine wd_bipush (j := 14) (v := 8) C dX2_start_12 (by decide) rfl ?_
  refine wd_copy (j := 17) (q0 := 2) (q1 := 1) (t0 := 0) (sp0 := 0) (dp0 := 0) (w0 := 8) (ws' := (w_X2_start x0 x1 x2 cI cD p1 (va_cpy src prot 0 0 8) src)) C kX2_start_3 kX2_start_4 kX2_start_5 kX2_start_6 rfl rfl rfl (by decide) (by decide) (by decide) (by decide) (by decide) (by decide) (by decide) (by decide) (Nat.le_of_ble_eq_true rfl) (by decide) rfl dX2_start_14 rfl ?_
  obtain rfl := Option.some.inj h
  exact wd_vret C hA hr hlk rfl dX2_start_17
abbrev w_X2_move (x0 x1 x2 x3 x4 : Nat) (cI cD : ClassId) (node : Int32) (prot : Nat → Int32) (nodes : Int32) (links : Int32) (deg : Nat → Int32) (nbr : Nat → Int32) : va_W := [(x0, .inr (2, [.ref x1, .int node])), (x1, .inl (cI, 8, .inl prot)), (x2, .inr (0, [.ref x3, .ref x4, .int nodes, .int links])), (x3, .inl (cI, 8, .inl deg)), (x4, .inl (cI, 56, .inl nbr))]
theorem kX2_move_1 : Cond.fieldLink "RotorRouter$Probe" 15 "RotorRouter$Probe" "node" "I" ∈ wsX2_move := List.mem_of_getElem? (i := 1) rfl
theorem kX2_move_2 : Cond.fieldLink "RotorRouter$Probe" 25 "RotorRouter$Graph" "neighbors" "[I" ∈ wsX2_move := List.mem_of_getElem? (i := 2) rfl
theorem kX2_move_3 : Cond.fieldLink "RotorRouter$Probe" 9 "RotorRouter$Probe" "rotors" "[I" ∈ wsX2_move := List.mem_of_getElem? (i := 3) rfl
theorem inX2_move_X2 : ∀ w ∈ wsX20, w ∈ wsX2_move := fun _ h => List.mem_cons_of_mem _ (List.mem_append_left _ (List.mem_append_right _ h))
theorem inX2_move_X0 : ∀ w ∈ wsX00, w ∈ wsX2_move := fun _ h => List.mem_cons_of_mem _ (List.mem_append_right _ h)
set_option maxRecDepth 100000 in
set_option maxHeartbeats 4000000 in
theorem c_X2_move (l : Launch) (D : va_G) (cI cD : ClassId) (x0 x1 x2 x3 x4 : Nat) (node : Int32) (prot : Nat → Int32) (nodes : Int32) (links : Int32) (deg : Nat → Int32) (nbr : Nat → Int32)  (u : Int32 × (Nat → Int32)) (h : f_X2_move node prot deg nbr = some u) : MetV l yX2_move wsX2_move { frames := 1, cells := 0, slots := 0, locals := 23 } D [(cI, .int), (cD, .double)] [.ref x0, .ref x2] (w_X2_move x0 x1 x2 x3 x4 cI cD node prot nodes links deg nbr) (w_X2_move x0 x1 x2 x3 x4 cI cD u.1 u.2 nodes links deg nbr) := by
  refine MetV.of (own := RX2) (cc := cX2_move) (nL := 3) (ret := none) (by decide) rfl rfl (Nat.le_of_ble_eq_true rfl) rfl ?_
  intro p e s m args below meth c A hA C hr hlk
  unfold f_X2_move at h
  refine wd_aload_n (j := 1) C 0 dX2_move_0 rfl rfl rfl ?_
  refine wd_get (j := 4) (q0 := 0) (f := 1) (ci := 2) (v := .int node) C inX2_move_X2 kX2_move_1 rfl (by decide) rfl rfl dX2_move_1 rfl ?_
  refine wd_istore_n (j := 5) (lv' := [(2, .int node), (0, .ref x0), (1, .ref x2)]) C dX2_move_4 rfl (by decide) rfl rfl ?_
  refine wd_aload_n (j := 6) C 1 dX2_move_5 rfl rfl rfl ?_
  refine wd_aload_n (j := 7) C 2 dX2_move_6 rfl rfl rfl ?_
  refine wd_get (j := 10) (q0 := 2) (f := 1) (ci := 0) (v := .ref x4) C inX2_move_X0 kX2_move_2 rfl (by decide) rfl rfl dX2_move_7 rfl ?_
  refine wd_iload_n (j := 11) C 0 dX2_move_10 rfl rfl rfl ?_
  refine wd_aload_n (j := 12) C 1 dX2_move_11 rfl rfl rfl ?_
  refine wd_get (j := 15) (q0 := 0) (f := 0) (ci := 2) (v := .ref x1) C inX2_move_X2 kX2_move_3 rfl (by decide) rfl rfl dX2_move_12 rfl ?_
  refine wd_iload_n (j := 16) C 0 dX2_move_15 rfl rfl rfl ?_
  obtain ⟨g1, h⟩ := grd_some h
  refine wd_iald (j := 17) (q0 := 1) (t0 := 0) C rfl rfl (inB_in g1) dX2_move_16 rfl ?_
  obtain ⟨u2, hu2, h⟩ := bnd_some h
  refine wd_callSi (j := 20) (As := [.int node, .int (prot node.toNatClampNeg)]) (rest := [.ref x4, .ref x0]) (ws' := (w_X2_move x0 x1 x2 x3 x4 cI cD node prot nodes links deg nbr)) C (c_X0_slot l D cI cD node (prot node.toNatClampNeg) u2 hu2) (va_cwS 2 C.1.2.2.2.2 gX2_move_X0_slot rfl rfl rfl (by decide +kernel) ⟨Nat.le_of_ble_eq_true rfl, Nat.le_of_ble_eq_true rfl⟩) [] [0, 1, 2, 3, 4] rfl rfl rfl rfl (by decide) [0, 1, 2, 3, 4] rfl rfl rfl (Nat.le_of_ble_eq_true rfl) (Nat.le_of_ble_eq_true rfl) (Nat.le_of_ble_eq_true rfl) dX2_move_17 rfl ?_
  obtain ⟨g3, h⟩ := grd_some h
  refine wd_iald (j := 21) (q0 := 4) (t0 := 0) C rfl rfl (inB_in g3) dX2_move_20 rfl ?_
  refine wd_put (j := 24) (q0 := 0) (f := 1) (ci := 2) (ws' := (w_X2_move x0 x1 x2 x3 x4 cI cD (nbr u2.toNatClampNeg) prot nodes links deg nbr)) C inX2_move_X2 tyX2 tyX2_ok nmX2 kX2_move_1 rfl (by decide) rfl rfl rfl rfl (Nat.le_of_ble_eq_true rfl) rfl dX2_move_21 rfl ?_
  refine wd_aload_n (j := 25) C 1 dX2_move_24 rfl rfl rfl ?_
  refine wd_get (j := 28) (q0 := 0) (f := 0) (ci := 2) (v := .ref x1) C inX2_move_X2 kX2_move_3 rfl (by decide) rfl rfl dX2_move_25 rfl ?_
  refine wd_iload_n (j := 29) C 0 dX2_move_28 rfl rfl rfl ?_
  refine wd_aload_n (j := 30) C 2 dX2_move_29 rfl rfl rfl ?_
  refine wd_iload_n (j := 31) C 0 dX2_move_30 rfl rfl rfl ?_
  refine wd_aload_n (j := 32) C 1 dX2_move_31 rfl rfl rfl ?_
  refine wd_get (j := 35) (q0 := 0) (f := 0) (ci := 2) (v := .ref x1) C inX2_move_X2 kX2_move_3 rfl (by decide) rfl rfl dX2_move_32 rfl ?_
  refine wd_iload_n (j := 36) C 0 dX2_move_35 rfl rfl rfl ?_
  obtain ⟨g4, h⟩ := grd_some h
  refine wd_iald (j := 37) (q0 := 1) (t0 := 0) C rfl rfl (inB_in g4) dX2_move_36 rfl ?_
  obtain ⟨u5, hu5, h⟩ := bnd_some h
  refine wd_callVi (j := 40) (q0 := 0) (ci := 0) (As := [.int node, .int (prot node.toNatClampNeg)]) (rest := [.int node, .ref x1]) (ws' := (w_X2_move x0 x1 x2 x3 x4 cI cD (nbr u2.toNatClampNeg) prot nodes links deg nbr)) C (c_X0_rotorAfter l D cI cD x2 x3 x4 nodes links deg node (prot node.toNatClampNeg) u5 hu5) (cwV 2 C.1.2.2.2.2 gX2_move_X0_rotorAfter rfl rfl rfl (by decide +kernel) ⟨Nat.le_of_ble_eq_true rfl, Nat.le_of_ble_eq_true rfl⟩) rfl rfl [2, 3] [0, 1, 4] rfl rfl rfl rfl (by decide) [0, 1, 3, 4, 2] rfl rfl rfl (Nat.le_of_ble_eq_true rfl) (Nat.le_of_ble_eq_true rfl) (Nat.le_of_ble_eq_true rfl) dX2_move_37 rfl ?_
  obtain ⟨g6, h⟩ := grd_some h
  refine wd_iast (j := 41) (q0 := 1) (t0 := 0) (ws' := (w_X2_move x0 x1 x2 x3 x4 cI cD (nbr u2.toNatClampNeg) (upd prot node.toNatClampNeg u5) nodes links deg nbr)) C rfl rfl (inB_in g6) rfl dX2_move_40 rfl ?_
  obtain rfl := Option.some.inj h
  exact wd_vret C hA hr hlk rfl dX2_move_41
abbrev w_X2_isSameAs (x0 x1 x2 x3 : Nat) (cI cD : ClassId) (node : Int32) (prot : Nat → Int32) (node2 : Int32) (prot2 : Nat → Int32) : va_W := [(x0, .inr (2, [.ref x1, .int node])), (x1, .inl (cI, 8, .inl prot)), (x2, .inr (2, [.ref x3, .int node2])), (x3, .inl (cI, 8, .inl prot2))]
theorem kX2_isSameAs_1 : Cond.fieldLink "RotorRouter$Probe" 15 "RotorRouter$Probe" "node" "I" ∈ wsX2_isSameAs := List.mem_of_getElem? (i := 1) rfl
theorem kX2_isSameAs_2 : Cond.fieldLink "RotorRouter$Probe" 9 "RotorRouter$Probe" "rotors" "[I" ∈ wsX2_isSameAs := List.mem_of_getElem? (i := 2) rfl
theorem inX2_isSameAs_X2 : ∀ w ∈ wsX20, w ∈ wsX2_isSameAs := fun _ h => List.mem_cons_of_mem _ (List.mem_append_right _ h)
set_option maxRecDepth 100000 in
set_option maxHeartbeats 4000000 in
theorem lw_X2_isSameAs_15 (l : Launch) (D : va_G) (cI cD : ClassId) (x0 x1 x2 x3 : Nat) (N : Nat) (node : Int32) (node2 : Int32) (prot : Nat → Int32) (prot2 : Nat → Int32) (p2 : Int32) {p : Program} {e : Env} {s : State} {m : MethodId} {args : Array Value} {below : List Frame} {meth : Method} {c : Code} {A : Nat → Prop} {Q : State → Prop} (C : wd_C p m c cX2_isSameAs 4 s args wsX2_isSameAs RX2 D [(cI, .int), (cD, .double)] A) : ∀ (n : Nat) (st : Int32) (E : (Unit) ⊕ (Unit)), iter (b_X2_isSameAs_15 prot prot2 p2) n st = some E → (∀ e1, E = .inl e1 → Wd p l e { frames := 0, cells := 0, slots := 0, locals := 0 } s m args below meth c 4 D A 0 0 Q 43 [] [] (w_X2_isSameAs x0 x1 x2 x3 cI cD node prot node2 prot2)) → (∀ e2, E = .inr e2 → Wd p l e { frames := 0, cells := 0, slots := 0, locals := 0 } s m args below meth c 4 D A 0 0 Q 35 [] [] (w_X2_isSameAs x0 x1 x2 x3 cI cD node prot node2 prot2)) → Wd p l e { frames := 0, cells := 0, slots := 0, locals := 0 } s m args below meth c 4 D A 0 0 Q 15 [(0, .ref x0), (1, .ref x2), (2, .int p2), (3, .int st)] [] (w_X2_isSameAs x0 x1 x2 x3 cI cD node prot node2 prot2) := by
  intro n
  induction n with
  | zero => intro st E h; cases h
  | succ n ih =>
    intro st E h kx1 kx2
    obtain ⟨b, h, hk⟩ := iter_step h
    unfold b_X2_isSameAs_15 at h
    refine wd_iload_n (j := 16) C 3 dX2_isSameAs_15 rfl rfl rfl ?_
    refine wd_iload_n (j := 17) C 2 dX2_isSameAs_16 rfl rfl rfl ?_
    refine wd_icmp_ge (j := 20) (t := 43) C dX2_isSameAs_17 (by decide) rfl (fun c1 => ?_) (fun c1 => ?_)
    · replace h := (if_pos c1).symm.trans h
      obtain rfl := Option.some.inj h
      obtain rfl := hk
      refine wd_lv (lv' := []) [] rfl ?_
      exact kx1 _ rfl
    · replace h := (if_neg c1).symm.trans h
      refine wd_aload_n (j := 21) C 0 dX2_isSameAs_20 rfl rfl rfl ?_
      refine wd_get (j := 24) (q0 := 0) (f := 0) (ci := 2) (v := .ref x1) C inX2_isSameAs_X2 kX2_isSameAs_2 rfl (by decide) rfl rfl dX2_isSameAs_21 rfl ?_
      refine wd_iload_n (j := 25) C 3 dX2_isSameAs_24 rfl rfl rfl ?_
      obtain ⟨g2, h⟩ := grd_some h
      refine wd_iald (j := 26) (q0 := 1) (t0 := 0) C rfl rfl (inB_in g2) dX2_isSameAs_25 rfl ?_
      refine wd_aload_n (j := 27) C 1 dX2_isSameAs_26 rfl rfl rfl ?_
      refine wd_get (j := 30) (q0 := 2) (f := 0) (ci := 2) (v := .ref x3) C inX2_isSameAs_X2 kX2_isSameAs_2 rfl (by decide) rfl rfl dX2_isSameAs_27 rfl ?_
      refine wd_iload_n (j := 31) C 3 dX2_isSameAs_30 rfl rfl rfl ?_
      obtain ⟨g3, h⟩ := grd_some h
      refine wd_iald (j := 32) (q0 := 3) (t0 := 0) C rfl rfl (inB_in g3) dX2_isSameAs_31 rfl ?_
      refine wd_icmp_eq (j := 35) (t := 37) C dX2_isSameAs_32 (by decide) rfl (fun c4 => ?_) (fun c4 => ?_)
      · replace h := (if_pos c4).symm.trans h
        refine wd_iinc (j := 40) (lv' := [(3, .int (st + 1)), (0, .ref x0), (1, .ref x2), (2, .int p2)]) C 3 dX2_isSameAs_37 rfl rfl (by decide) rfl rfl ?_
        refine wd_goto (t := 15) C dX2_isSameAs_40 (by decide) ?_
        obtain rfl := Option.some.inj h
        refine wd_lv (lv' := [(0, .ref x0), (1, .ref x2), (2, .int p2), (3, .int (st + 1))]) [1, 2, 3, 0] rfl ?_
        exact ih (st + 1) E hk kx1 kx2
      · replace h := (if_neg c4).symm.trans h
        obtain rfl := Option.some.inj h
        obtain rfl := hk
        refine wd_lv (lv' := []) [] rfl ?_
        exact kx2 _ rfl
set_option maxRecDepth 100000 in
set_option maxHeartbeats 4000000 in
theorem c_X2_isSameAs (l : Launch) (D : va_G) (cI cD : ClassId) (x0 x1 x2 x3 : Nat) (N : Nat) (node : Int32) (prot : Nat → Int32) (node2 : Int32) (prot2 : Nat → Int32) (p2 : Int32) (u : Int32) (h : f_X2_isSameAs N node prot node2 prot2 p2 = some u) : MetI l yX2_isSameAs wsX2_isSameAs { frames := 0, cells := 0, slots := 0, locals := 0 } D [(cI, .int), (cD, .double)] [.ref x0, .ref x2, .int p2] (w_X2_isSameAs x0 x1 x2 x3 cI cD node prot node2 prot2) u (w_X2_isSameAs x0 x1 x2 x3 cI cD node prot node2 prot2) := by
  refine MetI.of (own := RX2) (cc := cX2_isSameAs) (nL := 4) (ret := (some .boolean)) (by decide) rfl rfl (Nat.le_of_ble_eq_true rfl) rfl ?_
  intro p e s m args below meth c A hA C hr hlk
  unfold f_X2_isSameAs at h
  refine wd_aload_n (j := 1) C 0 dX2_isSameAs_0 rfl rfl rfl ?_
  refine wd_get (j := 4) (q0 := 0) (f := 1) (ci := 2) (v := .int node) C inX2_isSameAs_X2 kX2_isSameAs_1 rfl (by decide) rfl rfl dX2_isSameAs_1 rfl ?_
  refine wd_aload_n (j := 5) C 1 dX2_isSameAs_4 rfl rfl rfl ?_
  refine wd_get (j := 8) (q0 := 2) (f := 1) (ci := 2) (v := .int node2) C inX2_isSameAs_X2 kX2_isSameAs_1 rfl (by decide) rfl rfl dX2_isSameAs_5 rfl ?_
  refine wd_icmp_eq (j := 11) (t := 13) C dX2_isSameAs_8 (by decide) rfl (fun c5 => ?_) (fun c5 => ?_)
  · replace h := (if_pos c5).symm.trans h
    refine wd_iconst (j := 14) (v := 0) C dX2_isSameAs_13 (by decide) rfl ?_
    refine wd_istore_n (j := 15) (lv' := [(3, .int (0 : Int32)), (0, .ref x0), (1, .ref x2), (2, .int p2)]) C dX2_isSameAs_14 rfl (by decide) rfl rfl ?_
    refine wd_lv (lv' := [(0, .ref x0), (1, .ref x2), (2, .int p2), (3, .int (0 : Int32))]) [1, 2, 3, 0] rfl ?_
    obtain ⟨u6, hu6, h⟩ := bnd_some h
    refine lw_X2_isSameAs_15 l D cI cD x0 x1 x2 x3 N node node2 prot prot2 p2 C N (0 : Int32) u6 hu6 (fun u6a he => ?_) (fun u6b he => ?_)
    · subst he
      refine wd_iconst (j := 44) (v := 1) C dX2_isSameAs_43 (by decide) rfl ?_
      obtain rfl := Option.some.inj h
      exact wd_iret C hA hr hlk rfl rfl rfl dX2_isSameAs_44
    · subst he
      refine wd_iconst (j := 36) (v := 0) C dX2_isSameAs_35 (by decide) rfl ?_
      obtain rfl := Option.some.inj h
      exact wd_iret C hA hr hlk rfl rfl rfl dX2_isSameAs_36
  · replace h := (if_neg c5).symm.trans h
    refine wd_iconst (j := 12) (v := 0) C dX2_isSameAs_11 (by decide) rfl ?_
    obtain rfl := Option.some.inj h
    exact wd_iret C hA hr hlk rfl rfl rfl dX2_isSameAs_12
abbrev w_X3_reset (x0 x1 x2 x3 x4 : Nat) (cI cD : ClassId) (wk : Int32) (rot : Nat → Int32) (arv : Nat → Int32) (dep : Nat → Int32) : va_W := [(x0, .inr (3, [.ref x1, .ref x2, .ref x3, .ref x4, .int wk])), (x1, .inl (cI, 8, .inl rot)), (x2, .inl (cI, 8, .inl arv)), (x3, .inl (cI, 56, .inl dep))]
theorem kX3_reset_1 : Cond.fieldLink "RotorRouter$State" 9 "RotorRouter$State" "rotors" "[I" ∈ wsX3_reset := List.mem_of_getElem? (i := 1) rfl
theorem kX3_reset_2 : Cond.fieldLink "RotorRouter$State" 15 "RotorRouter$State" "arrived" "[I" ∈ wsX3_reset := List.mem_of_getElem? (i := 2) rfl
theorem kX3_reset_3 : Cond.fieldLink "RotorRouter$State" 18 "RotorRouter$State" "departed" "[I" ∈ wsX3_reset := List.mem_of_getElem? (i := 3) rfl
theorem kX3_reset_4 : Cond.fieldLink "RotorRouter$State" 24 "RotorRouter$State" "walkers" "I" ∈ wsX3_reset := List.mem_of_getElem? (i := 4) rfl
theorem inX3_reset_X3 : ∀ w ∈ wsX30, w ∈ wsX3_reset := fun _ h => List.mem_cons_of_mem _ (List.mem_append_right _ h)
set_option maxRecDepth 100000 in
set_option maxHeartbeats 4000000 in
theorem lw_X3_reset_30 (l : Launch) (D : va_G) (cI cD : ClassId) (x0 x1 x2 x3 x4 : Nat) (N : Nat) (wk : Int32) (rot : Nat → Int32) (arv : Nat → Int32)  {p : Program} {e : Env} {s : State} {m : MethodId} {args : Array Value} {below : List Frame} {meth : Method} {c : Code} {A : Nat → Prop} {Q : State → Prop} (C : wd_C p m c cX3_reset 2 s args wsX3_reset RX3 D [(cI, .int), (cD, .double)] A) : ∀ (n : Nat) (st : Int32 × (Nat → Int32)) (E : (Nat → Int32)), iter (b_X3_reset_30) n st = some E → (Wd p l e { frames := 0, cells := 0, slots := 0, locals := 0 } s m args below meth c 2 D A 0 0 Q 49 [(0, .ref x0)] [] (w_X3_reset x0 x1 x2 x3 x4 cI cD wk rot arv E)) → Wd p l e { frames := 0, cells := 0, slots := 0, locals := 0 } s m args below meth c 2 D A 0 0 Q 30 [(0, .ref x0), (1, .int st.1)] [] (w_X3_reset x0 x1 x2 x3 x4 cI cD wk rot arv st.2) := by
  intro n
  induction n with
  | zero => intro st E h; cases h
  | succ n ih =>
    intro st E h kx
    obtain ⟨b, h, hk⟩ := iter_step h
    unfold b_X3_reset_30 at h
    refine wd_iload_n (j := 31) C 1 dX3_reset_30 rfl rfl rfl ?_
    refine wd_bipush (j := 33) (v := 56) C dX3_reset_31 (by decide) rfl ?_
    refine wd_icmp_ge (j := 36) (t := 49) C dX3_reset_33 (by decide) rfl (fun c1 => ?_) (fun c1 => ?_)
    · replace h := (if_pos c1).symm.trans h
      obtain rfl := Option.some.inj h
      obtain rfl := hk
      refine wd_lv (lv' := [(0, .ref x0)]) [0] rfl ?_
      exact kx
    · replace h := (if_neg c1).symm.trans h
      refine wd_aload_n (j := 37) C 0 dX3_reset_36 rfl rfl rfl ?_
      refine wd_get (j := 40) (q0 := 0) (f := 2) (ci := 3) (v := .ref x3) C inX3_reset_X3 kX3_reset_3 rfl (by decide) rfl rfl dX3_reset_37 rfl ?_
      refine wd_iload_n (j := 41) C 1 dX3_reset_40 rfl rfl rfl ?_
      refine wd_iconst (j := 42) (v := 0) C dX3_reset_41 (by decide) rfl ?_
      obtain ⟨g2, h⟩ := grd_some h
      refine wd_iast (j := 43) (q0 := 3) (t0 := 0) (ws' := (w_X3_reset x0 x1 x2 x3 x4 cI cD wk rot arv (upd st.2 st.1.toNatClampNeg (0 : Int32)))) C rfl rfl (inB_in g2) rfl dX3_reset_42 rfl ?_
      refine wd_iinc (j := 46) (lv' := [(1, .int (st.1 + 1)), (0, .ref x0)]) C 1 dX3_reset_43 rfl rfl (by decide) rfl rfl ?_
      refine wd_goto (t := 30) C dX3_reset_46 (by decide) ?_
      obtain rfl := Option.some.inj h
      refine wd_lv (lv' := [(0, .ref x0), (1, .int (st.1 + 1))]) [1, 0] rfl ?_
      exact ih ((st.1 + 1), (upd st.2 st.1.toNatClampNeg (0 : Int32))) E hk kx
set_option maxRecDepth 100000 in
set_option maxHeartbeats 4000000 in
theorem lw_X3_reset_2 (l : Launch) (D : va_G) (cI cD : ClassId) (x0 x1 x2 x3 x4 : Nat) (N : Nat) (wk : Int32) (dep : Nat → Int32)  {p : Program} {e : Env} {s : State} {m : MethodId} {args : Array Value} {below : List Frame} {meth : Method} {c : Code} {A : Nat → Prop} {Q : State → Prop} (C : wd_C p m c cX3_reset 2 s args wsX3_reset RX3 D [(cI, .int), (cD, .double)] A) : ∀ (n : Nat) (st : Int32 × (Nat → Int32) × (Nat → Int32)) (E : (Nat → Int32) × (Nat → Int32)), iter (b_X3_reset_2) n st = some E → (Wd p l e { frames := 0, cells := 0, slots := 0, locals := 0 } s m args below meth c 2 D A 0 0 Q 28 [(0, .ref x0)] [] (w_X3_reset x0 x1 x2 x3 x4 cI cD wk E.1 E.2 dep)) → Wd p l e { frames := 0, cells := 0, slots := 0, locals := 0 } s m args below meth c 2 D A 0 0 Q 2 [(0, .ref x0), (1, .int st.1)] [] (w_X3_reset x0 x1 x2 x3 x4 cI cD wk st.2.1 st.2.2 dep) := by
  intro n
  induction n with
  | zero => intro st E h; cases h
  | succ n ih =>
    intro st E h kx
    obtain ⟨b, h, hk⟩ := iter_step h
    unfold b_X3_reset_2 at h
    refine wd_iload_n (j := 3) C 1 dX3_reset_2 rfl rfl rfl ?_
    refine wd_bipush (j := 5) (v := 8) C dX3_reset_3 (by decide) rfl ?_
    refine wd_icmp_ge (j := 8) (t := 28) C dX3_reset_5 (by decide) rfl (fun c3 => ?_) (fun c3 => ?_)
    · replace h := (if_pos c3).symm.trans h
      obtain rfl := Option.some.inj h
      obtain rfl := hk
      refine wd_lv (lv' := [(0, .ref x0)]) [0] rfl ?_
      exact kx
    · replace h := (if_neg c3).symm.trans h
      refine wd_aload_n (j := 9) C 0 dX3_reset_8 rfl rfl rfl ?_
      refine wd_get (j := 12) (q0 := 0) (f := 0) (ci := 3) (v := .ref x1) C inX3_reset_X3 kX3_reset_1 rfl (by decide) rfl rfl dX3_reset_9 rfl ?_
      refine wd_iload_n (j := 13) C 1 dX3_reset_12 rfl rfl rfl ?_
      refine wd_iconst (j := 14) (v := 0) C dX3_reset_13 (by decide) rfl ?_
      obtain ⟨g4, h⟩ := grd_some h
      refine wd_iast (j := 15) (q0 := 1) (t0 := 0) (ws' := (w_X3_reset x0 x1 x2 x3 x4 cI cD wk (upd st.2.1 st.1.toNatClampNeg (0 : Int32)) st.2.2 dep)) C rfl rfl (inB_in g4) rfl dX3_reset_14 rfl ?_
      refine wd_aload_n (j := 16) C 0 dX3_reset_15 rfl rfl rfl ?_
      refine wd_get (j := 19) (q0 := 0) (f := 1) (ci := 3) (v := .ref x2) C inX3_reset_X3 kX3_reset_2 rfl (by decide) rfl rfl dX3_reset_16 rfl ?_
      refine wd_iload_n (j := 20) C 1 dX3_reset_19 rfl rfl rfl ?_
      refine wd_iconst (j := 21) (v := 0) C dX3_reset_20 (by decide) rfl ?_
      obtain ⟨g5, h⟩ := grd_some h
      refine wd_iast (j := 22) (q0 := 2) (t0 := 0) (ws' := (w_X3_reset x0 x1 x2 x3 x4 cI cD wk (upd st.2.1 st.1.toNatClampNeg (0 : Int32)) (upd st.2.2 st.1.toNatClampNeg (0 : Int32)) dep)) C rfl rfl (inB_in g5) rfl dX3_reset_21 rfl ?_
      refine wd_iinc (j := 25) (lv' := [(1, .int (st.1 + 1)), (0, .ref x0)]) C 1 dX3_reset_22 rfl rfl (by decide) rfl rfl ?_
      refine wd_goto (t := 2) C dX3_reset_25 (by decide) ?_
      obtain rfl := Option.some.inj h
      refine wd_lv (lv' := [(0, .ref x0), (1, .int (st.1 + 1))]) [1, 0] rfl ?_
      exact ih ((st.1 + 1), (upd st.2.1 st.1.toNatClampNeg (0 : Int32)), (upd st.2.2 st.1.toNatClampNeg (0 : Int32))) E hk kx
set_option maxRecDepth 100000 in
set_option maxHeartbeats 4000000 in
theorem c_X3_reset (l : Launch) (D : va_G) (cI cD : ClassId) (x0 x1 x2 x3 x4 : Nat) (N : Nat) (wk : Int32) (rot : Nat → Int32) (arv : Nat → Int32) (dep : Nat → Int32)  (u : Int32 × (Nat → Int32) × (Nat → Int32) × (Nat → Int32)) (h : f_X3_reset N wk rot arv dep = some u) : MetV l yX3_reset wsX3_reset { frames := 0, cells := 0, slots := 0, locals := 0 } D [(cI, .int), (cD, .double)] [.ref x0] (w_X3_reset x0 x1 x2 x3 x4 cI cD wk rot arv dep) (w_X3_reset x0 x1 x2 x3 x4 cI cD u.1 u.2.1 u.2.2.1 u.2.2.2) := by
  refine MetV.of (own := RX3) (cc := cX3_reset) (nL := 2) (ret := none) (by decide) rfl rfl (Nat.le_of_ble_eq_true rfl) rfl ?_
  intro p e s m args below meth c A hA C hr hlk
  unfold f_X3_reset at h
  refine wd_iconst (j := 1) (v := 0) C dX3_reset_0 (by decide) rfl ?_
  refine wd_istore_n (j := 2) (lv' := [(1, .int (0 : Int32)), (0, .ref x0)]) C dX3_reset_1 rfl (by decide) rfl rfl ?_
  refine wd_lv (lv' := [(0, .ref x0), (1, .int (0 : Int32))]) [1, 0] rfl ?_
  obtain ⟨u6, hu6, h⟩ := bnd_some h
  refine lw_X3_reset_2 l D cI cD x0 x1 x2 x3 x4 N wk dep C N ((0 : Int32), rot, arv) u6 hu6 ?_
  refine wd_iconst (j := 29) (v := 0) C dX3_reset_28 (by decide) rfl ?_
  refine wd_istore_n (j := 30) (lv' := [(1, .int (0 : Int32)), (0, .ref x0)]) C dX3_reset_29 rfl (by decide) rfl rfl ?_
  refine wd_lv (lv' := [(0, .ref x0), (1, .int (0 : Int32))]) [1, 0] rfl ?_
  obtain ⟨u7, hu7, h⟩ := bnd_some h
  refine lw_X3_reset_30 l D cI cD x0 x1 x2 x3 x4 N wk u6.1 u6.2 C N ((0 : Int32), dep) u7 hu7 ?_
  refine wd_aload_n (j := 50) C 0 dX3_reset_49 rfl rfl rfl ?_
  refine wd_iconst (j := 51) (v := 0) C dX3_reset_50 (by decide) rfl ?_
  refine wd_put (j := 54) (q0 := 0) (f := 4) (ci := 3) (ws' := (w_X3_reset x0 x1 x2 x3 x4 cI cD (0 : Int32) u6.1 u6.2 u7)) C inX3_reset_X3 tyX3 tyX3_ok nmX3 kX3_reset_4 rfl (by decide) rfl rfl rfl rfl (Nat.le_of_ble_eq_true rfl) rfl dX3_reset_51 rfl ?_
  obtain rfl := Option.some.inj h
  exact wd_vret C hA hr hlk rfl dX3_reset_54
abbrev w_X3_copyFrom (x0 x1 x2 x3 x4 x5 x6 x7 x8 x9 : Nat) (cI cD : ClassId) (wk : Int32) (rot : Nat → Int32) (arv : Nat → Int32) (dep : Nat → Int32) (pos : Nat → Int32) (wk2 : Int32) (rot2 : Nat → Int32) (arv2 : Nat → Int32) (dep2 : Nat → Int32) (pos2 : Nat → Int32) : va_W := [(x0, .inr (3, [.ref x1, .ref x2, .ref x3, .ref x4, .int wk])), (x1, .inl (cI, 8, .inl rot)), (x2, .inl (cI, 8, .inl arv)), (x3, .inl (cI, 56, .inl dep)), (x4, .inl (cI, 4, .inl pos)), (x5, .inr (3, [.ref x6, .ref x7, .ref x8, .ref x9, .int wk2])), (x6, .inl (cI, 8, .inl rot2)), (x7, .inl (cI, 8, .inl arv2)), (x8, .inl (cI, 56, .inl dep2)), (x9, .inl (cI, 4, .inl pos2))]
theorem kX3_copyFrom_1 : Cond.fieldLink "RotorRouter$State" 9 "RotorRouter$State" "rotors" "[I" ∈ wsX3_copyFrom := List.mem_of_getElem? (i := 1) rfl
theorem kX3_copyFrom_2 : Cond.methodLink "RotorRouter$State" 28 arraycopyName ∈ wsX3_copyFrom := List.mem_of_getElem? (i := 2) rfl
theorem kX3_copyFrom_3 : Cond.native arraycopyName ∈ wsX3_copyFrom := List.mem_of_getElem? (i := 3) rfl
theorem kX3_copyFrom_4 : Cond.static arraycopyName ∈ wsX3_copyFrom := List.mem_of_getElem? (i := 4) rfl
theorem kX3_copyFrom_5 : Cond.initialized "java/lang/System" ∈ wsX3_copyFrom := List.mem_of_getElem? (i := 5) rfl
theorem kX3_copyFrom_6 : Cond.fieldLink "RotorRouter$State" 15 "RotorRouter$State" "arrived" "[I" ∈ wsX3_copyFrom := List.mem_of_getElem? (i := 6) rfl
theorem kX3_copyFrom_7 : Cond.fieldLink "RotorRouter$State" 18 "RotorRouter$State" "departed" "[I" ∈ wsX3_copyFrom := List.mem_of_getElem? (i := 7) rfl
theorem kX3_copyFrom_8 : Cond.fieldLink "RotorRouter$State" 21 "RotorRouter$State" "positions" "[I" ∈ wsX3_copyFrom := List.mem_of_getElem? (i := 8) rfl
theorem kX3_copyFrom_9 : Cond.fieldLink "RotorRouter$State" 24 "RotorRouter$State" "walkers" "I" ∈ wsX3_copyFrom := List.mem_of_getElem? (i := 9) rfl
theorem inX3_copyFrom_X3 : ∀ w ∈ wsX30, w ∈ wsX3_copyFrom := fun _ h => List.mem_cons_of_mem _ (List.mem_append_right _ h)
set_option maxRecDepth 100000 in
set_option maxHeartbeats 4000000 in
theorem c_X3_copyFrom (l : Launch) (D : va_G) (cI cD : ClassId) (x0 x1 x2 x3 x4 x5 x6 x7 x8 x9 : Nat) (wk : Int32) (rot : Nat → Int32) (arv : Nat → Int32) (dep : Nat → Int32) (pos : Nat → Int32) (wk2 : Int32) (rot2 : Nat → Int32) (arv2 : Nat → Int32) (dep2 : Nat → Int32) (pos2 : Nat → Int32)  (u : Int32 × (Nat → Int32) × (Nat → Int32) × (Nat → Int32) × (Nat → Int32)) (h : f_X3_copyFrom wk rot arv dep pos wk2 rot2 arv2 dep2 pos2 = some u) : MetV l yX3_copyFrom wsX3_copyFrom { frames := 1, cells := 0, slots := 0, locals := 40 } D [(cI, .int), (cD, .double)] [.ref x0, .ref x5] (w_X3_copyFrom x0 x1 x2 x3 x4 x5 x6 x7 x8 x9 cI cD wk rot arv dep pos wk2 rot2 arv2 dep2 pos2) (w_X3_copyFrom x0 x1 x2 x3 x4 x5 x6 x7 x8 x9 cI cD u.1 u.2.1 u.2.2.1 u.2.2.2.1 u.2.2.2.2 wk2 rot2 arv2 dep2 pos2) := by
  refine MetV.of (own := RX3) (cc := cX3_copyFrom) (nL := 2) (ret := none) (by decide) rfl rfl (Nat.le_of_ble_eq_true rfl) rfl ?_
  intro p e s m args below meth c A hA C hr hlk
  unfold f_X3_copyFrom at h
  refine wd_aload_n (j := 1) C 1 dX3_copyFrom_0 rfl rfl rfl ?_
  refine wd_get (j := 4) (q0 := 5) (f := 0) (ci := 3) (v := .ref x6) C inX3_copyFrom_X3 kX3_copyFrom_1 rfl (by decide) rfl rfl dX3_copyFrom_1 rfl ?_
  refine wd_iconst (j := 5) (v := 0) C dX3_copyFrom_4 (by decide) rfl ?_
  refine wd_aload_n (j := 6) C 0 dX3_copyFrom_5 rfl rfl rfl ?_
  refine wd_get (j := 9) (q0 := 0) (f := 0) (ci := 3) (v := .ref x1) C inX3_copyFrom_X3 kX3_copyFrom_1 rfl (by decide) rfl rfl dX3_copyFrom_6 rfl ?_
  refine wd_iconst (j := 10) (v := 0) C dX3_copyFrom_9 (by decide) rfl ?_
  refine wd_bipush (j := 12) (v := 8) C dX3_copyFrom_10 (by decide) rfl ?_
  refine wd_copy (j := 15) (q0 := 6) (q1 := 1) (t0 := 0) (sp0 := 0) (dp0 := 0) (w0 := 8) (ws' := (w_X3_copyFrom x0 x1 x2 x3 x4 x5 x6 x7 x8 x9 cI cD wk (va_cpy rot2 rot 0 0 8) arv dep pos wk2 rot2 arv2 dep2 pos2)) C kX3_copyFrom_2 kX3_copyFrom_3 kX3_copyFrom_4 kX3_copyFrom_5 rfl rfl rfl (by decide) (by decide) (by decide) (by decide) (by decide) (by decide) (by decide) (by decide) (Nat.le_of_ble_eq_true rfl) (by decide) rfl dX3_copyFrom_12 rfl ?_
  refine wd_aload_n (j := 16) C 1 dX3_copyFrom_15 rfl rfl rfl ?_
  refine wd_get (j := 19) (q0 := 5) (f := 1) (ci := 3) (v := .ref x7) C inX3_copyFrom_X3 kX3_copyFrom_6 rfl (by decide) rfl rfl dX3_copyFrom_16 rfl ?_
  refine wd_iconst (j := 20) (v := 0) C dX3_copyFrom_19 (by decide) rfl ?_
  refine wd_aload_n (j := 21) C 0 dX3_copyFrom_20 rfl rfl rfl ?_
  refine wd_get (j := 24) (q0 := 0) (f := 1) (ci := 3) (v := .ref x2) C inX3_copyFrom_X3 kX3_copyFrom_6 rfl (by decide) rfl rfl dX3_copyFrom_21 rfl ?_
  refine wd_iconst (j := 25) (v := 0) C dX3_copyFrom_24 (by decide) rfl ?_
  refine wd_bipush (j := 27) (v := 8) C dX3_copyFrom_25 (by decide) rfl ?_
  refine wd_copy (j := 30) (q0 := 7) (q1 := 2) (t0 := 0) (sp0 := 0) (dp0 := 0) (w0 := 8) (ws' := (w_X3_copyFrom x0 x1 x2 x3 x4 x5 x6 x7 x8 x9 cI cD wk (va_cpy rot2 rot 0 0 8) (va_cpy arv2 arv 0 0 8) dep pos wk2 rot2 arv2 dep2 pos2)) C kX3_copyFrom_2 kX3_copyFrom_3 kX3_copyFrom_4 kX3_copyFrom_5 rfl rfl rfl (by decide) (by decide) (by decide) (by decide) (by decide) (by decide) (by decide) (by decide) (Nat.le_of_ble_eq_true rfl) (by decide) rfl dX3_copyFrom_27 rfl ?_
  refine wd_aload_n (j := 31) C 1 dX3_copyFrom_30 rfl rfl rfl ?_
  refine wd_get (j := 34) (q0 := 5) (f := 2) (ci := 3) (v := .ref x8) C inX3_copyFrom_X3 kX3_copyFrom_7 rfl (by decide) rfl rfl dX3_copyFrom_31 rfl ?_
  refine wd_iconst (j := 35) (v := 0) C dX3_copyFrom_34 (by decide) rfl ?_
  refine wd_aload_n (j := 36) C 0 dX3_copyFrom_35 rfl rfl rfl ?_
  refine wd_get (j := 39) (q0 := 0) (f := 2) (ci := 3) (v := .ref x3) C inX3_copyFrom_X3 kX3_copyFrom_7 rfl (by decide) rfl rfl dX3_copyFrom_36 rfl ?_
  refine wd_iconst (j := 40) (v := 0) C dX3_copyFrom_39 (by decide) rfl ?_
  refine wd_bipush (j := 42) (v := 56) C dX3_copyFrom_40 (by decide) rfl ?_
  refine wd_copy (j := 45) (q0 := 8) (q1 := 3) (t0 := 0) (sp0 := 0) (dp0 := 0) (w0 := 56) (ws' := (w_X3_copyFrom x0 x1 x2 x3 x4 x5 x6 x7 x8 x9 cI cD wk (va_cpy rot2 rot 0 0 8) (va_cpy arv2 arv 0 0 8) (va_cpy dep2 dep 0 0 56) pos wk2 rot2 arv2 dep2 pos2)) C kX3_copyFrom_2 kX3_copyFrom_3 kX3_copyFrom_4 kX3_copyFrom_5 rfl rfl rfl (by decide) (by decide) (by decide) (by decide) (by decide) (by decide) (by decide) (by decide) (Nat.le_of_ble_eq_true rfl) (by decide) rfl dX3_copyFrom_42 rfl ?_
  refine wd_aload_n (j := 46) C 1 dX3_copyFrom_45 rfl rfl rfl ?_
  refine wd_get (j := 49) (q0 := 5) (f := 3) (ci := 3) (v := .ref x9) C inX3_copyFrom_X3 kX3_copyFrom_8 rfl (by decide) rfl rfl dX3_copyFrom_46 rfl ?_
  refine wd_iconst (j := 50) (v := 0) C dX3_copyFrom_49 (by decide) rfl ?_
  refine wd_aload_n (j := 51) C 0 dX3_copyFrom_50 rfl rfl rfl ?_
  refine wd_get (j := 54) (q0 := 0) (f := 3) (ci := 3) (v := .ref x4) C inX3_copyFrom_X3 kX3_copyFrom_8 rfl (by decide) rfl rfl dX3_copyFrom_51 rfl ?_
  refine wd_iconst (j := 55) (v := 0) C dX3_copyFrom_54 (by decide) rfl ?_
  refine wd_iconst (j := 56) (v := 4) C dX3_copyFrom_55 (by decide) rfl ?_
  refine wd_copy (j := 59) (q0 := 9) (q1 := 4) (t0 := 0) (sp0 := 0) (dp0 := 0) (w0 := 4) (ws' := (w_X3_copyFrom x0 x1 x2 x3 x4 x5 x6 x7 x8 x9 cI cD wk (va_cpy rot2 rot 0 0 8) (va_cpy arv2 arv 0 0 8) (va_cpy dep2 dep 0 0 56) (va_cpy pos2 pos 0 0 4) wk2 rot2 arv2 dep2 pos2)) C kX3_copyFrom_2 kX3_copyFrom_3 kX3_copyFrom_4 kX3_copyFrom_5 rfl rfl rfl (by decide) (by decide) (by decide) (by decide) (by decide) (by decide) (by decide) (by decide) (Nat.le_of_ble_eq_true rfl) (by decide) rfl dX3_copyFrom_56 rfl ?_
  refine wd_aload_n (j := 60) C 0 dX3_copyFrom_59 rfl rfl rfl ?_
  refine wd_aload_n (j := 61) C 1 dX3_copyFrom_60 rfl rfl rfl ?_
  refine wd_get (j := 64) (q0 := 5) (f := 4) (ci := 3) (v := .int wk2) C inX3_copyFrom_X3 kX3_copyFrom_9 rfl (by decide) rfl rfl dX3_copyFrom_61 rfl ?_
  refine wd_put (j := 67) (q0 := 0) (f := 4) (ci := 3) (ws' := (w_X3_copyFrom x0 x1 x2 x3 x4 x5 x6 x7 x8 x9 cI cD wk2 (va_cpy rot2 rot 0 0 8) (va_cpy arv2 arv 0 0 8) (va_cpy dep2 dep 0 0 56) (va_cpy pos2 pos 0 0 4) wk2 rot2 arv2 dep2 pos2)) C inX3_copyFrom_X3 tyX3 tyX3_ok nmX3 kX3_copyFrom_9 rfl (by decide) rfl rfl rfl rfl (Nat.le_of_ble_eq_true rfl) rfl dX3_copyFrom_64 rfl ?_
  obtain rfl := Option.some.inj h
  exact wd_vret C hA hr hlk rfl dX3_copyFrom_67
abbrev w_X3_hasWalker (x0 x1 x2 x3 x4 : Nat) (cI cD : ClassId) (wk : Int32) : va_W := [(x0, .inr (3, [.ref x1, .ref x2, .ref x3, .ref x4, .int wk]))]
theorem kX3_hasWalker_1 : Cond.fieldLink "RotorRouter$State" 24 "RotorRouter$State" "walkers" "I" ∈ wsX3_hasWalker := List.mem_of_getElem? (i := 1) rfl
theorem inX3_hasWalker_X3 : ∀ w ∈ wsX30, w ∈ wsX3_hasWalker := fun _ h => List.mem_cons_of_mem _ (List.mem_append_right _ h)
set_option maxRecDepth 100000 in
set_option maxHeartbeats 4000000 in
theorem c_X3_hasWalker (l : Launch) (D : va_G) (cI cD : ClassId) (x0 x1 x2 x3 x4 : Nat) (wk : Int32) (p1 : Int32) (u : Int32) (h : f_X3_hasWalker wk p1 = some u) : MetI l yX3_hasWalker wsX3_hasWalker { frames := 0, cells := 0, slots := 0, locals := 0 } D [(cI, .int), (cD, .double)] [.ref x0, .int p1] (w_X3_hasWalker x0 x1 x2 x3 x4 cI cD wk) u (w_X3_hasWalker x0 x1 x2 x3 x4 cI cD wk) := by
  refine MetI.of (own := RX3) (cc := cX3_hasWalker) (nL := 2) (ret := (some .boolean)) (by decide) rfl rfl (Nat.le_of_ble_eq_true rfl) rfl ?_
  intro p e s m args below meth c A hA C hr hlk
  unfold f_X3_hasWalker at h
  refine wd_iload_n (j := 1) C 1 dX3_hasWalker_0 rfl rfl rfl ?_
  refine wd_if_lt (j := 4) (t := 16) C dX3_hasWalker_1 (by decide) rfl (fun c1 => ?_) (fun c1 => ?_)
  · replace h := (if_pos c1).symm.trans h
    refine wd_iconst (j := 17) (v := 0) C dX3_hasWalker_16 (by decide) rfl ?_
    obtain rfl := Option.some.inj h
    exact wd_iret C hA hr hlk rfl rfl rfl dX3_hasWalker_17
  · replace h := (if_neg c1).symm.trans h
    refine wd_iload_n (j := 5) C 1 dX3_hasWalker_4 rfl rfl rfl ?_
    refine wd_aload_n (j := 6) C 0 dX3_hasWalker_5 rfl rfl rfl ?_
    refine wd_get (j := 9) (q0 := 0) (f := 4) (ci := 3) (v := .int wk) C inX3_hasWalker_X3 kX3_hasWalker_1 rfl (by decide) rfl rfl dX3_hasWalker_6 rfl ?_
    refine wd_icmp_ge (j := 12) (t := 16) C dX3_hasWalker_9 (by decide) rfl (fun c2 => ?_) (fun c2 => ?_)
    · replace h := (if_pos c2).symm.trans h
      refine wd_iconst (j := 17) (v := 0) C dX3_hasWalker_16 (by decide) rfl ?_
      obtain rfl := Option.some.inj h
      exact wd_iret C hA hr hlk rfl rfl rfl dX3_hasWalker_17
    · replace h := (if_neg c2).symm.trans h
      refine wd_iconst (j := 13) (v := 1) C dX3_hasWalker_12 (by decide) rfl ?_
      refine wd_goto (t := 17) C dX3_hasWalker_13 (by decide) ?_
      obtain rfl := Option.some.inj h
      exact wd_iret C hA hr hlk rfl rfl rfl dX3_hasWalker_17
abbrev w_X3_move (x0 x1 x2 x3 x4 x5 x6 x7 : Nat) (cI cD : ClassId) (wk : Int32) (rot : Nat → Int32) (arv : Nat → Int32) (dep : Nat → Int32) (pos : Nat → Int32) (nodes : Int32) (links : Int32) (deg : Nat → Int32) (nbr : Nat → Int32) : va_W := [(x0, .inr (3, [.ref x1, .ref x2, .ref x3, .ref x4, .int wk])), (x1, .inl (cI, 8, .inl rot)), (x2, .inl (cI, 8, .inl arv)), (x3, .inl (cI, 56, .inl dep)), (x4, .inl (cI, 4, .inl pos)), (x5, .inr (0, [.ref x6, .ref x7, .int nodes, .int links])), (x6, .inl (cI, 8, .inl deg)), (x7, .inl (cI, 56, .inl nbr))]
theorem kX3_move_1 : Cond.fieldLink "RotorRouter$State" 21 "RotorRouter$State" "positions" "[I" ∈ wsX3_move := List.mem_of_getElem? (i := 1) rfl
theorem kX3_move_2 : Cond.fieldLink "RotorRouter$State" 9 "RotorRouter$State" "rotors" "[I" ∈ wsX3_move := List.mem_of_getElem? (i := 2) rfl
theorem kX3_move_3 : Cond.fieldLink "RotorRouter$State" 40 "RotorRouter$Graph" "neighbors" "[I" ∈ wsX3_move := List.mem_of_getElem? (i := 3) rfl
theorem kX3_move_4 : Cond.fieldLink "RotorRouter$State" 18 "RotorRouter$State" "departed" "[I" ∈ wsX3_move := List.mem_of_getElem? (i := 4) rfl
theorem kX3_move_5 : Cond.fieldLink "RotorRouter$State" 15 "RotorRouter$State" "arrived" "[I" ∈ wsX3_move := List.mem_of_getElem? (i := 5) rfl
theorem inX3_move_X3 : ∀ w ∈ wsX30, w ∈ wsX3_move := fun _ h => List.mem_cons_of_mem _ (List.mem_append_left _ (List.mem_append_right _ h))
theorem inX3_move_X0 : ∀ w ∈ wsX00, w ∈ wsX3_move := fun _ h => List.mem_cons_of_mem _ (List.mem_append_right _ h)
set_option maxRecDepth 100000 in
set_option maxHeartbeats 4000000 in
theorem c_X3_move (l : Launch) (D : va_G) (cI cD : ClassId) (x0 x1 x2 x3 x4 x5 x6 x7 : Nat) (wk : Int32) (rot : Nat → Int32) (arv : Nat → Int32) (dep : Nat → Int32) (pos : Nat → Int32) (nodes : Int32) (links : Int32) (deg : Nat → Int32) (nbr : Nat → Int32) (p1 : Int32) (u : (Nat → Int32) × (Nat → Int32) × (Nat → Int32) × (Nat → Int32)) (h : f_X3_move rot arv dep pos deg nbr p1 = some u) : MetV l yX3_move wsX3_move { frames := 1, cells := 0, slots := 0, locals := 23 } D [(cI, .int), (cD, .double)] [.ref x0, .int p1, .ref x5] (w_X3_move x0 x1 x2 x3 x4 x5 x6 x7 cI cD wk rot arv dep pos nodes links deg nbr) (w_X3_move x0 x1 x2 x3 x4 x5 x6 x7 cI cD wk u.1 u.2.1 u.2.2.1 u.2.2.2 nodes links deg nbr) := by
  refine MetV.of (own := RX3) (cc := cX3_move) (nL := 6) (ret := none) (by decide) rfl rfl (Nat.le_of_ble_eq_true rfl) rfl ?_
  intro p e s m args below meth c A hA C hr hlk
  unfold f_X3_move at h
  refine wd_aload_n (j := 1) C 0 dX3_move_0 rfl rfl rfl ?_
  refine wd_get (j := 4) (q0 := 0) (f := 3) (ci := 3) (v := .ref x4) C inX3_move_X3 kX3_move_1 rfl (by decide) rfl rfl dX3_move_1 rfl ?_
  refine wd_iload_n (j := 5) C 1 dX3_move_4 rfl rfl rfl ?_
  obtain ⟨g1, h⟩ := grd_some h
  refine wd_iald (j := 6) (q0 := 4) (t0 := 0) C rfl rfl (inB_in g1) dX3_move_5 rfl ?_
  refine wd_istore_n (j := 7) (lv' := [(3, .int (pos p1.toNatClampNeg)), (0, .ref x0), (1, .int p1), (2, .ref x5)]) C dX3_move_6 rfl (by decide) rfl rfl ?_
  refine wd_iload_n (j := 8) C 0 dX3_move_7 rfl rfl rfl ?_
  refine wd_aload_n (j := 9) C 1 dX3_move_8 rfl rfl rfl ?_
  refine wd_get (j := 12) (q0 := 0) (f := 0) (ci := 3) (v := .ref x1) C inX3_move_X3 kX3_move_2 rfl (by decide) rfl rfl dX3_move_9 rfl ?_
  refine wd_iload_n (j := 13) C 0 dX3_move_12 rfl rfl rfl ?_
  obtain ⟨g2, h⟩ := grd_some h
  refine wd_iald (j := 14) (q0 := 1) (t0 := 0) C rfl rfl (inB_in g2) dX3_move_13 rfl ?_
  obtain ⟨u3, hu3, h⟩ := bnd_some h
  refine wd_callSi (j := 17) (As := [.int (pos p1.toNatClampNeg), .int (rot (pos p1.toNatClampNeg).toNatClampNeg)]) (rest := []) (ws' := (w_X3_move x0 x1 x2 x3 x4 x5 x6 x7 cI cD wk rot arv dep pos nodes links deg nbr)) C (c_X0_slot l D cI cD (pos p1.toNatClampNeg) (rot (pos p1.toNatClampNeg).toNatClampNeg) u3 hu3) (va_cwS 2 C.1.2.2.2.2 gX3_move_X0_slot rfl rfl rfl (by decide +kernel) ⟨Nat.le_of_ble_eq_true rfl, Nat.le_of_ble_eq_true rfl⟩) [] [0, 1, 2, 3, 4, 5, 6, 7] rfl rfl rfl rfl (by decide) [0, 1, 2, 3, 4, 5, 6, 7] rfl rfl rfl (Nat.le_of_ble_eq_true rfl) (Nat.le_of_ble_eq_true rfl) (Nat.le_of_ble_eq_true rfl) dX3_move_14 rfl ?_
  refine wd_istore (j := 19) (lv' := [(4, .int u3), (3, .int (pos p1.toNatClampNeg)), (0, .ref x0), (1, .int p1), (2, .ref x5)]) C dX3_move_17 (by decide) rfl rfl ?_
  refine wd_aload_n (j := 20) C 4 dX3_move_19 rfl rfl rfl ?_
  refine wd_get (j := 23) (q0 := 5) (f := 1) (ci := 0) (v := .ref x7) C inX3_move_X0 kX3_move_3 rfl (by decide) rfl rfl dX3_move_20 rfl ?_
  refine wd_iload (j := 25) C 0 dX3_move_23 rfl rfl ?_
  obtain ⟨g4, h⟩ := grd_some h
  refine wd_iald (j := 26) (q0 := 7) (t0 := 0) C rfl rfl (inB_in g4) dX3_move_25 rfl ?_
  refine wd_istore (j := 28) (lv' := [(5, .int (nbr u3.toNatClampNeg)), (4, .int u3), (3, .int (pos p1.toNatClampNeg)), (0, .ref x0), (1, .int p1), (2, .ref x5)]) C dX3_move_26 (by decide) rfl rfl ?_
  refine wd_aload_n (j := 29) C 3 dX3_move_28 rfl rfl rfl ?_
  refine wd_get (j := 32) (q0 := 0) (f := 2) (ci := 3) (v := .ref x3) C inX3_move_X3 kX3_move_4 rfl (by decide) rfl rfl dX3_move_29 rfl ?_
  refine wd_iload (j := 34) C 1 dX3_move_32 rfl rfl ?_
  refine wd_dup2 (j := 35) C dX3_move_34 rfl rfl rfl ?_
  obtain ⟨g5, h⟩ := grd_some h
  refine wd_iald (j := 36) (q0 := 3) (t0 := 0) C rfl rfl (inB_in g5) dX3_move_35 rfl ?_
  refine wd_iconst (j := 37) (v := 1) C dX3_move_36 (by decide) rfl ?_
  refine wd_iadd (j := 38) C dX3_move_37 rfl ?_
  obtain ⟨g6, h⟩ := grd_some h
  refine wd_iast (j := 39) (q0 := 3) (t0 := 0) (ws' := (w_X3_move x0 x1 x2 x3 x4 x5 x6 x7 cI cD wk rot arv (upd dep u3.toNatClampNeg ((dep u3.toNatClampNeg) + (1 : Int32))) pos nodes links deg nbr)) C rfl rfl (inB_in g6) rfl dX3_move_38 rfl ?_
  refine wd_aload_n (j := 40) C 3 dX3_move_39 rfl rfl rfl ?_
  refine wd_get (j := 43) (q0 := 0) (f := 1) (ci := 3) (v := .ref x2) C inX3_move_X3 kX3_move_5 rfl (by decide) rfl rfl dX3_move_40 rfl ?_
  refine wd_iload (j := 45) C 0 dX3_move_43 rfl rfl ?_
  refine wd_dup2 (j := 46) C dX3_move_45 rfl rfl rfl ?_
  obtain ⟨g7, h⟩ := grd_some h
  refine wd_iald (j := 47) (q0 := 2) (t0 := 0) C rfl rfl (inB_in g7) dX3_move_46 rfl ?_
  refine wd_iconst (j := 48) (v := 1) C dX3_move_47 (by decide) rfl ?_
  refine wd_iadd (j := 49) C dX3_move_48 rfl ?_
  obtain ⟨g8, h⟩ := grd_some h
  refine wd_iast (j := 50) (q0 := 2) (t0 := 0) (ws' := (w_X3_move x0 x1 x2 x3 x4 x5 x6 x7 cI cD wk rot (upd arv (nbr u3.toNatClampNeg).toNatClampNeg ((arv (nbr u3.toNatClampNeg).toNatClampNeg) + (1 : Int32))) (upd dep u3.toNatClampNeg ((dep u3.toNatClampNeg) + (1 : Int32))) pos nodes links deg nbr)) C rfl rfl (inB_in g8) rfl dX3_move_49 rfl ?_
  refine wd_aload_n (j := 51) C 3 dX3_move_50 rfl rfl rfl ?_
  refine wd_get (j := 54) (q0 := 0) (f := 0) (ci := 3) (v := .ref x1) C inX3_move_X3 kX3_move_2 rfl (by decide) rfl rfl dX3_move_51 rfl ?_
  refine wd_iload_n (j := 55) C 2 dX3_move_54 rfl rfl rfl ?_
  refine wd_aload_n (j := 56) C 5 dX3_move_55 rfl rfl rfl ?_
  refine wd_iload_n (j := 57) C 2 dX3_move_56 rfl rfl rfl ?_
  refine wd_aload_n (j := 58) C 3 dX3_move_57 rfl rfl rfl ?_
  refine wd_get (j := 61) (q0 := 0) (f := 0) (ci := 3) (v := .ref x1) C inX3_move_X3 kX3_move_2 rfl (by decide) rfl rfl dX3_move_58 rfl ?_
  refine wd_iload_n (j := 62) C 2 dX3_move_61 rfl rfl rfl ?_
  obtain ⟨g9, h⟩ := grd_some h
  refine wd_iald (j := 63) (q0 := 1) (t0 := 0) C rfl rfl (inB_in g9) dX3_move_62 rfl ?_
  obtain ⟨u10, hu10, h⟩ := bnd_some h
  refine wd_callVi (j := 66) (q0 := 0) (ci := 0) (As := [.int (pos p1.toNatClampNeg), .int (rot (pos p1.toNatClampNeg).toNatClampNeg)]) (rest := [.int (pos p1.toNatClampNeg), .ref x1]) (ws' := (w_X3_move x0 x1 x2 x3 x4 x5 x6 x7 cI cD wk rot (upd arv (nbr u3.toNatClampNeg).toNatClampNeg ((arv (nbr u3.toNatClampNeg).toNatClampNeg) + (1 : Int32))) (upd dep u3.toNatClampNeg ((dep u3.toNatClampNeg) + (1 : Int32))) pos nodes links deg nbr)) C (c_X0_rotorAfter l D cI cD x5 x6 x7 nodes links deg (pos p1.toNatClampNeg) (rot (pos p1.toNatClampNeg).toNatClampNeg) u10 hu10) (cwV 2 C.1.2.2.2.2 gX3_move_X0_rotorAfter rfl rfl rfl (by decide +kernel) ⟨Nat.le_of_ble_eq_true rfl, Nat.le_of_ble_eq_true rfl⟩) rfl rfl [5, 6] [0, 1, 2, 3, 4, 7] rfl rfl rfl rfl (by decide) [0, 1, 2, 3, 4, 6, 7, 5] rfl rfl rfl (Nat.le_of_ble_eq_true rfl) (Nat.le_of_ble_eq_true rfl) (Nat.le_of_ble_eq_true rfl) dX3_move_63 rfl ?_
  obtain ⟨g11, h⟩ := grd_some h
  refine wd_iast (j := 67) (q0 := 1) (t0 := 0) (ws' := (w_X3_move x0 x1 x2 x3 x4 x5 x6 x7 cI cD wk (upd rot (pos p1.toNatClampNeg).toNatClampNeg u10) (upd arv (nbr u3.toNatClampNeg).toNatClampNeg ((arv (nbr u3.toNatClampNeg).toNatClampNeg) + (1 : Int32))) (upd dep u3.toNatClampNeg ((dep u3.toNatClampNeg) + (1 : Int32))) pos nodes links deg nbr)) C rfl rfl (inB_in g11) rfl dX3_move_66 rfl ?_
  refine wd_aload_n (j := 68) C 3 dX3_move_67 rfl rfl rfl ?_
  refine wd_get (j := 71) (q0 := 0) (f := 3) (ci := 3) (v := .ref x4) C inX3_move_X3 kX3_move_1 rfl (by decide) rfl rfl dX3_move_68 rfl ?_
  refine wd_iload_n (j := 72) C 4 dX3_move_71 rfl rfl rfl ?_
  refine wd_iload (j := 74) C 0 dX3_move_72 rfl rfl ?_
  obtain ⟨g12, h⟩ := grd_some h
  refine wd_iast (j := 75) (q0 := 4) (t0 := 0) (ws' := (w_X3_move x0 x1 x2 x3 x4 x5 x6 x7 cI cD wk (upd rot (pos p1.toNatClampNeg).toNatClampNeg u10) (upd arv (nbr u3.toNatClampNeg).toNatClampNeg ((arv (nbr u3.toNatClampNeg).toNatClampNeg) + (1 : Int32))) (upd dep u3.toNatClampNeg ((dep u3.toNatClampNeg) + (1 : Int32))) (upd pos p1.toNatClampNeg (nbr u3.toNatClampNeg)) nodes links deg nbr)) C rfl rfl (inB_in g12) rfl dX3_move_74 rfl ?_
  obtain rfl := Option.some.inj h
  exact wd_vret C hA hr hlk rfl dX3_move_75
