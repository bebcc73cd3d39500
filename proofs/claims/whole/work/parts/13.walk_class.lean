abbrev w_X4_append (ad : Nat → Nat) (cI cD : ClassId) (hask : Int32) (len : Int32) (codes : Nat → Int32) : va_W := [((ad 0), .inr (4, [.ref (ad 1), .ref (ad 3), .ref (ad 6), .ref (ad 11), .int hask, .ref (ad 16), .ref (ad 18), .ref (ad 20), .ref (ad 21), .ref (ad 22), .ref (ad 23)])), ((ad 1), .inr (1, [.ref (ad 2), .int len])), ((ad 2), .inl (cI, 40, .inl codes))]
theorem kX4_append_1 : Cond.fieldLink "RotorRouter" 12 "RotorRouter" "input" "LRotorRouter$InputText;" ∈ wsX4_append := List.mem_of_getElem? (i := 1) rfl
theorem kX4_append_2 : Cond.fieldLink "RotorRouter" 61 "RotorRouter$InputText" "length" "I" ∈ wsX4_append := List.mem_of_getElem? (i := 2) rfl
theorem kX4_append_3 : Cond.fieldLink "RotorRouter" 65 "RotorRouter$InputText" "codes" "[I" ∈ wsX4_append := List.mem_of_getElem? (i := 3) rfl
theorem inX4_append_X4 : ∀ w ∈ wsX40, w ∈ wsX4_append := fun _ h => List.mem_cons_of_mem _ (List.mem_append_left _ (List.mem_append_right _ h))
theorem inX4_append_X1 : ∀ w ∈ wsX10, w ∈ wsX4_append := fun _ h => List.mem_cons_of_mem _ (List.mem_append_right _ h)
set_option maxRecDepth 100000 in
set_option maxHeartbeats 4000000 in
theorem c_X4_append (l : Launch) (D : va_G) (cI cD : ClassId) (ad : Nat → Nat) (hask : Int32) (len : Int32) (codes : Nat → Int32) (p1 : Int32) (u : Int32 × Int32 × (Nat → Int32)) (h : f_X4_append len codes p1 = some u) : MetI l yX4_append wsX4_append { frames := 0, cells := 0, slots := 0, locals := 0 } D [(cI, .int), (cD, .double)] [.ref (ad 0), .int p1] (w_X4_append ad cI cD hask len codes) u.1 (w_X4_append ad cI cD hask u.2.1 u.2.2) := by
  refine MetI.of (own := RX4) (cc := cX4_append) (nL := 2) (ret := (some .int)) (by decide) rfl rfl (Nat.le_of_ble_eq_true rfl) rfl ?_
  intro p e s m args below meth c A hA C hr hlk
  unfold f_X4_append at h
  refine wd_iload_n (j := 1) C 1 dX4_append_0 rfl rfl rfl ?_
  refine wd_bipush (j := 3) (v := 32) C dX4_append_1 (by decide) rfl ?_
  refine wd_icmp_lt (j := 6) (t := 12) C dX4_append_3 (by decide) rfl (fun c1 => ?_) (fun c1 => ?_)
  · replace h := (if_pos c1).symm.trans h
    refine wd_iconst (j := 13) (v := -1) C dX4_append_12 (by decide) rfl ?_
    obtain rfl := Option.some.inj h
    exact wd_iret C hA hr hlk rfl rfl rfl dX4_append_13
  · replace h := (if_neg c1).symm.trans h
    refine wd_iload_n (j := 7) C 1 dX4_append_6 rfl rfl rfl ?_
    refine wd_bipush (j := 9) (v := 126) C dX4_append_7 (by decide) rfl ?_
    refine wd_icmp_le (j := 12) (t := 14) C dX4_append_9 (by decide) rfl (fun c2 => ?_) (fun c2 => ?_)
    · replace h := (if_pos c2).symm.trans h
      refine wd_aload_n (j := 15) C 0 dX4_append_14 rfl rfl rfl ?_
      refine wd_get (j := 18) (q0 := 0) (f := 0) (ci := 4) (v := .ref (ad 1)) C inX4_append_X4 kX4_append_1 rfl (by decide) rfl rfl dX4_append_15 rfl ?_
      refine wd_get (j := 21) (q0 := 1) (f := 1) (ci := 1) (v := .int len) C inX4_append_X1 kX4_append_2 rfl (by decide) rfl rfl dX4_append_18 rfl ?_
      refine wd_bipush (j := 23) (v := 40) C dX4_append_21 (by decide) rfl ?_
      refine wd_icmp_lt (j := 26) (t := 29) C dX4_append_23 (by decide) rfl (fun c3 => ?_) (fun c3 => ?_)
      · replace h := (if_pos c3).symm.trans h
        refine wd_aload_n (j := 30) C 0 dX4_append_29 rfl rfl rfl ?_
        refine wd_get (j := 33) (q0 := 0) (f := 0) (ci := 4) (v := .ref (ad 1)) C inX4_append_X4 kX4_append_1 rfl (by decide) rfl rfl dX4_append_30 rfl ?_
        refine wd_get (j := 36) (q0 := 1) (f := 0) (ci := 1) (v := .ref (ad 2)) C inX4_append_X1 kX4_append_3 rfl (by decide) rfl rfl dX4_append_33 rfl ?_
        refine wd_aload_n (j := 37) C 0 dX4_append_36 rfl rfl rfl ?_
        refine wd_get (j := 40) (q0 := 0) (f := 0) (ci := 4) (v := .ref (ad 1)) C inX4_append_X4 kX4_append_1 rfl (by decide) rfl rfl dX4_append_37 rfl ?_
        refine wd_get (j := 43) (q0 := 1) (f := 1) (ci := 1) (v := .int len) C inX4_append_X1 kX4_append_2 rfl (by decide) rfl rfl dX4_append_40 rfl ?_
        refine wd_iload_n (j := 44) C 1 dX4_append_43 rfl rfl rfl ?_
        obtain ⟨g4, h⟩ := grd_some h
        refine wd_iast (j := 45) (q0 := 2) (t0 := 0) (ws' := (w_X4_append ad cI cD hask len (upd codes len.toNatClampNeg p1))) C rfl rfl (inB_in g4) rfl dX4_append_44 rfl ?_
        refine wd_aload_n (j := 46) C 0 dX4_append_45 rfl rfl rfl ?_
        refine wd_get (j := 49) (q0 := 0) (f := 0) (ci := 4) (v := .ref (ad 1)) C inX4_append_X4 kX4_append_1 rfl (by decide) rfl rfl dX4_append_46 rfl ?_
        refine wd_dup (j := 50) C dX4_append_49 rfl rfl ?_
        refine wd_get (j := 53) (q0 := 1) (f := 1) (ci := 1) (v := .int len) C inX4_append_X1 kX4_append_2 rfl (by decide) rfl rfl dX4_append_50 rfl ?_
        refine wd_iconst (j := 54) (v := 1) C dX4_append_53 (by decide) rfl ?_
        refine wd_iadd (j := 55) C dX4_append_54 rfl ?_
        refine wd_put (j := 58) (q0 := 1) (f := 1) (ci := 1) (ws' := (w_X4_append ad cI cD hask (len + (1 : Int32)) (upd codes len.toNatClampNeg p1))) C inX4_append_X1 tyX1 tyX1_ok nmX1 kX4_append_2 rfl (by decide) rfl rfl rfl rfl (Nat.le_of_ble_eq_true rfl) rfl dX4_append_55 rfl ?_
        refine wd_aload_n (j := 59) C 0 dX4_append_58 rfl rfl rfl ?_
        refine wd_get (j := 62) (q0 := 0) (f := 0) (ci := 4) (v := .ref (ad 1)) C inX4_append_X4 kX4_append_1 rfl (by decide) rfl rfl dX4_append_59 rfl ?_
        refine wd_get (j := 65) (q0 := 1) (f := 1) (ci := 1) (v := .int (len + (1 : Int32))) C inX4_append_X1 kX4_append_2 rfl (by decide) rfl rfl dX4_append_62 rfl ?_
        obtain rfl := Option.some.inj h
        exact wd_iret C hA hr hlk rfl rfl rfl dX4_append_65
      · replace h := (if_neg c3).symm.trans h
        refine wd_bipush (j := 28) (v := -2) C dX4_append_26 (by decide) rfl ?_
        obtain rfl := Option.some.inj h
        exact wd_iret C hA hr hlk rfl rfl rfl dX4_append_28
    · replace h := (if_neg c2).symm.trans h
      refine wd_iconst (j := 13) (v := -1) C dX4_append_12 (by decide) rfl ?_
      obtain rfl := Option.some.inj h
      exact wd_iret C hA hr hlk rfl rfl rfl dX4_append_13
abbrev w_X4_clearInput (ad : Nat → Nat) (cI cD : ClassId) (hask : Int32) (len : Int32) : va_W := [((ad 0), .inr (4, [.ref (ad 1), .ref (ad 3), .ref (ad 6), .ref (ad 11), .int hask, .ref (ad 16), .ref (ad 18), .ref (ad 20), .ref (ad 21), .ref (ad 22), .ref (ad 23)])), ((ad 1), .inr (1, [.ref (ad 2), .int len]))]
theorem kX4_clearInput_1 : Cond.fieldLink "RotorRouter" 12 "RotorRouter" "input" "LRotorRouter$InputText;" ∈ wsX4_clearInput := List.mem_of_getElem? (i := 1) rfl
theorem kX4_clearInput_2 : Cond.fieldLink "RotorRouter" 61 "RotorRouter$InputText" "length" "I" ∈ wsX4_clearInput := List.mem_of_getElem? (i := 2) rfl
theorem inX4_clearInput_X4 : ∀ w ∈ wsX40, w ∈ wsX4_clearInput := fun _ h => List.mem_cons_of_mem _ (List.mem_append_left _ (List.mem_append_right _ h))
theorem inX4_clearInput_X1 : ∀ w ∈ wsX10, w ∈ wsX4_clearInput := fun _ h => List.mem_cons_of_mem _ (List.mem_append_right _ h)
set_option maxRecDepth 100000 in
set_option maxHeartbeats 4000000 in
theorem c_X4_clearInput (l : Launch) (D : va_G) (cI cD : ClassId) (ad : Nat → Nat) (hask : Int32) (len : Int32)  (u : Int32 × Int32) (h : f_X4_clearInput len = some u) : MetI l yX4_clearInput wsX4_clearInput { frames := 0, cells := 0, slots := 0, locals := 0 } D [(cI, .int), (cD, .double)] [.ref (ad 0)] (w_X4_clearInput ad cI cD hask len) u.1 (w_X4_clearInput ad cI cD hask u.2) := by
  refine MetI.of (own := RX4) (cc := cX4_clearInput) (nL := 2) (ret := (some .int)) (by decide) rfl rfl (Nat.le_of_ble_eq_true rfl) rfl ?_
  intro p e s m args below meth c A hA C hr hlk
  unfold f_X4_clearInput at h
  refine wd_aload_n (j := 1) C 0 dX4_clearInput_0 rfl rfl rfl ?_
  refine wd_get (j := 4) (q0 := 0) (f := 0) (ci := 4) (v := .ref (ad 1)) C inX4_clearInput_X4 kX4_clearInput_1 rfl (by decide) rfl rfl dX4_clearInput_1 rfl ?_
  refine wd_get (j := 7) (q0 := 1) (f := 1) (ci := 1) (v := .int len) C inX4_clearInput_X1 kX4_clearInput_2 rfl (by decide) rfl rfl dX4_clearInput_4 rfl ?_
  refine wd_istore_n (j := 8) (lv' := [(1, .int len), (0, .ref (ad 0))]) C dX4_clearInput_7 rfl (by decide) rfl rfl ?_
  refine wd_aload_n (j := 9) C 1 dX4_clearInput_8 rfl rfl rfl ?_
  refine wd_get (j := 12) (q0 := 0) (f := 0) (ci := 4) (v := .ref (ad 1)) C inX4_clearInput_X4 kX4_clearInput_1 rfl (by decide) rfl rfl dX4_clearInput_9 rfl ?_
  refine wd_iconst (j := 13) (v := 0) C dX4_clearInput_12 (by decide) rfl ?_
  refine wd_put (j := 16) (q0 := 1) (f := 1) (ci := 1) (ws' := (w_X4_clearInput ad cI cD hask (0 : Int32))) C inX4_clearInput_X1 tyX1 tyX1_ok nmX1 kX4_clearInput_2 rfl (by decide) rfl rfl rfl rfl (Nat.le_of_ble_eq_true rfl) rfl dX4_clearInput_13 rfl ?_
  refine wd_iload_n (j := 17) C 0 dX4_clearInput_16 rfl rfl rfl ?_
  obtain rfl := Option.some.inj h
  exact wd_iret C hA hr hlk rfl rfl rfl dX4_clearInput_17
abbrev w_X4_firstError (ad : Nat → Nat) (cI cD : ClassId) (hask : Int32) (len : Int32) (codes : Nat → Int32) : va_W := [((ad 0), .inr (4, [.ref (ad 1), .ref (ad 3), .ref (ad 6), .ref (ad 11), .int hask, .ref (ad 16), .ref (ad 18), .ref (ad 20), .ref (ad 21), .ref (ad 22), .ref (ad 23)])), ((ad 1), .inr (1, [.ref (ad 2), .int len])), ((ad 2), .inl (cI, 40, .inl codes))]
theorem kX4_firstError_1 : Cond.fieldLink "RotorRouter" 12 "RotorRouter" "input" "LRotorRouter$InputText;" ∈ wsX4_firstError := List.mem_of_getElem? (i := 1) rfl
theorem inX4_firstError_X4 : ∀ w ∈ wsX40, w ∈ wsX4_firstError := fun _ h => List.mem_cons_of_mem _ (List.mem_append_left _ (List.mem_append_right _ h))
set_option maxRecDepth 100000 in
set_option maxHeartbeats 4000000 in
theorem c_X4_firstError (l : Launch) (D : va_G) (cI cD : ClassId) (ad : Nat → Nat) (N : Nat) (hask : Int32) (len : Int32) (codes : Nat → Int32)  (u : Int32) (h : f_X4_firstError N len codes = some u) : MetI l yX4_firstError wsX4_firstError { frames := 3, cells := 0, slots := 0, locals := 70 } D [(cI, .int), (cD, .double)] [.ref (ad 0)] (w_X4_firstError ad cI cD hask len codes) u (w_X4_firstError ad cI cD hask len codes) := by
  refine MetI.of (own := RX4) (cc := cX4_firstError) (nL := 1) (ret := (some .int)) (by decide) rfl rfl (Nat.le_of_ble_eq_true rfl) rfl ?_
  intro p e s m args below meth c A hA C hr hlk
  unfold f_X4_firstError at h
  refine wd_aload_n (j := 1) C 0 dX4_firstError_0 rfl rfl rfl ?_
  refine wd_get (j := 4) (q0 := 0) (f := 0) (ci := 4) (v := .ref (ad 1)) C inX4_firstError_X4 kX4_firstError_1 rfl (by decide) rfl rfl dX4_firstError_1 rfl ?_
  obtain ⟨u1, hu1, h⟩ := bnd_some h
  refine wd_callVi (j := 7) (q0 := 0) (ci := 1) (As := []) (rest := []) (ws' := (w_X4_firstError ad cI cD hask len codes)) C (c_X1_firstBrokenIndex l D cI cD (ad 1) (ad 2) N len codes u1 hu1) (cwV 0 C.1.2.2.2.2 gX4_firstError_X1_firstBrokenIndex rfl rfl rfl (by decide +kernel) ⟨Nat.le_of_ble_eq_true rfl, Nat.le_of_ble_eq_true rfl⟩) rfl rfl [1, 2] [0] rfl rfl rfl rfl (by decide) [0, 1, 2] rfl rfl rfl (Nat.le_of_ble_eq_true rfl) (Nat.le_of_ble_eq_true rfl) (Nat.le_of_ble_eq_true rfl) dX4_firstError_4 rfl ?_
  obtain rfl := Option.some.inj h
  exact wd_iret C hA hr hlk rfl rfl rfl dX4_firstError_7
abbrev w_X4_load (ad : Nat → Nat) (cI cD : ClassId) (hask : Int32) (len : Int32) (codes : Nat → Int32) (nodes : Int32) (links : Int32) (deg : Nat → Int32) (nbr : Nat → Int32) (wk : Int32) (rot : Nat → Int32) (arv : Nat → Int32) (dep : Nat → Int32) : va_W := [((ad 0), .inr (4, [.ref (ad 1), .ref (ad 3), .ref (ad 6), .ref (ad 11), .int hask, .ref (ad 16), .ref (ad 18), .ref (ad 20), .ref (ad 21), .ref (ad 22), .ref (ad 23)])), ((ad 1), .inr (1, [.ref (ad 2), .int len])), ((ad 2), .inl (cI, 40, .inl codes)), ((ad 3), .inr (0, [.ref (ad 4), .ref (ad 5), .int nodes, .int links])), ((ad 4), .inl (cI, 8, .inl deg)), ((ad 5), .inl (cI, 56, .inl nbr)), ((ad 6), .inr (3, [.ref (ad 7), .ref (ad 8), .ref (ad 9), .ref (ad 10), .int wk])), ((ad 7), .inl (cI, 8, .inl rot)), ((ad 8), .inl (cI, 8, .inl arv)), ((ad 9), .inl (cI, 56, .inl dep))]
theorem kX4_load_1 : Cond.fieldLink "RotorRouter" 12 "RotorRouter" "input" "LRotorRouter$InputText;" ∈ wsX4_load := List.mem_of_getElem? (i := 1) rfl
theorem kX4_load_2 : Cond.fieldLink "RotorRouter" 19 "RotorRouter" "graph" "LRotorRouter$Graph;" ∈ wsX4_load := List.mem_of_getElem? (i := 2) rfl
theorem kX4_load_3 : Cond.fieldLink "RotorRouter" 26 "RotorRouter" "current" "LRotorRouter$State;" ∈ wsX4_load := List.mem_of_getElem? (i := 3) rfl
theorem kX4_load_4 : Cond.fieldLink "RotorRouter" 33 "RotorRouter" "hasKept" "Z" ∈ wsX4_load := List.mem_of_getElem? (i := 4) rfl
theorem kX4_load_5 : Cond.fieldLink "RotorRouter" 61 "RotorRouter$InputText" "length" "I" ∈ wsX4_load := List.mem_of_getElem? (i := 5) rfl
theorem kX4_load_6 : Cond.fieldLink "RotorRouter" 86 "RotorRouter$Graph" "nodes" "I" ∈ wsX4_load := List.mem_of_getElem? (i := 6) rfl
theorem inX4_load_X4 : ∀ w ∈ wsX40, w ∈ wsX4_load := fun _ h => List.mem_cons_of_mem _ (List.mem_append_left _ (List.mem_append_left _ (List.mem_append_left _ (List.mem_append_right _ h))))
theorem inX4_load_X1 : ∀ w ∈ wsX10, w ∈ wsX4_load := fun _ h => List.mem_cons_of_mem _ (List.mem_append_left _ (List.mem_append_left _ (List.mem_append_right _ h)))
theorem inX4_load_X0 : ∀ w ∈ wsX00, w ∈ wsX4_load := fun _ h => List.mem_cons_of_mem _ (List.mem_append_left _ (List.mem_append_right _ h))
set_option maxRecDepth 100000 in
set_option maxHeartbeats 4000000 in
theorem c_X4_load (l : Launch) (D : va_G) (cI cD : ClassId) (ad : Nat → Nat) (N : Nat) (hask : Int32) (len : Int32) (codes : Nat → Int32) (nodes : Int32) (links : Int32) (deg : Nat → Int32) (nbr : Nat → Int32) (wk : Int32) (rot : Nat → Int32) (arv : Nat → Int32) (dep : Nat → Int32)  (u : Int32 × Int32 × Int32 × Int32 × Int32 × (Nat → Int32) × (Nat → Int32) × Int32 × (Nat → Int32) × (Nat → Int32) × (Nat → Int32)) (h : f_X4_load N hask len codes nodes links deg nbr wk rot arv dep = some u) : MetI l yX4_load wsX4_load { frames := 4, cells := 0, slots := 0, locals := 90 } D [(cI, .int), (cD, .double)] [.ref (ad 0)] (w_X4_load ad cI cD hask len codes nodes links deg nbr wk rot arv dep) u.1 (w_X4_load ad cI cD u.2.1 u.2.2.1 codes u.2.2.2.1 u.2.2.2.2.1 u.2.2.2.2.2.1 u.2.2.2.2.2.2.1 u.2.2.2.2.2.2.2.1 u.2.2.2.2.2.2.2.2.1 u.2.2.2.2.2.2.2.2.2.1 u.2.2.2.2.2.2.2.2.2.2) := by
  refine MetI.of (own := RX4) (cc := cX4_load) (nL := 1) (ret := (some .int)) (by decide) rfl rfl (Nat.le_of_ble_eq_true rfl) rfl ?_
  intro p e s m args below meth c A hA C hr hlk
  unfold f_X4_load at h
  refine wd_aload_n (j := 1) C 0 dX4_load_0 rfl rfl rfl ?_
  refine wd_get (j := 4) (q0 := 0) (f := 0) (ci := 4) (v := .ref (ad 1)) C inX4_load_X4 kX4_load_1 rfl (by decide) rfl rfl dX4_load_1 rfl ?_
  obtain ⟨u1, hu1, h⟩ := bnd_some h
  refine wd_callVi (j := 7) (q0 := 0) (ci := 1) (As := []) (rest := []) (ws' := (w_X4_load ad cI cD hask len codes nodes links deg nbr wk rot arv dep)) C (c_X1_isComplete l D cI cD (ad 1) (ad 2) N len codes u1 hu1) (cwV 0 C.1.2.2.2.2 gX4_load_X1_isComplete rfl rfl rfl (by decide +kernel) ⟨Nat.le_of_ble_eq_true rfl, Nat.le_of_ble_eq_true rfl⟩) rfl rfl [1, 2] [0, 3, 4, 5, 6, 7, 8, 9] rfl rfl rfl rfl (by decide) [0, 8, 9, 1, 2, 3, 4, 5, 6, 7] rfl rfl rfl (Nat.le_of_ble_eq_true rfl) (Nat.le_of_ble_eq_true rfl) (Nat.le_of_ble_eq_true rfl) dX4_load_4 rfl ?_
  refine wd_if_eq (j := 10) (t := 20) C dX4_load_7 (by decide) rfl (fun c2 => ?_) (fun c2 => ?_)
  · replace h := (if_pos c2).symm.trans h
    refine wd_bipush (j := 22) (v := -3) C dX4_load_20 (by decide) rfl ?_
    obtain rfl := Option.some.inj h
    exact wd_iret C hA hr hlk rfl rfl rfl dX4_load_22
  · replace h := (if_neg c2).symm.trans h
    refine wd_aload_n (j := 11) C 0 dX4_load_10 rfl rfl rfl ?_
    refine wd_get (j := 14) (q0 := 0) (f := 0) (ci := 4) (v := .ref (ad 1)) C inX4_load_X4 kX4_load_1 rfl (by decide) rfl rfl dX4_load_11 rfl ?_
    obtain ⟨u3, hu3, h⟩ := bnd_some h
    refine wd_callVi (j := 17) (q0 := 0) (ci := 1) (As := []) (rest := []) (ws' := (w_X4_load ad cI cD hask len codes nodes links deg nbr wk rot arv dep)) C (c_X1_isConnected l D cI cD (ad 1) (ad 2) N len codes u3 hu3) (cwV 0 C.1.2.2.2.2 gX4_load_X1_isConnected rfl rfl rfl (by decide +kernel) ⟨Nat.le_of_ble_eq_true rfl, Nat.le_of_ble_eq_true rfl⟩) rfl rfl [1, 2] [0, 3, 4, 5, 6, 7, 8, 9] rfl rfl rfl rfl (by decide) [0, 8, 9, 1, 2, 3, 4, 5, 6, 7] rfl rfl rfl (Nat.le_of_ble_eq_true rfl) (Nat.le_of_ble_eq_true rfl) (Nat.le_of_ble_eq_true rfl) dX4_load_14 rfl ?_
    refine wd_if_ne (j := 20) (t := 23) C dX4_load_17 (by decide) rfl (fun c4 => ?_) (fun c4 => ?_)
    · replace h := (if_neg c4).symm.trans h
      refine wd_aload_n (j := 24) C 0 dX4_load_23 rfl rfl rfl ?_
      refine wd_get (j := 27) (q0 := 0) (f := 1) (ci := 4) (v := .ref (ad 3)) C inX4_load_X4 kX4_load_2 rfl (by decide) rfl rfl dX4_load_24 rfl ?_
      refine wd_aload_n (j := 28) C 0 dX4_load_27 rfl rfl rfl ?_
      refine wd_get (j := 31) (q0 := 0) (f := 0) (ci := 4) (v := .ref (ad 1)) C inX4_load_X4 kX4_load_1 rfl (by decide) rfl rfl dX4_load_28 rfl ?_
      obtain ⟨u5, hu5, h⟩ := bnd_some h
      refine wd_callVv (j := 34) (q0 := 0) (ci := 0) (As := [.ref (ad 1)]) (rest := []) (ws' := (w_X4_load ad cI cD hask len codes u5.1 u5.2.1 u5.2.2.1 u5.2.2.2 wk rot arv dep)) C (c_X0_build l D cI cD (ad 3) (ad 4) (ad 5) (ad 1) (ad 2) N nodes links deg nbr len codes u5 hu5) (cwV 1 C.1.2.2.2.2 gX4_load_X0_build rfl rfl rfl (by decide +kernel) ⟨Nat.le_of_ble_eq_true rfl, Nat.le_of_ble_eq_true rfl⟩) rfl rfl [3, 4, 5, 1, 2] [0, 6, 7, 8, 9] rfl rfl rfl rfl (by decide) [0, 8, 9, 5, 6, 7, 1, 2, 3, 4] rfl rfl rfl (Nat.le_of_ble_eq_true rfl) (Nat.le_of_ble_eq_true rfl) (Nat.le_of_ble_eq_true rfl) dX4_load_31 rfl ?_
      refine wd_aload_n (j := 35) C 0 dX4_load_34 rfl rfl rfl ?_
      refine wd_get (j := 38) (q0 := 0) (f := 2) (ci := 4) (v := .ref (ad 6)) C inX4_load_X4 kX4_load_3 rfl (by decide) rfl rfl dX4_load_35 rfl ?_
      obtain ⟨u6, hu6, h⟩ := bnd_some h
      refine wd_callVv (j := 41) (q0 := 0) (ci := 3) (As := []) (rest := []) (ws' := (w_X4_load ad cI cD hask len codes u5.1 u5.2.1 u5.2.2.1 u5.2.2.2 u6.1 u6.2.1 u6.2.2.1 u6.2.2.2)) C (c_X3_reset l D cI cD (ad 6) (ad 7) (ad 8) (ad 9) (ad 10) N wk rot arv dep u6 hu6) (cwV 0 C.1.2.2.2.2 gX4_load_X3_reset rfl rfl rfl (by decide +kernel) ⟨Nat.le_of_ble_eq_true rfl, Nat.le_of_ble_eq_true rfl⟩) rfl rfl [6, 7, 8, 9] [0, 1, 2, 3, 4, 5] rfl rfl rfl rfl (by decide) [0, 1, 2, 3, 4, 5, 6, 7, 8, 9] rfl rfl rfl (Nat.le_of_ble_eq_true rfl) (Nat.le_of_ble_eq_true rfl) (Nat.le_of_ble_eq_true rfl) dX4_load_38 rfl ?_
      refine wd_aload_n (j := 42) C 0 dX4_load_41 rfl rfl rfl ?_
      refine wd_iconst (j := 43) (v := 0) C dX4_load_42 (by decide) rfl ?_
      refine wd_put (j := 46) (q0 := 0) (f := 4) (ci := 4) (ws' := (w_X4_load ad cI cD (0 : Int32) len codes u5.1 u5.2.1 u5.2.2.1 u5.2.2.2 u6.1 u6.2.1 u6.2.2.1 u6.2.2.2)) C inX4_load_X4 tyX4 tyX4_ok nmX4 kX4_load_4 rfl (by decide) rfl rfl rfl rfl (Nat.le_of_ble_eq_true rfl) rfl dX4_load_43 rfl ?_
      refine wd_aload_n (j := 47) C 0 dX4_load_46 rfl rfl rfl ?_
      refine wd_get (j := 50) (q0 := 0) (f := 0) (ci := 4) (v := .ref (ad 1)) C inX4_load_X4 kX4_load_1 rfl (by decide) rfl rfl dX4_load_47 rfl ?_
      refine wd_iconst (j := 51) (v := 0) C dX4_load_50 (by decide) rfl ?_
      refine wd_put (j := 54) (q0 := 1) (f := 1) (ci := 1) (ws' := (w_X4_load ad cI cD (0 : Int32) (0 : Int32) codes u5.1 u5.2.1 u5.2.2.1 u5.2.2.2 u6.1 u6.2.1 u6.2.2.1 u6.2.2.2)) C inX4_load_X1 tyX1 tyX1_ok nmX1 kX4_load_5 rfl (by decide) rfl rfl rfl rfl (Nat.le_of_ble_eq_true rfl) rfl dX4_load_51 rfl ?_
      refine wd_aload_n (j := 55) C 0 dX4_load_54 rfl rfl rfl ?_
      refine wd_get (j := 58) (q0 := 0) (f := 1) (ci := 4) (v := .ref (ad 3)) C inX4_load_X4 kX4_load_2 rfl (by decide) rfl rfl dX4_load_55 rfl ?_
      refine wd_get (j := 61) (q0 := 3) (f := 2) (ci := 0) (v := .int u5.1) C inX4_load_X0 kX4_load_6 rfl (by decide) rfl rfl dX4_load_58 rfl ?_
      obtain rfl := Option.some.inj h
      exact wd_iret C hA hr hlk rfl rfl rfl dX4_load_61
    · replace h := (if_pos c4).symm.trans h
      refine wd_bipush (j := 22) (v := -3) C dX4_load_20 (by decide) rfl ?_
      obtain rfl := Option.some.inj h
      exact wd_iret C hA hr hlk rfl rfl rfl dX4_load_22
abbrev w_X4_degree (ad : Nat → Nat) (cI cD : ClassId) (hask : Int32) (nodes : Int32) (links : Int32) (deg : Nat → Int32) : va_W := [((ad 0), .inr (4, [.ref (ad 1), .ref (ad 3), .ref (ad 6), .ref (ad 11), .int hask, .ref (ad 16), .ref (ad 18), .ref (ad 20), .ref (ad 21), .ref (ad 22), .ref (ad 23)])), ((ad 3), .inr (0, [.ref (ad 4), .ref (ad 5), .int nodes, .int links])), ((ad 4), .inl (cI, 8, .inl deg))]
theorem kX4_degree_1 : Cond.fieldLink "RotorRouter" 19 "RotorRouter" "graph" "LRotorRouter$Graph;" ∈ wsX4_degree := List.mem_of_getElem? (i := 1) rfl
theorem kX4_degree_2 : Cond.fieldLink "RotorRouter" 93 "RotorRouter$Graph" "degrees" "[I" ∈ wsX4_degree := List.mem_of_getElem? (i := 2) rfl
theorem inX4_degree_X4 : ∀ w ∈ wsX40, w ∈ wsX4_degree := fun _ h => List.mem_cons_of_mem _ (List.mem_append_left _ (List.mem_append_right _ h))
theorem inX4_degree_X0 : ∀ w ∈ wsX00, w ∈ wsX4_degree := fun _ h => List.mem_cons_of_mem _ (List.mem_append_right _ h)
set_option maxRecDepth 100000 in
set_option maxHeartbeats 4000000 in
theorem c_X4_degree (l : Launch) (D : va_G) (cI cD : ClassId) (ad : Nat → Nat) (hask : Int32) (nodes : Int32) (links : Int32) (deg : Nat → Int32) (p1 : Int32) (u : Int32) (h : f_X4_degree nodes deg p1 = some u) : MetI l yX4_degree wsX4_degree { frames := 1, cells := 0, slots := 0, locals := 21 } D [(cI, .int), (cD, .double)] [.ref (ad 0), .int p1] (w_X4_degree ad cI cD hask nodes links deg) u (w_X4_degree ad cI cD hask nodes links deg) := by
  refine MetI.of (own := RX4) (cc := cX4_degree) (nL := 2) (ret := (some .int)) (by decide) rfl rfl (Nat.le_of_ble_eq_true rfl) rfl ?_
  intro p e s m args below meth c A hA C hr hlk
  unfold f_X4_degree at h
  refine wd_aload_n (j := 1) C 0 dX4_degree_0 rfl rfl rfl ?_
  refine wd_get (j := 4) (q0 := 0) (f := 1) (ci := 4) (v := .ref (ad 3)) C inX4_degree_X4 kX4_degree_1 rfl (by decide) rfl rfl dX4_degree_1 rfl ?_
  refine wd_iload_n (j := 5) C 1 dX4_degree_4 rfl rfl rfl ?_
  obtain ⟨u1, hu1, h⟩ := bnd_some h
  refine wd_callVi (j := 8) (q0 := 0) (ci := 0) (As := [.int p1]) (rest := []) (ws' := (w_X4_degree ad cI cD hask nodes links deg)) C (c_X0_hasNode l D cI cD (ad 3) (ad 4) (ad 5) nodes links p1 u1 hu1) (cwV 1 C.1.2.2.2.2 gX4_degree_X0_hasNode rfl rfl rfl (by decide +kernel) ⟨Nat.le_of_ble_eq_true rfl, Nat.le_of_ble_eq_true rfl⟩) rfl rfl [1] [0, 2] rfl rfl rfl rfl (by decide) [0, 2, 1] rfl rfl rfl (Nat.le_of_ble_eq_true rfl) (Nat.le_of_ble_eq_true rfl) (Nat.le_of_ble_eq_true rfl) dX4_degree_5 rfl ?_
  refine wd_if_ne (j := 11) (t := 14) C dX4_degree_8 (by decide) rfl (fun c2 => ?_) (fun c2 => ?_)
  · replace h := (if_neg c2).symm.trans h
    refine wd_aload_n (j := 15) C 0 dX4_degree_14 rfl rfl rfl ?_
    refine wd_get (j := 18) (q0 := 0) (f := 1) (ci := 4) (v := .ref (ad 3)) C inX4_degree_X4 kX4_degree_1 rfl (by decide) rfl rfl dX4_degree_15 rfl ?_
    refine wd_get (j := 21) (q0 := 1) (f := 0) (ci := 0) (v := .ref (ad 4)) C inX4_degree_X0 kX4_degree_2 rfl (by decide) rfl rfl dX4_degree_18 rfl ?_
    refine wd_iload_n (j := 22) C 1 dX4_degree_21 rfl rfl rfl ?_
    obtain ⟨g3, h⟩ := grd_some h
    refine wd_iald (j := 23) (q0 := 2) (t0 := 0) C rfl rfl (inB_in g3) dX4_degree_22 rfl ?_
    obtain rfl := Option.some.inj h
    exact wd_iret C hA hr hlk rfl rfl rfl dX4_degree_23
  · replace h := (if_pos c2).symm.trans h
    refine wd_bipush (j := 13) (v := -4) C dX4_degree_11 (by decide) rfl ?_
    obtain rfl := Option.some.inj h
    exact wd_iret C hA hr hlk rfl rfl rfl dX4_degree_13
abbrev w_X4_neighbor (ad : Nat → Nat) (cI cD : ClassId) (hask : Int32) (nodes : Int32) (links : Int32) (deg : Nat → Int32) (nbr : Nat → Int32) : va_W := [((ad 0), .inr (4, [.ref (ad 1), .ref (ad 3), .ref (ad 6), .ref (ad 11), .int hask, .ref (ad 16), .ref (ad 18), .ref (ad 20), .ref (ad 21), .ref (ad 22), .ref (ad 23)])), ((ad 3), .inr (0, [.ref (ad 4), .ref (ad 5), .int nodes, .int links])), ((ad 4), .inl (cI, 8, .inl deg)), ((ad 5), .inl (cI, 56, .inl nbr))]
theorem kX4_neighbor_1 : Cond.fieldLink "RotorRouter" 19 "RotorRouter" "graph" "LRotorRouter$Graph;" ∈ wsX4_neighbor := List.mem_of_getElem? (i := 1) rfl
theorem kX4_neighbor_2 : Cond.fieldLink "RotorRouter" 100 "RotorRouter$Graph" "neighbors" "[I" ∈ wsX4_neighbor := List.mem_of_getElem? (i := 2) rfl
theorem inX4_neighbor_X4 : ∀ w ∈ wsX40, w ∈ wsX4_neighbor := fun _ h => List.mem_cons_of_mem _ (List.mem_append_left _ (List.mem_append_right _ h))
theorem inX4_neighbor_X0 : ∀ w ∈ wsX00, w ∈ wsX4_neighbor := fun _ h => List.mem_cons_of_mem _ (List.mem_append_right _ h)
set_option maxRecDepth 100000 in
set_option maxHeartbeats 4000000 in
theorem c_X4_neighbor (l : Launch) (D : va_G) (cI cD : ClassId) (ad : Nat → Nat) (hask : Int32) (nodes : Int32) (links : Int32) (deg : Nat → Int32) (nbr : Nat → Int32) (p1 : Int32) (p2 : Int32) (u : Int32) (h : f_X4_neighbor nodes deg nbr p1 p2 = some u) : MetI l yX4_neighbor wsX4_neighbor { frames := 2, cells := 0, slots := 0, locals := 43 } D [(cI, .int), (cD, .double)] [.ref (ad 0), .int p1, .int p2] (w_X4_neighbor ad cI cD hask nodes links deg nbr) u (w_X4_neighbor ad cI cD hask nodes links deg nbr) := by
  refine MetI.of (own := RX4) (cc := cX4_neighbor) (nL := 4) (ret := (some .int)) (by decide) rfl rfl (Nat.le_of_ble_eq_true rfl) rfl ?_
  intro p e s m args below meth c A hA C hr hlk
  unfold f_X4_neighbor at h
  refine wd_aload_n (j := 1) C 0 dX4_neighbor_0 rfl rfl rfl ?_
  refine wd_get (j := 4) (q0 := 0) (f := 1) (ci := 4) (v := .ref (ad 3)) C inX4_neighbor_X4 kX4_neighbor_1 rfl (by decide) rfl rfl dX4_neighbor_1 rfl ?_
  refine wd_iload_n (j := 5) C 1 dX4_neighbor_4 rfl rfl rfl ?_
  refine wd_iload_n (j := 6) C 2 dX4_neighbor_5 rfl rfl rfl ?_
  obtain ⟨u1, hu1, h⟩ := bnd_some h
  refine wd_callVi (j := 9) (q0 := 0) (ci := 0) (As := [.int p1, .int p2]) (rest := []) (ws' := (w_X4_neighbor ad cI cD hask nodes links deg nbr)) C (c_X0_neighborError l D cI cD (ad 3) (ad 4) (ad 5) nodes links deg p1 p2 u1 hu1) (cwV 2 C.1.2.2.2.2 gX4_neighbor_X0_neighborError rfl rfl rfl (by decide +kernel) ⟨Nat.le_of_ble_eq_true rfl, Nat.le_of_ble_eq_true rfl⟩) rfl rfl [1, 2] [0, 3] rfl rfl rfl rfl (by decide) [0, 2, 3, 1] rfl rfl rfl (Nat.le_of_ble_eq_true rfl) (Nat.le_of_ble_eq_true rfl) (Nat.le_of_ble_eq_true rfl) dX4_neighbor_6 rfl ?_
  refine wd_istore_n (j := 10) (lv' := [(3, .int u1), (0, .ref (ad 0)), (1, .int p1), (2, .int p2)]) C dX4_neighbor_9 rfl (by decide) rfl rfl ?_
  refine wd_iload_n (j := 11) C 0 dX4_neighbor_10 rfl rfl rfl ?_
  refine wd_if_eq (j := 14) (t := 16) C dX4_neighbor_11 (by decide) rfl (fun c2 => ?_) (fun c2 => ?_)
  · replace h := (if_pos c2).symm.trans h
    refine wd_aload_n (j := 17) C 1 dX4_neighbor_16 rfl rfl rfl ?_
    refine wd_get (j := 20) (q0 := 0) (f := 1) (ci := 4) (v := .ref (ad 3)) C inX4_neighbor_X4 kX4_neighbor_1 rfl (by decide) rfl rfl dX4_neighbor_17 rfl ?_
    refine wd_get (j := 23) (q0 := 1) (f := 1) (ci := 0) (v := .ref (ad 5)) C inX4_neighbor_X0 kX4_neighbor_2 rfl (by decide) rfl rfl dX4_neighbor_20 rfl ?_
    refine wd_iload_n (j := 24) C 2 dX4_neighbor_23 rfl rfl rfl ?_
    refine wd_iload_n (j := 25) C 3 dX4_neighbor_24 rfl rfl rfl ?_
    obtain ⟨u3, hu3, h⟩ := bnd_some h
    refine wd_callSi (j := 28) (As := [.int p1, .int p2]) (rest := [.ref (ad 5)]) (ws' := (w_X4_neighbor ad cI cD hask nodes links deg nbr)) C (c_X0_slot l D cI cD p1 p2 u3 hu3) (va_cwS 2 C.1.2.2.2.2 gX4_neighbor_X0_slot rfl rfl rfl (by decide +kernel) ⟨Nat.le_of_ble_eq_true rfl, Nat.le_of_ble_eq_true rfl⟩) [] [0, 1, 2, 3] rfl rfl rfl rfl (by decide) [0, 1, 2, 3] rfl rfl rfl (Nat.le_of_ble_eq_true rfl) (Nat.le_of_ble_eq_true rfl) (Nat.le_of_ble_eq_true rfl) dX4_neighbor_25 rfl ?_
    obtain ⟨g4, h⟩ := grd_some h
    refine wd_iald (j := 29) (q0 := 3) (t0 := 0) C rfl rfl (inB_in g4) dX4_neighbor_28 rfl ?_
    obtain rfl := Option.some.inj h
    exact wd_iret C hA hr hlk rfl rfl rfl dX4_neighbor_29
  · replace h := (if_neg c2).symm.trans h
    refine wd_iload_n (j := 15) C 0 dX4_neighbor_14 rfl rfl rfl ?_
    obtain rfl := Option.some.inj h
    exact wd_iret C hA hr hlk rfl rfl rfl dX4_neighbor_15
abbrev w_X4_rotor (ad : Nat → Nat) (cI cD : ClassId) (hask : Int32) (nodes : Int32) (links : Int32) (wk : Int32) (rot : Nat → Int32) : va_W := [((ad 0), .inr (4, [.ref (ad 1), .ref (ad 3), .ref (ad 6), .ref (ad 11), .int hask, .ref (ad 16), .ref (ad 18), .ref (ad 20), .ref (ad 21), .ref (ad 22), .ref (ad 23)])), ((ad 3), .inr (0, [.ref (ad 4), .ref (ad 5), .int nodes, .int links])), ((ad 6), .inr (3, [.ref (ad 7), .ref (ad 8), .ref (ad 9), .ref (ad 10), .int wk])), ((ad 7), .inl (cI, 8, .inl rot))]
theorem kX4_rotor_1 : Cond.fieldLink "RotorRouter" 19 "RotorRouter" "graph" "LRotorRouter$Graph;" ∈ wsX4_rotor := List.mem_of_getElem? (i := 1) rfl
theorem kX4_rotor_2 : Cond.fieldLink "RotorRouter" 26 "RotorRouter" "current" "LRotorRouter$State;" ∈ wsX4_rotor := List.mem_of_getElem? (i := 2) rfl
theorem kX4_rotor_3 : Cond.fieldLink "RotorRouter" 106 "RotorRouter$State" "rotors" "[I" ∈ wsX4_rotor := List.mem_of_getElem? (i := 3) rfl
theorem inX4_rotor_X4 : ∀ w ∈ wsX40, w ∈ wsX4_rotor := fun _ h => List.mem_cons_of_mem _ (List.mem_append_left _ (List.mem_append_left _ (List.mem_append_right _ h)))
theorem inX4_rotor_X3 : ∀ w ∈ wsX30, w ∈ wsX4_rotor := fun _ h => List.mem_cons_of_mem _ (List.mem_append_left _ (List.mem_append_right _ h))
set_option maxRecDepth 100000 in
set_option maxHeartbeats 4000000 in
theorem c_X4_rotor (l : Launch) (D : va_G) (cI cD : ClassId) (ad : Nat → Nat) (hask : Int32) (nodes : Int32) (links : Int32) (wk : Int32) (rot : Nat → Int32) (p1 : Int32) (u : Int32) (h : f_X4_rotor nodes rot p1 = some u) : MetI l yX4_rotor wsX4_rotor { frames := 1, cells := 0, slots := 0, locals := 21 } D [(cI, .int), (cD, .double)] [.ref (ad 0), .int p1] (w_X4_rotor ad cI cD hask nodes links wk rot) u (w_X4_rotor ad cI cD hask nodes links wk rot) := by
  refine MetI.of (own := RX4) (cc := cX4_rotor) (nL := 2) (ret := (some .int)) (by decide) rfl rfl (Nat.le_of_ble_eq_true rfl) rfl ?_
  intro p e s m args below meth c A hA C hr hlk
  unfold f_X4_rotor at h
  refine wd_aload_n (j := 1) C 0 dX4_rotor_0 rfl rfl rfl ?_
  refine wd_get (j := 4) (q0 := 0) (f := 1) (ci := 4) (v := .ref (ad 3)) C inX4_rotor_X4 kX4_rotor_1 rfl (by decide) rfl rfl dX4_rotor_1 rfl ?_
  refine wd_iload_n (j := 5) C 1 dX4_rotor_4 rfl rfl rfl ?_
  obtain ⟨u1, hu1, h⟩ := bnd_some h
  refine wd_callVi (j := 8) (q0 := 0) (ci := 0) (As := [.int p1]) (rest := []) (ws' := (w_X4_rotor ad cI cD hask nodes links wk rot)) C (c_X0_hasNode l D cI cD (ad 3) (ad 4) (ad 5) nodes links p1 u1 hu1) (cwV 1 C.1.2.2.2.2 gX4_rotor_X0_hasNode rfl rfl rfl (by decide +kernel) ⟨Nat.le_of_ble_eq_true rfl, Nat.le_of_ble_eq_true rfl⟩) rfl rfl [1] [0, 2, 3] rfl rfl rfl rfl (by decide) [0, 3, 1, 2] rfl rfl rfl (Nat.le_of_ble_eq_true rfl) (Nat.le_of_ble_eq_true rfl) (Nat.le_of_ble_eq_true rfl) dX4_rotor_5 rfl ?_
  refine wd_if_ne (j := 11) (t := 14) C dX4_rotor_8 (by decide) rfl (fun c2 => ?_) (fun c2 => ?_)
  · replace h := (if_neg c2).symm.trans h
    refine wd_aload_n (j := 15) C 0 dX4_rotor_14 rfl rfl rfl ?_
    refine wd_get (j := 18) (q0 := 0) (f := 2) (ci := 4) (v := .ref (ad 6)) C inX4_rotor_X4 kX4_rotor_2 rfl (by decide) rfl rfl dX4_rotor_15 rfl ?_
    refine wd_get (j := 21) (q0 := 2) (f := 0) (ci := 3) (v := .ref (ad 7)) C inX4_rotor_X3 kX4_rotor_3 rfl (by decide) rfl rfl dX4_rotor_18 rfl ?_
    refine wd_iload_n (j := 22) C 1 dX4_rotor_21 rfl rfl rfl ?_
    obtain ⟨g3, h⟩ := grd_some h
    refine wd_iald (j := 23) (q0 := 3) (t0 := 0) C rfl rfl (inB_in g3) dX4_rotor_22 rfl ?_
    obtain rfl := Option.some.inj h
    exact wd_iret C hA hr hlk rfl rfl rfl dX4_rotor_23
  · replace h := (if_pos c2).symm.trans h
    refine wd_bipush (j := 13) (v := -4) C dX4_rotor_11 (by decide) rfl ?_
    obtain rfl := Option.some.inj h
    exact wd_iret C hA hr hlk rfl rfl rfl dX4_rotor_13
abbrev w_X4_setRotor (ad : Nat → Nat) (cI cD : ClassId) (hask : Int32) (nodes : Int32) (links : Int32) (deg : Nat → Int32) (wk : Int32) (rot : Nat → Int32) : va_W := [((ad 0), .inr (4, [.ref (ad 1), .ref (ad 3), .ref (ad 6), .ref (ad 11), .int hask, .ref (ad 16), .ref (ad 18), .ref (ad 20), .ref (ad 21), .ref (ad 22), .ref (ad 23)])), ((ad 3), .inr (0, [.ref (ad 4), .ref (ad 5), .int nodes, .int links])), ((ad 4), .inl (cI, 8, .inl deg)), ((ad 6), .inr (3, [.ref (ad 7), .ref (ad 8), .ref (ad 9), .ref (ad 10), .int wk])), ((ad 7), .inl (cI, 8, .inl rot))]
theorem kX4_setRotor_1 : Cond.fieldLink "RotorRouter" 19 "RotorRouter" "graph" "LRotorRouter$Graph;" ∈ wsX4_setRotor := List.mem_of_getElem? (i := 1) rfl
theorem kX4_setRotor_2 : Cond.fieldLink "RotorRouter" 26 "RotorRouter" "current" "LRotorRouter$State;" ∈ wsX4_setRotor := List.mem_of_getElem? (i := 2) rfl
theorem kX4_setRotor_3 : Cond.fieldLink "RotorRouter" 106 "RotorRouter$State" "rotors" "[I" ∈ wsX4_setRotor := List.mem_of_getElem? (i := 3) rfl
theorem inX4_setRotor_X4 : ∀ w ∈ wsX40, w ∈ wsX4_setRotor := fun _ h => List.mem_cons_of_mem _ (List.mem_append_left _ (List.mem_append_left _ (List.mem_append_right _ h)))
theorem inX4_setRotor_X3 : ∀ w ∈ wsX30, w ∈ wsX4_setRotor := fun _ h => List.mem_cons_of_mem _ (List.mem_append_left _ (List.mem_append_right _ h))
set_option maxRecDepth 100000 in
set_option maxHeartbeats 4000000 in
theorem c_X4_setRotor (l : Launch) (D : va_G) (cI cD : ClassId) (ad : Nat → Nat) (hask : Int32) (nodes : Int32) (links : Int32) (deg : Nat → Int32) (wk : Int32) (rot : Nat → Int32) (p1 : Int32) (p2 : Int32) (u : Int32 × (Nat → Int32)) (h : f_X4_setRotor nodes deg rot p1 p2 = some u) : MetI l yX4_setRotor wsX4_setRotor { frames := 2, cells := 0, slots := 0, locals := 43 } D [(cI, .int), (cD, .double)] [.ref (ad 0), .int p1, .int p2] (w_X4_setRotor ad cI cD hask nodes links deg wk rot) u.1 (w_X4_setRotor ad cI cD hask nodes links deg wk u.2) := by
  refine MetI.of (own := RX4) (cc := cX4_setRotor) (nL := 5) (ret := (some .int)) (by decide) rfl rfl (Nat.le_of_ble_eq_true rfl) rfl ?_
  intro p e s m args below meth c A hA C hr hlk
  unfold f_X4_setRotor at h
  refine wd_aload_n (j := 1) C 0 dX4_setRotor_0 rfl rfl rfl ?_
  refine wd_get (j := 4) (q0 := 0) (f := 1) (ci := 4) (v := .ref (ad 3)) C inX4_setRotor_X4 kX4_setRotor_1 rfl (by decide) rfl rfl dX4_setRotor_1 rfl ?_
  refine wd_iload_n (j := 5) C 1 dX4_setRotor_4 rfl rfl rfl ?_
  refine wd_iload_n (j := 6) C 2 dX4_setRotor_5 rfl rfl rfl ?_
  obtain ⟨u1, hu1, h⟩ := bnd_some h
  refine wd_callVi (j := 9) (q0 := 0) (ci := 0) (As := [.int p1, .int p2]) (rest := []) (ws' := (w_X4_setRotor ad cI cD hask nodes links deg wk rot)) C (c_X0_neighborError l D cI cD (ad 3) (ad 4) (ad 5) nodes links deg p1 p2 u1 hu1) (cwV 2 C.1.2.2.2.2 gX4_setRotor_X0_neighborError rfl rfl rfl (by decide +kernel) ⟨Nat.le_of_ble_eq_true rfl, Nat.le_of_ble_eq_true rfl⟩) rfl rfl [1, 2] [0, 3, 4] rfl rfl rfl rfl (by decide) [0, 3, 4, 1, 2] rfl rfl rfl (Nat.le_of_ble_eq_true rfl) (Nat.le_of_ble_eq_true rfl) (Nat.le_of_ble_eq_true rfl) dX4_setRotor_6 rfl ?_
  refine wd_istore_n (j := 10) (lv' := [(3, .int u1), (0, .ref (ad 0)), (1, .int p1), (2, .int p2)]) C dX4_setRotor_9 rfl (by decide) rfl rfl ?_
  refine wd_iload_n (j := 11) C 0 dX4_setRotor_10 rfl rfl rfl ?_
  refine wd_if_eq (j := 14) (t := 16) C dX4_setRotor_11 (by decide) rfl (fun c2 => ?_) (fun c2 => ?_)
  · replace h := (if_pos c2).symm.trans h
    refine wd_aload_n (j := 17) C 1 dX4_setRotor_16 rfl rfl rfl ?_
    refine wd_get (j := 20) (q0 := 0) (f := 2) (ci := 4) (v := .ref (ad 6)) C inX4_setRotor_X4 kX4_setRotor_2 rfl (by decide) rfl rfl dX4_setRotor_17 rfl ?_
    refine wd_get (j := 23) (q0 := 3) (f := 0) (ci := 3) (v := .ref (ad 7)) C inX4_setRotor_X3 kX4_setRotor_3 rfl (by decide) rfl rfl dX4_setRotor_20 rfl ?_
    refine wd_iload_n (j := 24) C 2 dX4_setRotor_23 rfl rfl rfl ?_
    obtain ⟨g3, h⟩ := grd_some h
    refine wd_iald (j := 25) (q0 := 4) (t0 := 0) C rfl rfl (inB_in g3) dX4_setRotor_24 rfl ?_
    refine wd_istore (j := 27) (lv' := [(4, .int (rot p1.toNatClampNeg)), (3, .int u1), (0, .ref (ad 0)), (1, .int p1), (2, .int p2)]) C dX4_setRotor_25 (by decide) rfl rfl ?_
    refine wd_aload_n (j := 28) C 2 dX4_setRotor_27 rfl rfl rfl ?_
    refine wd_get (j := 31) (q0 := 0) (f := 2) (ci := 4) (v := .ref (ad 6)) C inX4_setRotor_X4 kX4_setRotor_2 rfl (by decide) rfl rfl dX4_setRotor_28 rfl ?_
    refine wd_get (j := 34) (q0 := 3) (f := 0) (ci := 3) (v := .ref (ad 7)) C inX4_setRotor_X3 kX4_setRotor_3 rfl (by decide) rfl rfl dX4_setRotor_31 rfl ?_
    refine wd_iload_n (j := 35) C 3 dX4_setRotor_34 rfl rfl rfl ?_
    refine wd_iload_n (j := 36) C 4 dX4_setRotor_35 rfl rfl rfl ?_
    obtain ⟨g4, h⟩ := grd_some h
    refine wd_iast (j := 37) (q0 := 4) (t0 := 0) (ws' := (w_X4_setRotor ad cI cD hask nodes links deg wk (upd rot p1.toNatClampNeg p2))) C rfl rfl (inB_in g4) rfl dX4_setRotor_36 rfl ?_
    refine wd_iload (j := 39) C 0 dX4_setRotor_37 rfl rfl ?_
    obtain rfl := Option.some.inj h
    exact wd_iret C hA hr hlk rfl rfl rfl dX4_setRotor_39
  · replace h := (if_neg c2).symm.trans h
    refine wd_iload_n (j := 15) C 0 dX4_setRotor_14 rfl rfl rfl ?_
    obtain rfl := Option.some.inj h
    exact wd_iret C hA hr hlk rfl rfl rfl dX4_setRotor_15
abbrev w_X4_addWalker (ad : Nat → Nat) (cI cD : ClassId) (hask : Int32) (nodes : Int32) (links : Int32) (wk : Int32) (pos : Nat → Int32) : va_W := [((ad 0), .inr (4, [.ref (ad 1), .ref (ad 3), .ref (ad 6), .ref (ad 11), .int hask, .ref (ad 16), .ref (ad 18), .ref (ad 20), .ref (ad 21), .ref (ad 22), .ref (ad 23)])), ((ad 3), .inr (0, [.ref (ad 4), .ref (ad 5), .int nodes, .int links])), ((ad 6), .inr (3, [.ref (ad 7), .ref (ad 8), .ref (ad 9), .ref (ad 10), .int wk])), ((ad 10), .inl (cI, 4, .inl pos))]
theorem kX4_addWalker_1 : Cond.fieldLink "RotorRouter" 19 "RotorRouter" "graph" "LRotorRouter$Graph;" ∈ wsX4_addWalker := List.mem_of_getElem? (i := 1) rfl
theorem kX4_addWalker_2 : Cond.fieldLink "RotorRouter" 26 "RotorRouter" "current" "LRotorRouter$State;" ∈ wsX4_addWalker := List.mem_of_getElem? (i := 2) rfl
theorem kX4_addWalker_3 : Cond.fieldLink "RotorRouter" 109 "RotorRouter$State" "walkers" "I" ∈ wsX4_addWalker := List.mem_of_getElem? (i := 3) rfl
theorem kX4_addWalker_4 : Cond.fieldLink "RotorRouter" 112 "RotorRouter$State" "positions" "[I" ∈ wsX4_addWalker := List.mem_of_getElem? (i := 4) rfl
theorem inX4_addWalker_X4 : ∀ w ∈ wsX40, w ∈ wsX4_addWalker := fun _ h => List.mem_cons_of_mem _ (List.mem_append_left _ (List.mem_append_left _ (List.mem_append_right _ h)))
theorem inX4_addWalker_X3 : ∀ w ∈ wsX30, w ∈ wsX4_addWalker := fun _ h => List.mem_cons_of_mem _ (List.mem_append_left _ (List.mem_append_right _ h))
set_option maxRecDepth 100000 in
set_option maxHeartbeats 4000000 in
theorem c_X4_addWalker (l : Launch) (D : va_G) (cI cD : ClassId) (ad : Nat → Nat) (hask : Int32) (nodes : Int32) (links : Int32) (wk : Int32) (pos : Nat → Int32) (p1 : Int32) (u : Int32 × Int32 × (Nat → Int32)) (h : f_X4_addWalker nodes wk pos p1 = some u) : MetI l yX4_addWalker wsX4_addWalker { frames := 1, cells := 0, slots := 0, locals := 21 } D [(cI, .int), (cD, .double)] [.ref (ad 0), .int p1] (w_X4_addWalker ad cI cD hask nodes links wk pos) u.1 (w_X4_addWalker ad cI cD hask nodes links u.2.1 u.2.2) := by
  refine MetI.of (own := RX4) (cc := cX4_addWalker) (nL := 3) (ret := (some .int)) (by decide) rfl rfl (Nat.le_of_ble_eq_true rfl) rfl ?_
  intro p e s m args below meth c A hA C hr hlk
  unfold f_X4_addWalker at h
  refine wd_aload_n (j := 1) C 0 dX4_addWalker_0 rfl rfl rfl ?_
  refine wd_get (j := 4) (q0 := 0) (f := 1) (ci := 4) (v := .ref (ad 3)) C inX4_addWalker_X4 kX4_addWalker_1 rfl (by decide) rfl rfl dX4_addWalker_1 rfl ?_
  refine wd_iload_n (j := 5) C 1 dX4_addWalker_4 rfl rfl rfl ?_
  obtain ⟨u1, hu1, h⟩ := bnd_some h
  refine wd_callVi (j := 8) (q0 := 0) (ci := 0) (As := [.int p1]) (rest := []) (ws' := (w_X4_addWalker ad cI cD hask nodes links wk pos)) C (c_X0_hasNode l D cI cD (ad 3) (ad 4) (ad 5) nodes links p1 u1 hu1) (cwV 1 C.1.2.2.2.2 gX4_addWalker_X0_hasNode rfl rfl rfl (by decide +kernel) ⟨Nat.le_of_ble_eq_true rfl, Nat.le_of_ble_eq_true rfl⟩) rfl rfl [1] [0, 2, 3] rfl rfl rfl rfl (by decide) [0, 3, 1, 2] rfl rfl rfl (Nat.le_of_ble_eq_true rfl) (Nat.le_of_ble_eq_true rfl) (Nat.le_of_ble_eq_true rfl) dX4_addWalker_5 rfl ?_
  refine wd_if_ne (j := 11) (t := 14) C dX4_addWalker_8 (by decide) rfl (fun c2 => ?_) (fun c2 => ?_)
  · replace h := (if_neg c2).symm.trans h
    refine wd_aload_n (j := 15) C 0 dX4_addWalker_14 rfl rfl rfl ?_
    refine wd_get (j := 18) (q0 := 0) (f := 2) (ci := 4) (v := .ref (ad 6)) C inX4_addWalker_X4 kX4_addWalker_2 rfl (by decide) rfl rfl dX4_addWalker_15 rfl ?_
    refine wd_get (j := 21) (q0 := 2) (f := 4) (ci := 3) (v := .int wk) C inX4_addWalker_X3 kX4_addWalker_3 rfl (by decide) rfl rfl dX4_addWalker_18 rfl ?_
    refine wd_iconst (j := 22) (v := 4) C dX4_addWalker_21 (by decide) rfl ?_
    refine wd_icmp_lt (j := 25) (t := 28) C dX4_addWalker_22 (by decide) rfl (fun c3 => ?_) (fun c3 => ?_)
    · replace h := (if_pos c3).symm.trans h
      refine wd_aload_n (j := 29) C 0 dX4_addWalker_28 rfl rfl rfl ?_
      refine wd_get (j := 32) (q0 := 0) (f := 2) (ci := 4) (v := .ref (ad 6)) C inX4_addWalker_X4 kX4_addWalker_2 rfl (by decide) rfl rfl dX4_addWalker_29 rfl ?_
      refine wd_get (j := 35) (q0 := 2) (f := 4) (ci := 3) (v := .int wk) C inX4_addWalker_X3 kX4_addWalker_3 rfl (by decide) rfl rfl dX4_addWalker_32 rfl ?_
      refine wd_istore_n (j := 36) (lv' := [(2, .int wk), (0, .ref (ad 0)), (1, .int p1)]) C dX4_addWalker_35 rfl (by decide) rfl rfl ?_
      refine wd_aload_n (j := 37) C 1 dX4_addWalker_36 rfl rfl rfl ?_
      refine wd_get (j := 40) (q0 := 0) (f := 2) (ci := 4) (v := .ref (ad 6)) C inX4_addWalker_X4 kX4_addWalker_2 rfl (by decide) rfl rfl dX4_addWalker_37 rfl ?_
      refine wd_get (j := 43) (q0 := 2) (f := 3) (ci := 3) (v := .ref (ad 10)) C inX4_addWalker_X3 kX4_addWalker_4 rfl (by decide) rfl rfl dX4_addWalker_40 rfl ?_
      refine wd_iload_n (j := 44) C 0 dX4_addWalker_43 rfl rfl rfl ?_
      refine wd_iload_n (j := 45) C 2 dX4_addWalker_44 rfl rfl rfl ?_
      obtain ⟨g4, h⟩ := grd_some h
      refine wd_iast (j := 46) (q0 := 3) (t0 := 0) (ws' := (w_X4_addWalker ad cI cD hask nodes links wk (upd pos wk.toNatClampNeg p1))) C rfl rfl (inB_in g4) rfl dX4_addWalker_45 rfl ?_
      refine wd_aload_n (j := 47) C 1 dX4_addWalker_46 rfl rfl rfl ?_
      refine wd_get (j := 50) (q0 := 0) (f := 2) (ci := 4) (v := .ref (ad 6)) C inX4_addWalker_X4 kX4_addWalker_2 rfl (by decide) rfl rfl dX4_addWalker_47 rfl ?_
      refine wd_dup (j := 51) C dX4_addWalker_50 rfl rfl ?_
      refine wd_get (j := 54) (q0 := 2) (f := 4) (ci := 3) (v := .int wk) C inX4_addWalker_X3 kX4_addWalker_3 rfl (by decide) rfl rfl dX4_addWalker_51 rfl ?_
      refine wd_iconst (j := 55) (v := 1) C dX4_addWalker_54 (by decide) rfl ?_
      refine wd_iadd (j := 56) C dX4_addWalker_55 rfl ?_
      refine wd_put (j := 59) (q0 := 2) (f := 4) (ci := 3) (ws' := (w_X4_addWalker ad cI cD hask nodes links (wk + (1 : Int32)) (upd pos wk.toNatClampNeg p1))) C inX4_addWalker_X3 tyX3 tyX3_ok nmX3 kX4_addWalker_3 rfl (by decide) rfl rfl rfl rfl (Nat.le_of_ble_eq_true rfl) rfl dX4_addWalker_56 rfl ?_
      refine wd_iload_n (j := 60) C 0 dX4_addWalker_59 rfl rfl rfl ?_
      obtain rfl := Option.some.inj h
      exact wd_iret C hA hr hlk rfl rfl rfl dX4_addWalker_60
    · replace h := (if_neg c3).symm.trans h
      refine wd_bipush (j := 27) (v := -7) C dX4_addWalker_25 (by decide) rfl ?_
      obtain rfl := Option.some.inj h
      exact wd_iret C hA hr hlk rfl rfl rfl dX4_addWalker_27
  · replace h := (if_pos c2).symm.trans h
    refine wd_bipush (j := 13) (v := -4) C dX4_addWalker_11 (by decide) rfl ?_
    obtain rfl := Option.some.inj h
    exact wd_iret C hA hr hlk rfl rfl rfl dX4_addWalker_13
abbrev w_X4_position (ad : Nat → Nat) (cI cD : ClassId) (hask : Int32) (wk : Int32) (pos : Nat → Int32) : va_W := [((ad 0), .inr (4, [.ref (ad 1), .ref (ad 3), .ref (ad 6), .ref (ad 11), .int hask, .ref (ad 16), .ref (ad 18), .ref (ad 20), .ref (ad 21), .ref (ad 22), .ref (ad 23)])), ((ad 6), .inr (3, [.ref (ad 7), .ref (ad 8), .ref (ad 9), .ref (ad 10), .int wk])), ((ad 10), .inl (cI, 4, .inl pos))]
theorem kX4_position_1 : Cond.fieldLink "RotorRouter" 26 "RotorRouter" "current" "LRotorRouter$State;" ∈ wsX4_position := List.mem_of_getElem? (i := 1) rfl
theorem kX4_position_2 : Cond.fieldLink "RotorRouter" 112 "RotorRouter$State" "positions" "[I" ∈ wsX4_position := List.mem_of_getElem? (i := 2) rfl
theorem inX4_position_X4 : ∀ w ∈ wsX40, w ∈ wsX4_position := fun _ h => List.mem_cons_of_mem _ (List.mem_append_left _ (List.mem_append_right _ h))
theorem inX4_position_X3 : ∀ w ∈ wsX30, w ∈ wsX4_position := fun _ h => List.mem_cons_of_mem _ (List.mem_append_right _ h)
set_option maxRecDepth 100000 in
set_option maxHeartbeats 4000000 in
theorem c_X4_position (l : Launch) (D : va_G) (cI cD : ClassId) (ad : Nat → Nat) (hask : Int32) (wk : Int32) (pos : Nat → Int32) (p1 : Int32) (u : Int32) (h : f_X4_position wk pos p1 = some u) : MetI l yX4_position wsX4_position { frames := 1, cells := 0, slots := 0, locals := 21 } D [(cI, .int), (cD, .double)] [.ref (ad 0), .int p1] (w_X4_position ad cI cD hask wk pos) u (w_X4_position ad cI cD hask wk pos) := by
  refine MetI.of (own := RX4) (cc := cX4_position) (nL := 2) (ret := (some .int)) (by decide) rfl rfl (Nat.le_of_ble_eq_true rfl) rfl ?_
  intro p e s m args below meth c A hA C hr hlk
  unfold f_X4_position at h
  refine wd_aload_n (j := 1) C 0 dX4_position_0 rfl rfl rfl ?_
  refine wd_get (j := 4) (q0 := 0) (f := 2) (ci := 4) (v := .ref (ad 6)) C inX4_position_X4 kX4_position_1 rfl (by decide) rfl rfl dX4_position_1 rfl ?_
  refine wd_iload_n (j := 5) C 1 dX4_position_4 rfl rfl rfl ?_
  obtain ⟨u1, hu1, h⟩ := bnd_some h
  refine wd_callVi (j := 8) (q0 := 0) (ci := 3) (As := [.int p1]) (rest := []) (ws' := (w_X4_position ad cI cD hask wk pos)) C (c_X3_hasWalker l D cI cD (ad 6) (ad 7) (ad 8) (ad 9) (ad 10) wk p1 u1 hu1) (cwV 1 C.1.2.2.2.2 gX4_position_X3_hasWalker rfl rfl rfl (by decide +kernel) ⟨Nat.le_of_ble_eq_true rfl, Nat.le_of_ble_eq_true rfl⟩) rfl rfl [1] [0, 2] rfl rfl rfl rfl (by decide) [0, 2, 1] rfl rfl rfl (Nat.le_of_ble_eq_true rfl) (Nat.le_of_ble_eq_true rfl) (Nat.le_of_ble_eq_true rfl) dX4_position_5 rfl ?_
  refine wd_if_ne (j := 11) (t := 14) C dX4_position_8 (by decide) rfl (fun c2 => ?_) (fun c2 => ?_)
  · replace h := (if_neg c2).symm.trans h
    refine wd_aload_n (j := 15) C 0 dX4_position_14 rfl rfl rfl ?_
    refine wd_get (j := 18) (q0 := 0) (f := 2) (ci := 4) (v := .ref (ad 6)) C inX4_position_X4 kX4_position_1 rfl (by decide) rfl rfl dX4_position_15 rfl ?_
    refine wd_get (j := 21) (q0 := 1) (f := 3) (ci := 3) (v := .ref (ad 10)) C inX4_position_X3 kX4_position_2 rfl (by decide) rfl rfl dX4_position_18 rfl ?_
    refine wd_iload_n (j := 22) C 1 dX4_position_21 rfl rfl rfl ?_
    obtain ⟨g3, h⟩ := grd_some h
    refine wd_iald (j := 23) (q0 := 2) (t0 := 0) C rfl rfl (inB_in g3) dX4_position_22 rfl ?_
    obtain rfl := Option.some.inj h
    exact wd_iret C hA hr hlk rfl rfl rfl dX4_position_23
  · replace h := (if_pos c2).symm.trans h
    refine wd_bipush (j := 13) (v := -5) C dX4_position_11 (by decide) rfl ?_
    obtain rfl := Option.some.inj h
    exact wd_iret C hA hr hlk rfl rfl rfl dX4_position_13
abbrev w_X4_step (ad : Nat → Nat) (cI cD : ClassId) (hask : Int32) (nodes : Int32) (links : Int32) (deg : Nat → Int32) (nbr : Nat → Int32) (wk : Int32) (rot : Nat → Int32) (arv : Nat → Int32) (dep : Nat → Int32) (pos : Nat → Int32) : va_W := [((ad 0), .inr (4, [.ref (ad 1), .ref (ad 3), .ref (ad 6), .ref (ad 11), .int hask, .ref (ad 16), .ref (ad 18), .ref (ad 20), .ref (ad 21), .ref (ad 22), .ref (ad 23)])), ((ad 3), .inr (0, [.ref (ad 4), .ref (ad 5), .int nodes, .int links])), ((ad 4), .inl (cI, 8, .inl deg)), ((ad 5), .inl (cI, 56, .inl nbr)), ((ad 6), .inr (3, [.ref (ad 7), .ref (ad 8), .ref (ad 9), .ref (ad 10), .int wk])), ((ad 7), .inl (cI, 8, .inl rot)), ((ad 8), .inl (cI, 8, .inl arv)), ((ad 9), .inl (cI, 56, .inl dep)), ((ad 10), .inl (cI, 4, .inl pos))]
theorem kX4_step_1 : Cond.fieldLink "RotorRouter" 26 "RotorRouter" "current" "LRotorRouter$State;" ∈ wsX4_step := List.mem_of_getElem? (i := 1) rfl
theorem kX4_step_2 : Cond.fieldLink "RotorRouter" 19 "RotorRouter" "graph" "LRotorRouter$Graph;" ∈ wsX4_step := List.mem_of_getElem? (i := 2) rfl
theorem kX4_step_3 : Cond.fieldLink "RotorRouter" 112 "RotorRouter$State" "positions" "[I" ∈ wsX4_step := List.mem_of_getElem? (i := 3) rfl
theorem inX4_step_X4 : ∀ w ∈ wsX40, w ∈ wsX4_step := fun _ h => List.mem_cons_of_mem _ (List.mem_append_left _ (List.mem_append_left _ (List.mem_append_right _ h)))
theorem inX4_step_X3 : ∀ w ∈ wsX30, w ∈ wsX4_step := fun _ h => List.mem_cons_of_mem _ (List.mem_append_left _ (List.mem_append_right _ h))
set_option maxRecDepth 100000 in
set_option maxHeartbeats 4000000 in
theorem lw_X4_step_31 (l : Launch) (D : va_G) (cI cD : ClassId) (ad : Nat → Nat) (N : Nat) (hask : Int32) (nodes : Int32) (links : Int32) (wk : Int32) (deg : Nat → Int32) (nbr : Nat → Int32) (p1 : Int32) (p2 : Int32) {p : Program} {e : Env} {s : State} {m : MethodId} {args : Array Value} {below : List Frame} {meth : Method} {c : Code} {A : Nat → Prop} {Q : State → Prop} (C : wd_C p m c cX4_step 4 s args wsX4_step RX4 D [(cI, .int), (cD, .double)] A) : ∀ (n : Nat) (st : Int32 × (Nat → Int32) × (Nat → Int32) × (Nat → Int32) × (Nat → Int32)) (E : (Nat → Int32) × (Nat → Int32) × (Nat → Int32) × (Nat → Int32)), iter (b_X4_step_31 deg nbr p1 p2) n st = some E → (Wd p l e { frames := 2, cells := 0, slots := 0, locals := 48 } s m args below meth c 4 D A 0 0 Q 54 [(0, .ref (ad 0)), (1, .int p1)] [] (w_X4_step ad cI cD hask nodes links deg nbr wk E.1 E.2.1 E.2.2.1 E.2.2.2)) → Wd p l e { frames := 2, cells := 0, slots := 0, locals := 48 } s m args below meth c 4 D A 0 0 Q 31 [(0, .ref (ad 0)), (1, .int p1), (2, .int p2), (3, .int st.1)] [] (w_X4_step ad cI cD hask nodes links deg nbr wk st.2.1 st.2.2.1 st.2.2.2.1 st.2.2.2.2) := by
  intro n
  induction n with
  | zero => intro st E h; cases h
  | succ n ih =>
    intro st E h kx
    obtain ⟨b, h, hk⟩ := iter_step h
    unfold b_X4_step_31 at h
    refine wd_iload_n (j := 32) C 3 dX4_step_31 rfl rfl rfl ?_
    refine wd_iload_n (j := 33) C 2 dX4_step_32 rfl rfl rfl ?_
    refine wd_icmp_ge (j := 36) (t := 54) C dX4_step_33 (by decide) rfl (fun c1 => ?_) (fun c1 => ?_)
    · replace h := (if_pos c1).symm.trans h
      obtain rfl := Option.some.inj h
      obtain rfl := hk
      refine wd_lv (lv' := [(0, .ref (ad 0)), (1, .int p1)]) [0, 1] rfl ?_
      exact kx
    · replace h := (if_neg c1).symm.trans h
      refine wd_aload_n (j := 37) C 0 dX4_step_36 rfl rfl rfl ?_
      refine wd_get (j := 40) (q0 := 0) (f := 2) (ci := 4) (v := .ref (ad 6)) C inX4_step_X4 kX4_step_1 rfl (by decide) rfl rfl dX4_step_37 rfl ?_
      refine wd_iload_n (j := 41) C 1 dX4_step_40 rfl rfl rfl ?_
      refine wd_aload_n (j := 42) C 0 dX4_step_41 rfl rfl rfl ?_
      refine wd_get (j := 45) (q0 := 0) (f := 1) (ci := 4) (v := .ref (ad 3)) C inX4_step_X4 kX4_step_2 rfl (by decide) rfl rfl dX4_step_42 rfl ?_
      obtain ⟨u2, hu2, h⟩ := bnd_some h
      refine wd_callVv (j := 48) (q0 := 0) (ci := 3) (As := [.int p1, .ref (ad 3)]) (rest := []) (ws' := (w_X4_step ad cI cD hask nodes links deg nbr wk u2.1 u2.2.1 u2.2.2.1 u2.2.2.2)) C (c_X3_move l D cI cD (ad 6) (ad 7) (ad 8) (ad 9) (ad 10) (ad 3) (ad 4) (ad 5) wk st.2.1 st.2.2.1 st.2.2.2.1 st.2.2.2.2 nodes links deg nbr p1 u2 hu2) (cwV 2 C.1.2.2.2.2 gX4_step_X3_move rfl rfl rfl (by decide +kernel) ⟨Nat.le_of_ble_eq_true rfl, Nat.le_of_ble_eq_true rfl⟩) rfl rfl [4, 5, 6, 7, 8, 1, 2, 3] [0] rfl rfl rfl rfl (by decide) [0, 6, 7, 8, 1, 2, 3, 4, 5] rfl rfl rfl (Nat.le_of_ble_eq_true rfl) (Nat.le_of_ble_eq_true rfl) (Nat.le_of_ble_eq_true rfl) dX4_step_45 rfl ?_
      refine wd_iinc (j := 51) (lv' := [(3, .int (st.1 + 1)), (0, .ref (ad 0)), (1, .int p1), (2, .int p2)]) C 3 dX4_step_48 rfl rfl (by decide) rfl rfl ?_
      refine wd_goto (t := 31) C dX4_step_51 (by decide) ?_
      obtain rfl := Option.some.inj h
      refine wd_lv (lv' := [(0, .ref (ad 0)), (1, .int p1), (2, .int p2), (3, .int (st.1 + 1))]) [1, 2, 3, 0] rfl ?_
      exact ih ((st.1 + 1), u2.1, u2.2.1, u2.2.2.1, u2.2.2.2) E hk kx
set_option maxRecDepth 100000 in
set_option maxHeartbeats 4000000 in
theorem c_X4_step (l : Launch) (D : va_G) (cI cD : ClassId) (ad : Nat → Nat) (N : Nat) (hask : Int32) (nodes : Int32) (links : Int32) (deg : Nat → Int32) (nbr : Nat → Int32) (wk : Int32) (rot : Nat → Int32) (arv : Nat → Int32) (dep : Nat → Int32) (pos : Nat → Int32) (p1 : Int32) (p2 : Int32) (u : Int32 × (Nat → Int32) × (Nat → Int32) × (Nat → Int32) × (Nat → Int32)) (h : f_X4_step N deg nbr wk rot arv dep pos p1 p2 = some u) : MetI l yX4_step wsX4_step { frames := 2, cells := 0, slots := 0, locals := 48 } D [(cI, .int), (cD, .double)] [.ref (ad 0), .int p1, .int p2] (w_X4_step ad cI cD hask nodes links deg nbr wk rot arv dep pos) u.1 (w_X4_step ad cI cD hask nodes links deg nbr wk u.2.1 u.2.2.1 u.2.2.2.1 u.2.2.2.2) := by
  refine MetI.of (own := RX4) (cc := cX4_step) (nL := 4) (ret := (some .int)) (by decide) rfl rfl (Nat.le_of_ble_eq_true rfl) rfl ?_
  intro p e s m args below meth c A hA C hr hlk
  unfold f_X4_step at h
  refine wd_aload_n (j := 1) C 0 dX4_step_0 rfl rfl rfl ?_
  refine wd_get (j := 4) (q0 := 0) (f := 2) (ci := 4) (v := .ref (ad 6)) C inX4_step_X4 kX4_step_1 rfl (by decide) rfl rfl dX4_step_1 rfl ?_
  refine wd_iload_n (j := 5) C 1 dX4_step_4 rfl rfl rfl ?_
  obtain ⟨u3, hu3, h⟩ := bnd_some h
  refine wd_callVi (j := 8) (q0 := 0) (ci := 3) (As := [.int p1]) (rest := []) (ws' := (w_X4_step ad cI cD hask nodes links deg nbr wk rot arv dep pos)) C (c_X3_hasWalker l D cI cD (ad 6) (ad 7) (ad 8) (ad 9) (ad 10) wk p1 u3 hu3) (cwV 1 C.1.2.2.2.2 gX4_step_X3_hasWalker rfl rfl rfl (by decide +kernel) ⟨Nat.le_of_ble_eq_true rfl, Nat.le_of_ble_eq_true rfl⟩) rfl rfl [4] [0, 1, 2, 3, 5, 6, 7, 8] rfl rfl rfl rfl (by decide) [0, 1, 2, 3, 8, 4, 5, 6, 7] rfl rfl rfl (Nat.le_of_ble_eq_true rfl) (Nat.le_of_ble_eq_true rfl) (Nat.le_of_ble_eq_true rfl) dX4_step_5 rfl ?_
  refine wd_if_ne (j := 11) (t := 14) C dX4_step_8 (by decide) rfl (fun c4 => ?_) (fun c4 => ?_)
  · replace h := (if_neg c4).symm.trans h
    refine wd_iload_n (j := 15) C 2 dX4_step_14 rfl rfl rfl ?_
    refine wd_iconst (j := 16) (v := 1) C dX4_step_15 (by decide) rfl ?_
    refine wd_icmp_lt (j := 19) (t := 26) C dX4_step_16 (by decide) rfl (fun c5 => ?_) (fun c5 => ?_)
    · replace h := (if_pos c5).symm.trans h
      refine wd_bipush (j := 28) (v := -6) C dX4_step_26 (by decide) rfl ?_
      obtain rfl := Option.some.inj h
      exact wd_iret C hA hr hlk rfl rfl rfl dX4_step_28
    · replace h := (if_neg c5).symm.trans h
      refine wd_iload_n (j := 20) C 2 dX4_step_19 rfl rfl rfl ?_
      refine wd_sipush (j := 23) (v := 1000) C dX4_step_20 (by decide) rfl ?_
      refine wd_icmp_le (j := 26) (t := 29) C dX4_step_23 (by decide) rfl (fun c6 => ?_) (fun c6 => ?_)
      · replace h := (if_pos c6).symm.trans h
        refine wd_iconst (j := 30) (v := 0) C dX4_step_29 (by decide) rfl ?_
        refine wd_istore_n (j := 31) (lv' := [(3, .int (0 : Int32)), (0, .ref (ad 0)), (1, .int p1), (2, .int p2)]) C dX4_step_30 rfl (by decide) rfl rfl ?_
        refine wd_lv (lv' := [(0, .ref (ad 0)), (1, .int p1), (2, .int p2), (3, .int (0 : Int32))]) [1, 2, 3, 0] rfl ?_
        obtain ⟨u7, hu7, h⟩ := bnd_some h
        refine lw_X4_step_31 l D cI cD ad N hask nodes links wk deg nbr p1 p2 C N ((0 : Int32), rot, arv, dep, pos) u7 hu7 ?_
        refine wd_aload_n (j := 55) C 0 dX4_step_54 rfl rfl rfl ?_
        refine wd_get (j := 58) (q0 := 0) (f := 2) (ci := 4) (v := .ref (ad 6)) C inX4_step_X4 kX4_step_1 rfl (by decide) rfl rfl dX4_step_55 rfl ?_
        refine wd_get (j := 61) (q0 := 4) (f := 3) (ci := 3) (v := .ref (ad 10)) C inX4_step_X3 kX4_step_3 rfl (by decide) rfl rfl dX4_step_58 rfl ?_
        refine wd_iload_n (j := 62) C 1 dX4_step_61 rfl rfl rfl ?_
        obtain ⟨g8, h⟩ := grd_some h
        refine wd_iald (j := 63) (q0 := 8) (t0 := 0) C rfl rfl (inB_in g8) dX4_step_62 rfl ?_
        obtain rfl := Option.some.inj h
        exact wd_iret C hA hr hlk rfl rfl rfl dX4_step_63
      · replace h := (if_neg c6).symm.trans h
        refine wd_bipush (j := 28) (v := -6) C dX4_step_26 (by decide) rfl ?_
        obtain rfl := Option.some.inj h
        exact wd_iret C hA hr hlk rfl rfl rfl dX4_step_28
  · replace h := (if_pos c4).symm.trans h
    refine wd_bipush (j := 13) (v := -5) C dX4_step_11 (by decide) rfl ?_
    obtain rfl := Option.some.inj h
    exact wd_iret C hA hr hlk rfl rfl rfl dX4_step_13
abbrev w_X4_makePass (ad : Nat → Nat) (cI cD : ClassId) (hask : Int32) (nodes : Int32) (links : Int32) (deg : Nat → Int32) (nbr : Nat → Int32) (wk : Int32) (rot : Nat → Int32) (arv : Nat → Int32) (dep : Nat → Int32) (pos : Nat → Int32) : va_W := [((ad 0), .inr (4, [.ref (ad 1), .ref (ad 3), .ref (ad 6), .ref (ad 11), .int hask, .ref (ad 16), .ref (ad 18), .ref (ad 20), .ref (ad 21), .ref (ad 22), .ref (ad 23)])), ((ad 3), .inr (0, [.ref (ad 4), .ref (ad 5), .int nodes, .int links])), ((ad 4), .inl (cI, 8, .inl deg)), ((ad 5), .inl (cI, 56, .inl nbr)), ((ad 6), .inr (3, [.ref (ad 7), .ref (ad 8), .ref (ad 9), .ref (ad 10), .int wk])), ((ad 7), .inl (cI, 8, .inl rot)), ((ad 8), .inl (cI, 8, .inl arv)), ((ad 9), .inl (cI, 56, .inl dep)), ((ad 10), .inl (cI, 4, .inl pos))]
theorem kX4_makePass_1 : Cond.fieldLink "RotorRouter" 26 "RotorRouter" "current" "LRotorRouter$State;" ∈ wsX4_makePass := List.mem_of_getElem? (i := 1) rfl
theorem kX4_makePass_2 : Cond.fieldLink "RotorRouter" 109 "RotorRouter$State" "walkers" "I" ∈ wsX4_makePass := List.mem_of_getElem? (i := 2) rfl
theorem kX4_makePass_3 : Cond.fieldLink "RotorRouter" 112 "RotorRouter$State" "positions" "[I" ∈ wsX4_makePass := List.mem_of_getElem? (i := 3) rfl
theorem kX4_makePass_4 : Cond.fieldLink "RotorRouter" 19 "RotorRouter" "graph" "LRotorRouter$Graph;" ∈ wsX4_makePass := List.mem_of_getElem? (i := 4) rfl
theorem inX4_makePass_X4 : ∀ w ∈ wsX40, w ∈ wsX4_makePass := fun _ h => List.mem_cons_of_mem _ (List.mem_append_left _ (List.mem_append_left _ (List.mem_append_right _ h)))
theorem inX4_makePass_X3 : ∀ w ∈ wsX30, w ∈ wsX4_makePass := fun _ h => List.mem_cons_of_mem _ (List.mem_append_left _ (List.mem_append_right _ h))
set_option maxRecDepth 100000 in
set_option maxHeartbeats 4000000 in
theorem lw_X4_makePass_4 (l : Launch) (D : va_G) (cI cD : ClassId) (ad : Nat → Nat) (N : Nat) (hask : Int32) (nodes : Int32) (links : Int32) (deg : Nat → Int32) (nbr : Nat → Int32) (wk : Int32) (p1 : Int32) {p : Program} {e : Env} {s : State} {m : MethodId} {args : Array Value} {below : List Frame} {meth : Method} {c : Code} {A : Nat → Prop} {Q : State → Prop} (C : wd_C p m c cX4_makePass 4 s args wsX4_makePass RX4 D [(cI, .int), (cD, .double)] A) : ∀ (n : Nat) (st : Int32 × Int32 × (Nat → Int32) × (Nat → Int32) × (Nat → Int32) × (Nat → Int32)) (E : Int32 × (Nat → Int32) × (Nat → Int32) × (Nat → Int32) × (Nat → Int32)), iter (b_X4_makePass_4 deg nbr wk p1) n st = some E → (Wd p l e { frames := 2, cells := 0, slots := 0, locals := 48 } s m args below meth c 4 D A 0 0 Q 49 [(2, .int E.1)] [] (w_X4_makePass ad cI cD hask nodes links deg nbr wk E.2.1 E.2.2.1 E.2.2.2.1 E.2.2.2.2)) → Wd p l e { frames := 2, cells := 0, slots := 0, locals := 48 } s m args below meth c 4 D A 0 0 Q 4 [(0, .ref (ad 0)), (1, .int p1), (2, .int st.1), (3, .int st.2.1)] [] (w_X4_makePass ad cI cD hask nodes links deg nbr wk st.2.2.1 st.2.2.2.1 st.2.2.2.2.1 st.2.2.2.2.2) := by
  intro n
  induction n with
  | zero => intro st E h; cases h
  | succ n ih =>
    intro st E h kx
    obtain ⟨b, h, hk⟩ := iter_step h
    unfold b_X4_makePass_4 at h
    refine wd_iload_n (j := 5) C 3 dX4_makePass_4 rfl rfl rfl ?_
    refine wd_aload_n (j := 6) C 0 dX4_makePass_5 rfl rfl rfl ?_
    refine wd_get (j := 9) (q0 := 0) (f := 2) (ci := 4) (v := .ref (ad 6)) C inX4_makePass_X4 kX4_makePass_1 rfl (by decide) rfl rfl dX4_makePass_6 rfl ?_
    refine wd_get (j := 12) (q0 := 4) (f := 4) (ci := 3) (v := .int wk) C inX4_makePass_X3 kX4_makePass_2 rfl (by decide) rfl rfl dX4_makePass_9 rfl ?_
    refine wd_icmp_ge (j := 15) (t := 49) C dX4_makePass_12 (by decide) rfl (fun c1 => ?_) (fun c1 => ?_)
    · replace h := (if_pos c1).symm.trans h
      obtain rfl := Option.some.inj h
      obtain rfl := hk
      refine wd_lv (lv' := [(2, .int st.1)]) [2] rfl ?_
      exact kx
    · replace h := (if_neg c1).symm.trans h
      refine wd_aload_n (j := 16) C 0 dX4_makePass_15 rfl rfl rfl ?_
      refine wd_get (j := 19) (q0 := 0) (f := 2) (ci := 4) (v := .ref (ad 6)) C inX4_makePass_X4 kX4_makePass_1 rfl (by decide) rfl rfl dX4_makePass_16 rfl ?_
      refine wd_get (j := 22) (q0 := 4) (f := 3) (ci := 3) (v := .ref (ad 10)) C inX4_makePass_X3 kX4_makePass_3 rfl (by decide) rfl rfl dX4_makePass_19 rfl ?_
      refine wd_iload_n (j := 23) C 3 dX4_makePass_22 rfl rfl rfl ?_
      obtain ⟨g2, h⟩ := grd_some h
      refine wd_iald (j := 24) (q0 := 8) (t0 := 0) C rfl rfl (inB_in g2) dX4_makePass_23 rfl ?_
      refine wd_iload_n (j := 25) C 1 dX4_makePass_24 rfl rfl rfl ?_
      refine wd_icmp_eq (j := 28) (t := 43) C dX4_makePass_25 (by decide) rfl (fun c3 => ?_) (fun c3 => ?_)
      · replace h := (if_pos c3).symm.trans h
        refine wd_iinc (j := 46) (lv' := [(3, .int (st.2.1 + 1)), (0, .ref (ad 0)), (1, .int p1), (2, .int st.1)]) C 3 dX4_makePass_43 rfl rfl (by decide) rfl rfl ?_
        refine wd_goto (t := 4) C dX4_makePass_46 (by decide) ?_
        obtain rfl := Option.some.inj h
        refine wd_lv (lv' := [(0, .ref (ad 0)), (1, .int p1), (2, .int st.1), (3, .int (st.2.1 + 1))]) [1, 2, 3, 0] rfl ?_
        exact ih (st.1, (st.2.1 + 1), st.2.2.1, st.2.2.2.1, st.2.2.2.2.1, st.2.2.2.2.2) E hk kx
      · replace h := (if_neg c3).symm.trans h
        refine wd_aload_n (j := 29) C 0 dX4_makePass_28 rfl rfl rfl ?_
        refine wd_get (j := 32) (q0 := 0) (f := 2) (ci := 4) (v := .ref (ad 6)) C inX4_makePass_X4 kX4_makePass_1 rfl (by decide) rfl rfl dX4_makePass_29 rfl ?_
        refine wd_iload_n (j := 33) C 3 dX4_makePass_32 rfl rfl rfl ?_
        refine wd_aload_n (j := 34) C 0 dX4_makePass_33 rfl rfl rfl ?_
        refine wd_get (j := 37) (q0 := 0) (f := 1) (ci := 4) (v := .ref (ad 3)) C inX4_makePass_X4 kX4_makePass_4 rfl (by decide) rfl rfl dX4_makePass_34 rfl ?_
        obtain ⟨u4, hu4, h⟩ := bnd_some h
        refine wd_callVv (j := 40) (q0 := 0) (ci := 3) (As := [.int st.2.1, .ref (ad 3)]) (rest := []) (ws' := (w_X4_makePass ad cI cD hask nodes links deg nbr wk u4.1 u4.2.1 u4.2.2.1 u4.2.2.2)) C (c_X3_move l D cI cD (ad 6) (ad 7) (ad 8) (ad 9) (ad 10) (ad 3) (ad 4) (ad 5) wk st.2.2.1 st.2.2.2.1 st.2.2.2.2.1 st.2.2.2.2.2 nodes links deg nbr st.2.1 u4 hu4) (cwV 2 C.1.2.2.2.2 gX4_makePass_X3_move rfl rfl rfl (by decide +kernel) ⟨Nat.le_of_ble_eq_true rfl, Nat.le_of_ble_eq_true rfl⟩) rfl rfl [4, 5, 6, 7, 8, 1, 2, 3] [0] rfl rfl rfl rfl (by decide) [0, 6, 7, 8, 1, 2, 3, 4, 5] rfl rfl rfl (Nat.le_of_ble_eq_true rfl) (Nat.le_of_ble_eq_true rfl) (Nat.le_of_ble_eq_true rfl) dX4_makePass_37 rfl ?_
        refine wd_iinc (j := 43) (lv' := [(2, .int (st.1 + 1)), (0, .ref (ad 0)), (1, .int p1), (3, .int st.2.1)]) C 2 dX4_makePass_40 rfl rfl (by decide) rfl rfl ?_
        refine wd_iinc (j := 46) (lv' := [(3, .int (st.2.1 + 1)), (2, .int (st.1 + 1)), (0, .ref (ad 0)), (1, .int p1)]) C 3 dX4_makePass_43 rfl rfl (by decide) rfl rfl ?_
        refine wd_goto (t := 4) C dX4_makePass_46 (by decide) ?_
        obtain rfl := Option.some.inj h
        refine wd_lv (lv' := [(0, .ref (ad 0)), (1, .int p1), (2, .int (st.1 + 1)), (3, .int (st.2.1 + 1))]) [2, 3, 1, 0] rfl ?_
        exact ih ((st.1 + 1), (st.2.1 + 1), u4.1, u4.2.1, u4.2.2.1, u4.2.2.2) E hk kx
set_option maxRecDepth 100000 in
set_option maxHeartbeats 4000000 in
theorem c_X4_makePass (l : Launch) (D : va_G) (cI cD : ClassId) (ad : Nat → Nat) (N : Nat) (hask : Int32) (nodes : Int32) (links : Int32) (deg : Nat → Int32) (nbr : Nat → Int32) (wk : Int32) (rot : Nat → Int32) (arv : Nat → Int32) (dep : Nat → Int32) (pos : Nat → Int32) (p1 : Int32) (u : Int32 × (Nat → Int32) × (Nat → Int32) × (Nat → Int32) × (Nat → Int32)) (h : f_X4_makePass N deg nbr wk rot arv dep pos p1 = some u) : MetI l yX4_makePass wsX4_makePass { frames := 2, cells := 0, slots := 0, locals := 48 } D [(cI, .int), (cD, .double)] [.ref (ad 0), .int p1] (w_X4_makePass ad cI cD hask nodes links deg nbr wk rot arv dep pos) u.1 (w_X4_makePass ad cI cD hask nodes links deg nbr wk u.2.1 u.2.2.1 u.2.2.2.1 u.2.2.2.2) := by
  refine MetI.of (own := RX4) (cc := cX4_makePass) (nL := 4) (ret := (some .int)) (by decide) rfl rfl (Nat.le_of_ble_eq_true rfl) rfl ?_
  intro p e s m args below meth c A hA C hr hlk
  unfold f_X4_makePass at h
  refine wd_iconst (j := 1) (v := 0) C dX4_makePass_0 (by decide) rfl ?_
  refine wd_istore_n (j := 2) (lv' := [(2, .int (0 : Int32)), (0, .ref (ad 0)), (1, .int p1)]) C dX4_makePass_1 rfl (by decide) rfl rfl ?_
  refine wd_iconst (j := 3) (v := 0) C dX4_makePass_2 (by decide) rfl ?_
  refine wd_istore_n (j := 4) (lv' := [(3, .int (0 : Int32)), (2, .int (0 : Int32)), (0, .ref (ad 0)), (1, .int p1)]) C dX4_makePass_3 rfl (by decide) rfl rfl ?_
  refine wd_lv (lv' := [(0, .ref (ad 0)), (1, .int p1), (2, .int (0 : Int32)), (3, .int (0 : Int32))]) [2, 3, 1, 0] rfl ?_
  obtain ⟨u5, hu5, h⟩ := bnd_some h
  refine lw_X4_makePass_4 l D cI cD ad N hask nodes links deg nbr wk p1 C N ((0 : Int32), (0 : Int32), rot, arv, dep, pos) u5 hu5 ?_
  refine wd_iload_n (j := 50) C 0 dX4_makePass_49 rfl rfl rfl ?_
  obtain rfl := Option.some.inj h
  exact wd_iret C hA hr hlk rfl rfl rfl dX4_makePass_50
abbrev w_X4_absorbInTurns (ad : Nat → Nat) (cI cD : ClassId) (hask : Int32) (nodes : Int32) (links : Int32) (deg : Nat → Int32) (nbr : Nat → Int32) (wk : Int32) (rot : Nat → Int32) (arv : Nat → Int32) (dep : Nat → Int32) (pos : Nat → Int32) : va_W := [((ad 0), .inr (4, [.ref (ad 1), .ref (ad 3), .ref (ad 6), .ref (ad 11), .int hask, .ref (ad 16), .ref (ad 18), .ref (ad 20), .ref (ad 21), .ref (ad 22), .ref (ad 23)])), ((ad 3), .inr (0, [.ref (ad 4), .ref (ad 5), .int nodes, .int links])), ((ad 4), .inl (cI, 8, .inl deg)), ((ad 5), .inl (cI, 56, .inl nbr)), ((ad 6), .inr (3, [.ref (ad 7), .ref (ad 8), .ref (ad 9), .ref (ad 10), .int wk])), ((ad 7), .inl (cI, 8, .inl rot)), ((ad 8), .inl (cI, 8, .inl arv)), ((ad 9), .inl (cI, 56, .inl dep)), ((ad 10), .inl (cI, 4, .inl pos))]
theorem kX4_absorbInTurns_1 : Cond.constant "RotorRouter" 145 1000000 ∈ wsX4_absorbInTurns := List.mem_of_getElem? (i := 1) rfl
set_option maxRecDepth 100000 in
set_option maxHeartbeats 4000000 in
theorem lw_X4_absorbInTurns_4 (l : Launch) (D : va_G) (cI cD : ClassId) (ad : Nat → Nat) (N : Nat) (hask : Int32) (nodes : Int32) (links : Int32) (deg : Nat → Int32) (nbr : Nat → Int32) (wk : Int32) (p1 : Int32) {p : Program} {e : Env} {s : State} {m : MethodId} {args : Array Value} {below : List Frame} {meth : Method} {c : Code} {A : Nat → Prop} {Q : State → Prop} (C : wd_C p m c cX4_absorbInTurns 5 s args wsX4_absorbInTurns RX4 D [(cI, .int), (cD, .double)] A) : ∀ (n : Nat) (st : Int32 × Int32 × (Nat → Int32) × (Nat → Int32) × (Nat → Int32) × (Nat → Int32)) (E : (Int32 × (Nat → Int32) × (Nat → Int32) × (Nat → Int32) × (Nat → Int32)) ⊕ (Int32 × (Nat → Int32) × (Nat → Int32) × (Nat → Int32) × (Nat → Int32))), iter (b_X4_absorbInTurns_4 N deg nbr wk p1) n st = some E → (∀ e1, E = .inl e1 → Wd p l e { frames := 3, cells := 0, slots := 0, locals := 71 } s m args below meth c 5 D A 0 0 Q 35 [(2, .int e1.1)] [] (w_X4_absorbInTurns ad cI cD hask nodes links deg nbr wk e1.2.1 e1.2.2.1 e1.2.2.2.1 e1.2.2.2.2)) → (∀ e2, E = .inr e2 → Wd p l e { frames := 3, cells := 0, slots := 0, locals := 71 } s m args below meth c 5 D A 0 0 Q 22 [(2, .int e2.1)] [] (w_X4_absorbInTurns ad cI cD hask nodes links deg nbr wk e2.2.1 e2.2.2.1 e2.2.2.2.1 e2.2.2.2.2)) → Wd p l e { frames := 3, cells := 0, slots := 0, locals := 71 } s m args below meth c 5 D A 0 0 Q 4 [(0, .ref (ad 0)), (1, .int p1), (2, .int st.1), (3, .int st.2.1)] [] (w_X4_absorbInTurns ad cI cD hask nodes links deg nbr wk st.2.2.1 st.2.2.2.1 st.2.2.2.2.1 st.2.2.2.2.2) := by
  intro n
  induction n with
  | zero => intro st E h; cases h
  | succ n ih =>
    intro st E h kx1 kx2
    obtain ⟨b, h, hk⟩ := iter_step h
    unfold b_X4_absorbInTurns_4 at h
    refine wd_iload_n (j := 5) C 3 dX4_absorbInTurns_4 rfl rfl rfl ?_
    refine wd_ldc (j := 7) C dX4_absorbInTurns_5 kX4_absorbInTurns_1 rfl ?_
    refine wd_icmp_ge (j := 10) (t := 35) C dX4_absorbInTurns_7 (by decide) rfl (fun c1 => ?_) (fun c1 => ?_)
    · replace h := (if_pos c1).symm.trans h
      obtain rfl := Option.some.inj h
      obtain rfl := hk
      refine wd_lv (lv' := [(2, .int st.1)]) [2] rfl ?_
      exact kx1 _ rfl
    · replace h := (if_neg c1).symm.trans h
      refine wd_aload_n (j := 11) C 0 dX4_absorbInTurns_10 rfl rfl rfl ?_
      refine wd_iload_n (j := 12) C 1 dX4_absorbInTurns_11 rfl rfl rfl ?_
      obtain ⟨u2, hu2, h⟩ := bnd_some h
      refine wd_callVi (j := 15) (q0 := 0) (ci := 4) (As := [.int p1]) (rest := []) (ws' := (w_X4_absorbInTurns ad cI cD hask nodes links deg nbr wk u2.2.1 u2.2.2.1 u2.2.2.2.1 u2.2.2.2.2)) C (c_X4_makePass l D cI cD ad N hask nodes links deg nbr wk st.2.2.1 st.2.2.2.1 st.2.2.2.2.1 st.2.2.2.2.2 p1 u2 hu2) (cwV 1 C.1.2.2.2.2 gX4_absorbInTurns_X4_makePass rfl rfl rfl (by decide +kernel) ⟨Nat.le_of_ble_eq_true rfl, Nat.le_of_ble_eq_true rfl⟩) rfl rfl [0, 1, 2, 3, 4, 5, 6, 7, 8] [] rfl rfl rfl rfl (by decide) [0, 1, 2, 3, 4, 5, 6, 7, 8] rfl rfl rfl (Nat.le_of_ble_eq_true rfl) (Nat.le_of_ble_eq_true rfl) (Nat.le_of_ble_eq_true rfl) dX4_absorbInTurns_12 rfl ?_
      refine wd_istore (j := 17) (lv' := [(4, .int u2.1), (0, .ref (ad 0)), (1, .int p1), (2, .int st.1), (3, .int st.2.1)]) C dX4_absorbInTurns_15 (by decide) rfl rfl ?_
      refine wd_iload (j := 19) C 0 dX4_absorbInTurns_17 rfl rfl ?_
      refine wd_if_ne (j := 22) (t := 24) C dX4_absorbInTurns_19 (by decide) rfl (fun c3 => ?_) (fun c3 => ?_)
      · replace h := (if_neg c3).symm.trans h
        refine wd_iload_n (j := 25) C 3 dX4_absorbInTurns_24 rfl rfl rfl ?_
        refine wd_iload (j := 27) C 0 dX4_absorbInTurns_25 rfl rfl ?_
        refine wd_iadd (j := 28) C dX4_absorbInTurns_27 rfl ?_
        refine wd_istore_n (j := 29) (lv' := [(2, .int (st.1 + u2.1)), (4, .int u2.1), (0, .ref (ad 0)), (1, .int p1), (3, .int st.2.1)]) C dX4_absorbInTurns_28 rfl (by decide) rfl rfl ?_
        refine wd_iinc (j := 32) (lv' := [(3, .int (st.2.1 + 1)), (2, .int (st.1 + u2.1)), (4, .int u2.1), (0, .ref (ad 0)), (1, .int p1)]) C 4 dX4_absorbInTurns_29 rfl rfl (by decide) rfl rfl ?_
        refine wd_goto (t := 4) C dX4_absorbInTurns_32 (by decide) ?_
        obtain rfl := Option.some.inj h
        refine wd_lv (lv' := [(0, .ref (ad 0)), (1, .int p1), (2, .int (st.1 + u2.1)), (3, .int (st.2.1 + 1))]) [3, 4, 1, 0] rfl ?_
        exact ih ((st.1 + u2.1), (st.2.1 + 1), u2.2.1, u2.2.2.1, u2.2.2.2.1, u2.2.2.2.2) E hk kx1 kx2
      · replace h := (if_pos c3).symm.trans h
        obtain rfl := Option.some.inj h
        obtain rfl := hk
        refine wd_lv (lv' := [(2, .int st.1)]) [3] rfl ?_
        exact kx2 _ rfl
set_option maxRecDepth 100000 in
set_option maxHeartbeats 4000000 in
theorem c_X4_absorbInTurns (l : Launch) (D : va_G) (cI cD : ClassId) (ad : Nat → Nat) (N : Nat) (hask : Int32) (nodes : Int32) (links : Int32) (deg : Nat → Int32) (nbr : Nat → Int32) (wk : Int32) (rot : Nat → Int32) (arv : Nat → Int32) (dep : Nat → Int32) (pos : Nat → Int32) (p1 : Int32) (u : Int32 × (Nat → Int32) × (Nat → Int32) × (Nat → Int32) × (Nat → Int32)) (h : f_X4_absorbInTurns N deg nbr wk rot arv dep pos p1 = some u) : MetI l yX4_absorbInTurns wsX4_absorbInTurns { frames := 3, cells := 0, slots := 0, locals := 71 } D [(cI, .int), (cD, .double)] [.ref (ad 0), .int p1] (w_X4_absorbInTurns ad cI cD hask nodes links deg nbr wk rot arv dep pos) u.1 (w_X4_absorbInTurns ad cI cD hask nodes links deg nbr wk u.2.1 u.2.2.1 u.2.2.2.1 u.2.2.2.2) := by
  refine MetI.of (own := RX4) (cc := cX4_absorbInTurns) (nL := 5) (ret := (some .int)) (by decide) rfl rfl (Nat.le_of_ble_eq_true rfl) rfl ?_
  intro p e s m args below meth c A hA C hr hlk
  unfold f_X4_absorbInTurns at h
  refine wd_iconst (j := 1) (v := 0) C dX4_absorbInTurns_0 (by decide) rfl ?_
  refine wd_istore_n (j := 2) (lv' := [(2, .int (0 : Int32)), (0, .ref (ad 0)), (1, .int p1)]) C dX4_absorbInTurns_1 rfl (by decide) rfl rfl ?_
  refine wd_iconst (j := 3) (v := 0) C dX4_absorbInTurns_2 (by decide) rfl ?_
  refine wd_istore_n (j := 4) (lv' := [(3, .int (0 : Int32)), (2, .int (0 : Int32)), (0, .ref (ad 0)), (1, .int p1)]) C dX4_absorbInTurns_3 rfl (by decide) rfl rfl ?_
  refine wd_lv (lv' := [(0, .ref (ad 0)), (1, .int p1), (2, .int (0 : Int32)), (3, .int (0 : Int32))]) [2, 3, 1, 0] rfl ?_
  obtain ⟨u4, hu4, h⟩ := bnd_some h
  refine lw_X4_absorbInTurns_4 l D cI cD ad N hask nodes links deg nbr wk p1 C N ((0 : Int32), (0 : Int32), rot, arv, dep, pos) u4 hu4 (fun u4a he => ?_) (fun u4b he => ?_)
  · subst he
    refine wd_iload_n (j := 36) C 0 dX4_absorbInTurns_35 rfl rfl rfl ?_
    obtain rfl := Option.some.inj h
    exact wd_iret C hA hr hlk rfl rfl rfl dX4_absorbInTurns_36
  · subst he
    refine wd_iload_n (j := 23) C 0 dX4_absorbInTurns_22 rfl rfl rfl ?_
    obtain rfl := Option.some.inj h
    exact wd_iret C hA hr hlk rfl rfl rfl dX4_absorbInTurns_23
abbrev w_X4_absorbOneByOne (ad : Nat → Nat) (cI cD : ClassId) (hask : Int32) (nodes : Int32) (links : Int32) (deg : Nat → Int32) (nbr : Nat → Int32) (wk : Int32) (rot : Nat → Int32) (arv : Nat → Int32) (dep : Nat → Int32) (pos : Nat → Int32) : va_W := [((ad 0), .inr (4, [.ref (ad 1), .ref (ad 3), .ref (ad 6), .ref (ad 11), .int hask, .ref (ad 16), .ref (ad 18), .ref (ad 20), .ref (ad 21), .ref (ad 22), .ref (ad 23)])), ((ad 3), .inr (0, [.ref (ad 4), .ref (ad 5), .int nodes, .int links])), ((ad 4), .inl (cI, 8, .inl deg)), ((ad 5), .inl (cI, 56, .inl nbr)), ((ad 6), .inr (3, [.ref (ad 7), .ref (ad 8), .ref (ad 9), .ref (ad 10), .int wk])), ((ad 7), .inl (cI, 8, .inl rot)), ((ad 8), .inl (cI, 8, .inl arv)), ((ad 9), .inl (cI, 56, .inl dep)), ((ad 10), .inl (cI, 4, .inl pos))]
theorem kX4_absorbOneByOne_1 : Cond.fieldLink "RotorRouter" 26 "RotorRouter" "current" "LRotorRouter$State;" ∈ wsX4_absorbOneByOne := List.mem_of_getElem? (i := 1) rfl
theorem kX4_absorbOneByOne_2 : Cond.fieldLink "RotorRouter" 109 "RotorRouter$State" "walkers" "I" ∈ wsX4_absorbOneByOne := List.mem_of_getElem? (i := 2) rfl
theorem kX4_absorbOneByOne_3 : Cond.fieldLink "RotorRouter" 112 "RotorRouter$State" "positions" "[I" ∈ wsX4_absorbOneByOne := List.mem_of_getElem? (i := 3) rfl
theorem kX4_absorbOneByOne_4 : Cond.constant "RotorRouter" 145 1000000 ∈ wsX4_absorbOneByOne := List.mem_of_getElem? (i := 4) rfl
theorem kX4_absorbOneByOne_5 : Cond.fieldLink "RotorRouter" 19 "RotorRouter" "graph" "LRotorRouter$Graph;" ∈ wsX4_absorbOneByOne := List.mem_of_getElem? (i := 5) rfl
theorem inX4_absorbOneByOne_X4 : ∀ w ∈ wsX40, w ∈ wsX4_absorbOneByOne := fun _ h => List.mem_cons_of_mem _ (List.mem_append_left _ (List.mem_append_left _ (List.mem_append_right _ h)))
theorem inX4_absorbOneByOne_X3 : ∀ w ∈ wsX30, w ∈ wsX4_absorbOneByOne := fun _ h => List.mem_cons_of_mem _ (List.mem_append_left _ (List.mem_append_right _ h))
set_option maxRecDepth 100000 in
set_option maxHeartbeats 4000000 in
theorem lw_X4_absorbOneByOne_15 (l : Launch) (D : va_G) (cI cD : ClassId) (ad : Nat → Nat) (N : Nat) (hask : Int32) (nodes : Int32) (links : Int32) (wk : Int32) (deg : Nat → Int32) (nbr : Nat → Int32) (p1 : Int32) (p3 : Int32) {p : Program} {e : Env} {s : State} {m : MethodId} {args : Array Value} {below : List Frame} {meth : Method} {c : Code} {A : Nat → Prop} {Q : State → Prop} (C : wd_C p m c cX4_absorbOneByOne 4 s args wsX4_absorbOneByOne RX4 D [(cI, .int), (cD, .double)] A) : ∀ (n : Nat) (st : Int32 × (Nat → Int32) × (Nat → Int32) × (Nat → Int32) × (Nat → Int32)) (E : Int32 × (Nat → Int32) × (Nat → Int32) × (Nat → Int32) × (Nat → Int32)), iter (b_X4_absorbOneByOne_15 deg nbr p1 p3) n st = some E → (Wd p l e { frames := 2, cells := 0, slots := 0, locals := 48 } s m args below meth c 4 D A 0 0 Q 52 [(0, .ref (ad 0)), (1, .int p1), (2, .int E.1), (3, .int p3)] [] (w_X4_absorbOneByOne ad cI cD hask nodes links deg nbr wk E.2.1 E.2.2.1 E.2.2.2.1 E.2.2.2.2)) → Wd p l e { frames := 2, cells := 0, slots := 0, locals := 48 } s m args below meth c 4 D A 0 0 Q 15 [(0, .ref (ad 0)), (1, .int p1), (2, .int st.1), (3, .int p3)] [] (w_X4_absorbOneByOne ad cI cD hask nodes links deg nbr wk st.2.1 st.2.2.1 st.2.2.2.1 st.2.2.2.2) := by
  intro n
  induction n with
  | zero => intro st E h; cases h
  | succ n ih =>
    intro st E h kx
    obtain ⟨b, h, hk⟩ := iter_step h
    unfold b_X4_absorbOneByOne_15 at h
    refine wd_aload_n (j := 16) C 0 dX4_absorbOneByOne_15 rfl rfl rfl ?_
    refine wd_get (j := 19) (q0 := 0) (f := 2) (ci := 4) (v := .ref (ad 6)) C inX4_absorbOneByOne_X4 kX4_absorbOneByOne_1 rfl (by decide) rfl rfl dX4_absorbOneByOne_16 rfl ?_
    refine wd_get (j := 22) (q0 := 4) (f := 3) (ci := 3) (v := .ref (ad 10)) C inX4_absorbOneByOne_X3 kX4_absorbOneByOne_3 rfl (by decide) rfl rfl dX4_absorbOneByOne_19 rfl ?_
    refine wd_iload_n (j := 23) C 3 dX4_absorbOneByOne_22 rfl rfl rfl ?_
    obtain ⟨g1, h⟩ := grd_some h
    refine wd_iald (j := 24) (q0 := 8) (t0 := 0) C rfl rfl (inB_in g1) dX4_absorbOneByOne_23 rfl ?_
    refine wd_iload_n (j := 25) C 1 dX4_absorbOneByOne_24 rfl rfl rfl ?_
    refine wd_icmp_eq (j := 28) (t := 52) C dX4_absorbOneByOne_25 (by decide) rfl (fun c2 => ?_) (fun c2 => ?_)
    · replace h := (if_pos c2).symm.trans h
      obtain rfl := Option.some.inj h
      obtain rfl := hk
      exact kx
    · replace h := (if_neg c2).symm.trans h
      refine wd_iload_n (j := 29) C 2 dX4_absorbOneByOne_28 rfl rfl rfl ?_
      refine wd_ldc (j := 31) C dX4_absorbOneByOne_29 kX4_absorbOneByOne_4 rfl ?_
      refine wd_icmp_ge (j := 34) (t := 52) C dX4_absorbOneByOne_31 (by decide) rfl (fun c3 => ?_) (fun c3 => ?_)
      · replace h := (if_pos c3).symm.trans h
        obtain rfl := Option.some.inj h
        obtain rfl := hk
        exact kx
      · replace h := (if_neg c3).symm.trans h
        refine wd_aload_n (j := 35) C 0 dX4_absorbOneByOne_34 rfl rfl rfl ?_
        refine wd_get (j := 38) (q0 := 0) (f := 2) (ci := 4) (v := .ref (ad 6)) C inX4_absorbOneByOne_X4 kX4_absorbOneByOne_1 rfl (by decide) rfl rfl dX4_absorbOneByOne_35 rfl ?_
        refine wd_iload_n (j := 39) C 3 dX4_absorbOneByOne_38 rfl rfl rfl ?_
        refine wd_aload_n (j := 40) C 0 dX4_absorbOneByOne_39 rfl rfl rfl ?_
        refine wd_get (j := 43) (q0 := 0) (f := 1) (ci := 4) (v := .ref (ad 3)) C inX4_absorbOneByOne_X4 kX4_absorbOneByOne_5 rfl (by decide) rfl rfl dX4_absorbOneByOne_40 rfl ?_
        obtain ⟨u4, hu4, h⟩ := bnd_some h
        refine wd_callVv (j := 46) (q0 := 0) (ci := 3) (As := [.int p3, .ref (ad 3)]) (rest := []) (ws' := (w_X4_absorbOneByOne ad cI cD hask nodes links deg nbr wk u4.1 u4.2.1 u4.2.2.1 u4.2.2.2)) C (c_X3_move l D cI cD (ad 6) (ad 7) (ad 8) (ad 9) (ad 10) (ad 3) (ad 4) (ad 5) wk st.2.1 st.2.2.1 st.2.2.2.1 st.2.2.2.2 nodes links deg nbr p3 u4 hu4) (cwV 2 C.1.2.2.2.2 gX4_absorbOneByOne_X3_move rfl rfl rfl (by decide +kernel) ⟨Nat.le_of_ble_eq_true rfl, Nat.le_of_ble_eq_true rfl⟩) rfl rfl [4, 5, 6, 7, 8, 1, 2, 3] [0] rfl rfl rfl rfl (by decide) [0, 6, 7, 8, 1, 2, 3, 4, 5] rfl rfl rfl (Nat.le_of_ble_eq_true rfl) (Nat.le_of_ble_eq_true rfl) (Nat.le_of_ble_eq_true rfl) dX4_absorbOneByOne_43 rfl ?_
        refine wd_iinc (j := 49) (lv' := [(2, .int (st.1 + 1)), (0, .ref (ad 0)), (1, .int p1), (3, .int p3)]) C 2 dX4_absorbOneByOne_46 rfl rfl (by decide) rfl rfl ?_
        refine wd_goto (t := 15) C dX4_absorbOneByOne_49 (by decide) ?_
        obtain rfl := Option.some.inj h
        refine wd_lv (lv' := [(0, .ref (ad 0)), (1, .int p1), (2, .int (st.1 + 1)), (3, .int p3)]) [1, 2, 0, 3] rfl ?_
        exact ih ((st.1 + 1), u4.1, u4.2.1, u4.2.2.1, u4.2.2.2) E hk kx
set_option maxRecDepth 100000 in
set_option maxHeartbeats 4000000 in
theorem lw_X4_absorbOneByOne_4 (l : Launch) (D : va_G) (cI cD : ClassId) (ad : Nat → Nat) (N : Nat) (hask : Int32) (nodes : Int32) (links : Int32) (deg : Nat → Int32) (nbr : Nat → Int32) (wk : Int32) (p1 : Int32) {p : Program} {e : Env} {s : State} {m : MethodId} {args : Array Value} {below : List Frame} {meth : Method} {c : Code} {A : Nat → Prop} {Q : State → Prop} (C : wd_C p m c cX4_absorbOneByOne 4 s args wsX4_absorbOneByOne RX4 D [(cI, .int), (cD, .double)] A) : ∀ (n : Nat) (st : Int32 × Int32 × (Nat → Int32) × (Nat → Int32) × (Nat → Int32) × (Nat → Int32)) (E : Int32 × (Nat → Int32) × (Nat → Int32) × (Nat → Int32) × (Nat → Int32)), iter (b_X4_absorbOneByOne_4 N deg nbr wk p1) n st = some E → (Wd p l e { frames := 2, cells := 0, slots := 0, locals := 48 } s m args below meth c 4 D A 0 0 Q 58 [(2, .int E.1)] [] (w_X4_absorbOneByOne ad cI cD hask nodes links deg nbr wk E.2.1 E.2.2.1 E.2.2.2.1 E.2.2.2.2)) → Wd p l e { frames := 2, cells := 0, slots := 0, locals := 48 } s m args below meth c 4 D A 0 0 Q 4 [(0, .ref (ad 0)), (1, .int p1), (2, .int st.1), (3, .int st.2.1)] [] (w_X4_absorbOneByOne ad cI cD hask nodes links deg nbr wk st.2.2.1 st.2.2.2.1 st.2.2.2.2.1 st.2.2.2.2.2) := by
  intro n
  induction n with
  | zero => intro st E h; cases h
  | succ n ih =>
    intro st E h kx
    obtain ⟨b, h, hk⟩ := iter_step h
    unfold b_X4_absorbOneByOne_4 at h
    refine wd_iload_n (j := 5) C 3 dX4_absorbOneByOne_4 rfl rfl rfl ?_
    refine wd_aload_n (j := 6) C 0 dX4_absorbOneByOne_5 rfl rfl rfl ?_
    refine wd_get (j := 9) (q0 := 0) (f := 2) (ci := 4) (v := .ref (ad 6)) C inX4_absorbOneByOne_X4 kX4_absorbOneByOne_1 rfl (by decide) rfl rfl dX4_absorbOneByOne_6 rfl ?_
    refine wd_get (j := 12) (q0 := 4) (f := 4) (ci := 3) (v := .int wk) C inX4_absorbOneByOne_X3 kX4_absorbOneByOne_2 rfl (by decide) rfl rfl dX4_absorbOneByOne_9 rfl ?_
    refine wd_icmp_ge (j := 15) (t := 58) C dX4_absorbOneByOne_12 (by decide) rfl (fun c5 => ?_) (fun c5 => ?_)
    · replace h := (if_pos c5).symm.trans h
      obtain rfl := Option.some.inj h
      obtain rfl := hk
      refine wd_lv (lv' := [(2, .int st.1)]) [2] rfl ?_
      exact kx
    · replace h := (if_neg c5).symm.trans h
      obtain ⟨u6, hu6, h⟩ := bnd_some h
      refine lw_X4_absorbOneByOne_15 l D cI cD ad N hask nodes links wk deg nbr p1 st.2.1 C N (st.1, st.2.2.1, st.2.2.2.1, st.2.2.2.2.1, st.2.2.2.2.2) u6 hu6 ?_
      refine wd_iinc (j := 55) (lv' := [(3, .int (st.2.1 + 1)), (0, .ref (ad 0)), (1, .int p1), (2, .int u6.1)]) C 3 dX4_absorbOneByOne_52 rfl rfl (by decide) rfl rfl ?_
      refine wd_goto (t := 4) C dX4_absorbOneByOne_55 (by decide) ?_
      obtain rfl := Option.some.inj h
      refine wd_lv (lv' := [(0, .ref (ad 0)), (1, .int p1), (2, .int u6.1), (3, .int (st.2.1 + 1))]) [1, 2, 3, 0] rfl ?_
      exact ih (u6.1, (st.2.1 + 1), u6.2.1, u6.2.2.1, u6.2.2.2.1, u6.2.2.2.2) E hk kx
set_option maxRecDepth 100000 in
set_option maxHeartbeats 4000000 in
theorem c_X4_absorbOneByOne (l : Launch) (D : va_G) (cI cD : ClassId) (ad : Nat → Nat) (N : Nat) (hask : Int32) (nodes : Int32) (links : Int32) (deg : Nat → Int32) (nbr : Nat → Int32) (wk : Int32) (rot : Nat → Int32) (arv : Nat → Int32) (dep : Nat → Int32) (pos : Nat → Int32) (p1 : Int32) (u : Int32 × (Nat → Int32) × (Nat → Int32) × (Nat → Int32) × (Nat → Int32)) (h : f_X4_absorbOneByOne N deg nbr wk rot arv dep pos p1 = some u) : MetI l yX4_absorbOneByOne wsX4_absorbOneByOne { frames := 2, cells := 0, slots := 0, locals := 48 } D [(cI, .int), (cD, .double)] [.ref (ad 0), .int p1] (w_X4_absorbOneByOne ad cI cD hask nodes links deg nbr wk rot arv dep pos) u.1 (w_X4_absorbOneByOne ad cI cD hask nodes links deg nbr wk u.2.1 u.2.2.1 u.2.2.2.1 u.2.2.2.2) := by
  refine MetI.of (own := RX4) (cc := cX4_absorbOneByOne) (nL := 4) (ret := (some .int)) (by decide) rfl rfl (Nat.le_of_ble_eq_true rfl) rfl ?_
  intro p e s m args below meth c A hA C hr hlk
  unfold f_X4_absorbOneByOne at h
  refine wd_iconst (j := 1) (v := 0) C dX4_absorbOneByOne_0 (by decide) rfl ?_
  refine wd_istore_n (j := 2) (lv' := [(2, .int (0 : Int32)), (0, .ref (ad 0)), (1, .int p1)]) C dX4_absorbOneByOne_1 rfl (by decide) rfl rfl ?_
  refine wd_iconst (j := 3) (v := 0) C dX4_absorbOneByOne_2 (by decide) rfl ?_
  refine wd_istore_n (j := 4) (lv' := [(3, .int (0 : Int32)), (2, .int (0 : Int32)), (0, .ref (ad 0)), (1, .int p1)]) C dX4_absorbOneByOne_3 rfl (by decide) rfl rfl ?_
  refine wd_lv (lv' := [(0, .ref (ad 0)), (1, .int p1), (2, .int (0 : Int32)), (3, .int (0 : Int32))]) [2, 3, 1, 0] rfl ?_
  obtain ⟨u7, hu7, h⟩ := bnd_some h
  refine lw_X4_absorbOneByOne_4 l D cI cD ad N hask nodes links deg nbr wk p1 C N ((0 : Int32), (0 : Int32), rot, arv, dep, pos) u7 hu7 ?_
  refine wd_iload_n (j := 59) C 0 dX4_absorbOneByOne_58 rfl rfl rfl ?_
  obtain rfl := Option.some.inj h
  exact wd_iret C hA hr hlk rfl rfl rfl dX4_absorbOneByOne_59
abbrev w_X4_absorb (ad : Nat → Nat) (cI cD : ClassId) (hask : Int32) (nodes : Int32) (links : Int32) (deg : Nat → Int32) (nbr : Nat → Int32) (wk : Int32) (rot : Nat → Int32) (arv : Nat → Int32) (dep : Nat → Int32) (pos : Nat → Int32) : va_W := [((ad 0), .inr (4, [.ref (ad 1), .ref (ad 3), .ref (ad 6), .ref (ad 11), .int hask, .ref (ad 16), .ref (ad 18), .ref (ad 20), .ref (ad 21), .ref (ad 22), .ref (ad 23)])), ((ad 3), .inr (0, [.ref (ad 4), .ref (ad 5), .int nodes, .int links])), ((ad 4), .inl (cI, 8, .inl deg)), ((ad 5), .inl (cI, 56, .inl nbr)), ((ad 6), .inr (3, [.ref (ad 7), .ref (ad 8), .ref (ad 9), .ref (ad 10), .int wk])), ((ad 7), .inl (cI, 8, .inl rot)), ((ad 8), .inl (cI, 8, .inl arv)), ((ad 9), .inl (cI, 56, .inl dep)), ((ad 10), .inl (cI, 4, .inl pos))]
theorem kX4_absorb_1 : Cond.fieldLink "RotorRouter" 19 "RotorRouter" "graph" "LRotorRouter$Graph;" ∈ wsX4_absorb := List.mem_of_getElem? (i := 1) rfl
theorem inX4_absorb_X4 : ∀ w ∈ wsX40, w ∈ wsX4_absorb := fun _ h => List.mem_cons_of_mem _ (List.mem_append_left _ (List.mem_append_left _ (List.mem_append_right _ h)))
set_option maxRecDepth 100000 in
set_option maxHeartbeats 4000000 in
theorem c_X4_absorb (l : Launch) (D : va_G) (cI cD : ClassId) (ad : Nat → Nat) (N : Nat) (hask : Int32) (nodes : Int32) (links : Int32) (deg : Nat → Int32) (nbr : Nat → Int32) (wk : Int32) (rot : Nat → Int32) (arv : Nat → Int32) (dep : Nat → Int32) (pos : Nat → Int32) (p1 : Int32) (p2 : Int32) (u : Int32 × (Nat → Int32) × (Nat → Int32) × (Nat → Int32) × (Nat → Int32)) (h : f_X4_absorb N nodes deg nbr wk rot arv dep pos p1 p2 = some u) : MetI l yX4_absorb wsX4_absorb { frames := 4, cells := 0, slots := 0, locals := 95 } D [(cI, .int), (cD, .double)] [.ref (ad 0), .int p1, .int p2] (w_X4_absorb ad cI cD hask nodes links deg nbr wk rot arv dep pos) u.1 (w_X4_absorb ad cI cD hask nodes links deg nbr wk u.2.1 u.2.2.1 u.2.2.2.1 u.2.2.2.2) := by
  refine MetI.of (own := RX4) (cc := cX4_absorb) (nL := 3) (ret := (some .int)) (by decide) rfl rfl (Nat.le_of_ble_eq_true rfl) rfl ?_
  intro p e s m args below meth c A hA C hr hlk
  unfold f_X4_absorb at h
  refine wd_aload_n (j := 1) C 0 dX4_absorb_0 rfl rfl rfl ?_
  refine wd_get (j := 4) (q0 := 0) (f := 1) (ci := 4) (v := .ref (ad 3)) C inX4_absorb_X4 kX4_absorb_1 rfl (by decide) rfl rfl dX4_absorb_1 rfl ?_
  refine wd_iload_n (j := 5) C 1 dX4_absorb_4 rfl rfl rfl ?_
  obtain ⟨u1, hu1, h⟩ := bnd_some h
  refine wd_callVi (j := 8) (q0 := 0) (ci := 0) (As := [.int p1]) (rest := []) (ws' := (w_X4_absorb ad cI cD hask nodes links deg nbr wk rot arv dep pos)) C (c_X0_hasNode l D cI cD (ad 3) (ad 4) (ad 5) nodes links p1 u1 hu1) (cwV 1 C.1.2.2.2.2 gX4_absorb_X0_hasNode rfl rfl rfl (by decide +kernel) ⟨Nat.le_of_ble_eq_true rfl, Nat.le_of_ble_eq_true rfl⟩) rfl rfl [1] [0, 2, 3, 4, 5, 6, 7, 8] rfl rfl rfl rfl (by decide) [0, 8, 1, 2, 3, 4, 5, 6, 7] rfl rfl rfl (Nat.le_of_ble_eq_true rfl) (Nat.le_of_ble_eq_true rfl) (Nat.le_of_ble_eq_true rfl) dX4_absorb_5 rfl ?_
  refine wd_if_ne (j := 11) (t := 14) C dX4_absorb_8 (by decide) rfl (fun c2 => ?_) (fun c2 => ?_)
  · replace h := (if_neg c2).symm.trans h
    refine wd_iload_n (j := 15) C 2 dX4_absorb_14 rfl rfl rfl ?_
    refine wd_if_eq (j := 18) (t := 26) C dX4_absorb_15 (by decide) rfl (fun c3 => ?_) (fun c3 => ?_)
    · replace h := (if_pos c3).symm.trans h
      refine wd_aload_n (j := 27) C 0 dX4_absorb_26 rfl rfl rfl ?_
      refine wd_iload_n (j := 28) C 1 dX4_absorb_27 rfl rfl rfl ?_
      obtain ⟨u4, hu4, h⟩ := bnd_some h
      refine wd_callVi (j := 31) (q0 := 0) (ci := 4) (As := [.int p1]) (rest := []) (ws' := (w_X4_absorb ad cI cD hask nodes links deg nbr wk u4.2.1 u4.2.2.1 u4.2.2.2.1 u4.2.2.2.2)) C (c_X4_absorbOneByOne l D cI cD ad N hask nodes links deg nbr wk rot arv dep pos p1 u4 hu4) (cwV 1 C.1.2.2.2.2 gX4_absorb_X4_absorbOneByOne rfl rfl rfl (by decide +kernel) ⟨Nat.le_of_ble_eq_true rfl, Nat.le_of_ble_eq_true rfl⟩) rfl rfl [0, 1, 2, 3, 4, 5, 6, 7, 8] [] rfl rfl rfl rfl (by decide) [0, 1, 2, 3, 4, 5, 6, 7, 8] rfl rfl rfl (Nat.le_of_ble_eq_true rfl) (Nat.le_of_ble_eq_true rfl) (Nat.le_of_ble_eq_true rfl) dX4_absorb_28 rfl ?_
      obtain rfl := Option.some.inj h
      exact wd_iret C hA hr hlk rfl rfl rfl dX4_absorb_31
    · replace h := (if_neg c3).symm.trans h
      refine wd_aload_n (j := 19) C 0 dX4_absorb_18 rfl rfl rfl ?_
      refine wd_iload_n (j := 20) C 1 dX4_absorb_19 rfl rfl rfl ?_
      obtain ⟨u5, hu5, h⟩ := bnd_some h
      refine wd_callVi (j := 23) (q0 := 0) (ci := 4) (As := [.int p1]) (rest := []) (ws' := (w_X4_absorb ad cI cD hask nodes links deg nbr wk u5.2.1 u5.2.2.1 u5.2.2.2.1 u5.2.2.2.2)) C (c_X4_absorbInTurns l D cI cD ad N hask nodes links deg nbr wk rot arv dep pos p1 u5 hu5) (cwV 1 C.1.2.2.2.2 gX4_absorb_X4_absorbInTurns rfl rfl rfl (by decide +kernel) ⟨Nat.le_of_ble_eq_true rfl, Nat.le_of_ble_eq_true rfl⟩) rfl rfl [0, 1, 2, 3, 4, 5, 6, 7, 8] [] rfl rfl rfl rfl (by decide) [0, 1, 2, 3, 4, 5, 6, 7, 8] rfl rfl rfl (Nat.le_of_ble_eq_true rfl) (Nat.le_of_ble_eq_true rfl) (Nat.le_of_ble_eq_true rfl) dX4_absorb_20 rfl ?_
      refine wd_goto (t := 31) C dX4_absorb_23 (by decide) ?_
      obtain rfl := Option.some.inj h
      exact wd_iret C hA hr hlk rfl rfl rfl dX4_absorb_31
  · replace h := (if_pos c2).symm.trans h
    refine wd_bipush (j := 13) (v := -4) C dX4_absorb_11 (by decide) rfl ?_
    obtain rfl := Option.some.inj h
    exact wd_iret C hA hr hlk rfl rfl rfl dX4_absorb_13
abbrev w_X4_arrivals (ad : Nat → Nat) (cI cD : ClassId) (hask : Int32) (nodes : Int32) (links : Int32) (wk : Int32) (arv : Nat → Int32) : va_W := [((ad 0), .inr (4, [.ref (ad 1), .ref (ad 3), .ref (ad 6), .ref (ad 11), .int hask, .ref (ad 16), .ref (ad 18), .ref (ad 20), .ref (ad 21), .ref (ad 22), .ref (ad 23)])), ((ad 3), .inr (0, [.ref (ad 4), .ref (ad 5), .int nodes, .int links])), ((ad 6), .inr (3, [.ref (ad 7), .ref (ad 8), .ref (ad 9), .ref (ad 10), .int wk])), ((ad 8), .inl (cI, 8, .inl arv))]
theorem kX4_arrivals_1 : Cond.fieldLink "RotorRouter" 19 "RotorRouter" "graph" "LRotorRouter$Graph;" ∈ wsX4_arrivals := List.mem_of_getElem? (i := 1) rfl
theorem kX4_arrivals_2 : Cond.fieldLink "RotorRouter" 26 "RotorRouter" "current" "LRotorRouter$State;" ∈ wsX4_arrivals := List.mem_of_getElem? (i := 2) rfl
theorem kX4_arrivals_3 : Cond.fieldLink "RotorRouter" 129 "RotorRouter$State" "arrived" "[I" ∈ wsX4_arrivals := List.mem_of_getElem? (i := 3) rfl
theorem inX4_arrivals_X4 : ∀ w ∈ wsX40, w ∈ wsX4_arrivals := fun _ h => List.mem_cons_of_mem _ (List.mem_append_left _ (List.mem_append_left _ (List.mem_append_right _ h)))
theorem inX4_arrivals_X3 : ∀ w ∈ wsX30, w ∈ wsX4_arrivals := fun _ h => List.mem_cons_of_mem _ (List.mem_append_left _ (List.mem_append_right _ h))
set_option maxRecDepth 100000 in
set_option maxHeartbeats 4000000 in
theorem c_X4_arrivals (l : Launch) (D : va_G) (cI cD : ClassId) (ad : Nat → Nat) (hask : Int32) (nodes : Int32) (links : Int32) (wk : Int32) (arv : Nat → Int32) (p1 : Int32) (u : Int32) (h : f_X4_arrivals nodes arv p1 = some u) : MetI l yX4_arrivals wsX4_arrivals { frames := 1, cells := 0, slots := 0, locals := 21 } D [(cI, .int), (cD, .double)] [.ref (ad 0), .int p1] (w_X4_arrivals ad cI cD hask nodes links wk arv) u (w_X4_arrivals ad cI cD hask nodes links wk arv) := by
  refine MetI.of (own := RX4) (cc := cX4_arrivals) (nL := 2) (ret := (some .int)) (by decide) rfl rfl (Nat.le_of_ble_eq_true rfl) rfl ?_
  intro p e s m args below meth c A hA C hr hlk
  unfold f_X4_arrivals at h
  refine wd_aload_n (j := 1) C 0 dX4_arrivals_0 rfl rfl rfl ?_
  refine wd_get (j := 4) (q0 := 0) (f := 1) (ci := 4) (v := .ref (ad 3)) C inX4_arrivals_X4 kX4_arrivals_1 rfl (by decide) rfl rfl dX4_arrivals_1 rfl ?_
  refine wd_iload_n (j := 5) C 1 dX4_arrivals_4 rfl rfl rfl ?_
  obtain ⟨u1, hu1, h⟩ := bnd_some h
  refine wd_callVi (j := 8) (q0 := 0) (ci := 0) (As := [.int p1]) (rest := []) (ws' := (w_X4_arrivals ad cI cD hask nodes links wk arv)) C (c_X0_hasNode l D cI cD (ad 3) (ad 4) (ad 5) nodes links p1 u1 hu1) (cwV 1 C.1.2.2.2.2 gX4_arrivals_X0_hasNode rfl rfl rfl (by decide +kernel) ⟨Nat.le_of_ble_eq_true rfl, Nat.le_of_ble_eq_true rfl⟩) rfl rfl [1] [0, 2, 3] rfl rfl rfl rfl (by decide) [0, 3, 1, 2] rfl rfl rfl (Nat.le_of_ble_eq_true rfl) (Nat.le_of_ble_eq_true rfl) (Nat.le_of_ble_eq_true rfl) dX4_arrivals_5 rfl ?_
  refine wd_if_ne (j := 11) (t := 14) C dX4_arrivals_8 (by decide) rfl (fun c2 => ?_) (fun c2 => ?_)
  · replace h := (if_neg c2).symm.trans h
    refine wd_aload_n (j := 15) C 0 dX4_arrivals_14 rfl rfl rfl ?_
    refine wd_get (j := 18) (q0 := 0) (f := 2) (ci := 4) (v := .ref (ad 6)) C inX4_arrivals_X4 kX4_arrivals_2 rfl (by decide) rfl rfl dX4_arrivals_15 rfl ?_
    refine wd_get (j := 21) (q0 := 2) (f := 1) (ci := 3) (v := .ref (ad 8)) C inX4_arrivals_X3 kX4_arrivals_3 rfl (by decide) rfl rfl dX4_arrivals_18 rfl ?_
    refine wd_iload_n (j := 22) C 1 dX4_arrivals_21 rfl rfl rfl ?_
    obtain ⟨g3, h⟩ := grd_some h
    refine wd_iald (j := 23) (q0 := 3) (t0 := 0) C rfl rfl (inB_in g3) dX4_arrivals_22 rfl ?_
    obtain rfl := Option.some.inj h
    exact wd_iret C hA hr hlk rfl rfl rfl dX4_arrivals_23
  · replace h := (if_pos c2).symm.trans h
    refine wd_bipush (j := 13) (v := -4) C dX4_arrivals_11 (by decide) rfl ?_
    obtain rfl := Option.some.inj h
    exact wd_iret C hA hr hlk rfl rfl rfl dX4_arrivals_13
abbrev w_X4_departures (ad : Nat → Nat) (cI cD : ClassId) (hask : Int32) (nodes : Int32) (links : Int32) (deg : Nat → Int32) (wk : Int32) (dep : Nat → Int32) : va_W := [((ad 0), .inr (4, [.ref (ad 1), .ref (ad 3), .ref (ad 6), .ref (ad 11), .int hask, .ref (ad 16), .ref (ad 18), .ref (ad 20), .ref (ad 21), .ref (ad 22), .ref (ad 23)])), ((ad 3), .inr (0, [.ref (ad 4), .ref (ad 5), .int nodes, .int links])), ((ad 4), .inl (cI, 8, .inl deg)), ((ad 6), .inr (3, [.ref (ad 7), .ref (ad 8), .ref (ad 9), .ref (ad 10), .int wk])), ((ad 9), .inl (cI, 56, .inl dep))]
theorem kX4_departures_1 : Cond.fieldLink "RotorRouter" 19 "RotorRouter" "graph" "LRotorRouter$Graph;" ∈ wsX4_departures := List.mem_of_getElem? (i := 1) rfl
theorem kX4_departures_2 : Cond.fieldLink "RotorRouter" 26 "RotorRouter" "current" "LRotorRouter$State;" ∈ wsX4_departures := List.mem_of_getElem? (i := 2) rfl
theorem kX4_departures_3 : Cond.fieldLink "RotorRouter" 132 "RotorRouter$State" "departed" "[I" ∈ wsX4_departures := List.mem_of_getElem? (i := 3) rfl
theorem inX4_departures_X4 : ∀ w ∈ wsX40, w ∈ wsX4_departures := fun _ h => List.mem_cons_of_mem _ (List.mem_append_left _ (List.mem_append_left _ (List.mem_append_right _ h)))
theorem inX4_departures_X3 : ∀ w ∈ wsX30, w ∈ wsX4_departures := fun _ h => List.mem_cons_of_mem _ (List.mem_append_left _ (List.mem_append_right _ h))
set_option maxRecDepth 100000 in
set_option maxHeartbeats 4000000 in
theorem c_X4_departures (l : Launch) (D : va_G) (cI cD : ClassId) (ad : Nat → Nat) (hask : Int32) (nodes : Int32) (links : Int32) (deg : Nat → Int32) (wk : Int32) (dep : Nat → Int32) (p1 : Int32) (p2 : Int32) (u : Int32) (h : f_X4_departures nodes deg dep p1 p2 = some u) : MetI l yX4_departures wsX4_departures { frames := 2, cells := 0, slots := 0, locals := 43 } D [(cI, .int), (cD, .double)] [.ref (ad 0), .int p1, .int p2] (w_X4_departures ad cI cD hask nodes links deg wk dep) u (w_X4_departures ad cI cD hask nodes links deg wk dep) := by
  refine MetI.of (own := RX4) (cc := cX4_departures) (nL := 4) (ret := (some .int)) (by decide) rfl rfl (Nat.le_of_ble_eq_true rfl) rfl ?_
  intro p e s m args below meth c A hA C hr hlk
  unfold f_X4_departures at h
  refine wd_aload_n (j := 1) C 0 dX4_departures_0 rfl rfl rfl ?_
  refine wd_get (j := 4) (q0 := 0) (f := 1) (ci := 4) (v := .ref (ad 3)) C inX4_departures_X4 kX4_departures_1 rfl (by decide) rfl rfl dX4_departures_1 rfl ?_
  refine wd_iload_n (j := 5) C 1 dX4_departures_4 rfl rfl rfl ?_
  refine wd_iload_n (j := 6) C 2 dX4_departures_5 rfl rfl rfl ?_
  obtain ⟨u1, hu1, h⟩ := bnd_some h
  refine wd_callVi (j := 9) (q0 := 0) (ci := 0) (As := [.int p1, .int p2]) (rest := []) (ws' := (w_X4_departures ad cI cD hask nodes links deg wk dep)) C (c_X0_neighborError l D cI cD (ad 3) (ad 4) (ad 5) nodes links deg p1 p2 u1 hu1) (cwV 2 C.1.2.2.2.2 gX4_departures_X0_neighborError rfl rfl rfl (by decide +kernel) ⟨Nat.le_of_ble_eq_true rfl, Nat.le_of_ble_eq_true rfl⟩) rfl rfl [1, 2] [0, 3, 4] rfl rfl rfl rfl (by decide) [0, 3, 4, 1, 2] rfl rfl rfl (Nat.le_of_ble_eq_true rfl) (Nat.le_of_ble_eq_true rfl) (Nat.le_of_ble_eq_true rfl) dX4_departures_6 rfl ?_
  refine wd_istore_n (j := 10) (lv' := [(3, .int u1), (0, .ref (ad 0)), (1, .int p1), (2, .int p2)]) C dX4_departures_9 rfl (by decide) rfl rfl ?_
  refine wd_iload_n (j := 11) C 0 dX4_departures_10 rfl rfl rfl ?_
  refine wd_if_eq (j := 14) (t := 16) C dX4_departures_11 (by decide) rfl (fun c2 => ?_) (fun c2 => ?_)
  · replace h := (if_pos c2).symm.trans h
    refine wd_aload_n (j := 17) C 1 dX4_departures_16 rfl rfl rfl ?_
    refine wd_get (j := 20) (q0 := 0) (f := 2) (ci := 4) (v := .ref (ad 6)) C inX4_departures_X4 kX4_departures_2 rfl (by decide) rfl rfl dX4_departures_17 rfl ?_
    refine wd_get (j := 23) (q0 := 3) (f := 2) (ci := 3) (v := .ref (ad 9)) C inX4_departures_X3 kX4_departures_3 rfl (by decide) rfl rfl dX4_departures_20 rfl ?_
    refine wd_iload_n (j := 24) C 2 dX4_departures_23 rfl rfl rfl ?_
    refine wd_iload_n (j := 25) C 3 dX4_departures_24 rfl rfl rfl ?_
    obtain ⟨u3, hu3, h⟩ := bnd_some h
    refine wd_callSi (j := 28) (As := [.int p1, .int p2]) (rest := [.ref (ad 9)]) (ws' := (w_X4_departures ad cI cD hask nodes links deg wk dep)) C (c_X0_slot l D cI cD p1 p2 u3 hu3) (va_cwS 2 C.1.2.2.2.2 gX4_departures_X0_slot rfl rfl rfl (by decide +kernel) ⟨Nat.le_of_ble_eq_true rfl, Nat.le_of_ble_eq_true rfl⟩) [] [0, 1, 2, 3, 4] rfl rfl rfl rfl (by decide) [0, 1, 2, 3, 4] rfl rfl rfl (Nat.le_of_ble_eq_true rfl) (Nat.le_of_ble_eq_true rfl) (Nat.le_of_ble_eq_true rfl) dX4_departures_25 rfl ?_
    obtain ⟨g4, h⟩ := grd_some h
    refine wd_iald (j := 29) (q0 := 4) (t0 := 0) C rfl rfl (inB_in g4) dX4_departures_28 rfl ?_
    obtain rfl := Option.some.inj h
    exact wd_iret C hA hr hlk rfl rfl rfl dX4_departures_29
  · replace h := (if_neg c2).symm.trans h
    refine wd_iload_n (j := 15) C 0 dX4_departures_14 rfl rfl rfl ?_
    obtain rfl := Option.some.inj h
    exact wd_iret C hA hr hlk rfl rfl rfl dX4_departures_15
abbrev w_X4_stepsToCycle (ad : Nat → Nat) (cI cD : ClassId) (hask : Int32) (nodes : Int32) (links : Int32) (deg : Nat → Int32) (nbr : Nat → Int32) (wk : Int32) (rot : Nat → Int32) (pos : Nat → Int32) (node : Int32) (prot : Nat → Int32) (nodeA : Int32) (protA : Nat → Int32) : va_W := [((ad 0), .inr (4, [.ref (ad 1), .ref (ad 3), .ref (ad 6), .ref (ad 11), .int hask, .ref (ad 16), .ref (ad 18), .ref (ad 20), .ref (ad 21), .ref (ad 22), .ref (ad 23)])), ((ad 3), .inr (0, [.ref (ad 4), .ref (ad 5), .int nodes, .int links])), ((ad 4), .inl (cI, 8, .inl deg)), ((ad 5), .inl (cI, 56, .inl nbr)), ((ad 6), .inr (3, [.ref (ad 7), .ref (ad 8), .ref (ad 9), .ref (ad 10), .int wk])), ((ad 7), .inl (cI, 8, .inl rot)), ((ad 10), .inl (cI, 4, .inl pos)), ((ad 16), .inr (2, [.ref (ad 17), .int node])), ((ad 17), .inl (cI, 8, .inl prot)), ((ad 18), .inr (2, [.ref (ad 19), .int nodeA])), ((ad 19), .inl (cI, 8, .inl protA))]
theorem kX4_stepsToCycle_1 : Cond.fieldLink "RotorRouter" 26 "RotorRouter" "current" "LRotorRouter$State;" ∈ wsX4_stepsToCycle := List.mem_of_getElem? (i := 1) rfl
theorem kX4_stepsToCycle_2 : Cond.fieldLink "RotorRouter" 19 "RotorRouter" "graph" "LRotorRouter$Graph;" ∈ wsX4_stepsToCycle := List.mem_of_getElem? (i := 2) rfl
theorem kX4_stepsToCycle_3 : Cond.fieldLink "RotorRouter" 135 "RotorRouter$Graph" "links" "I" ∈ wsX4_stepsToCycle := List.mem_of_getElem? (i := 3) rfl
theorem kX4_stepsToCycle_4 : Cond.fieldLink "RotorRouter" 40 "RotorRouter" "probe" "LRotorRouter$Probe;" ∈ wsX4_stepsToCycle := List.mem_of_getElem? (i := 4) rfl
theorem kX4_stepsToCycle_5 : Cond.fieldLink "RotorRouter" 112 "RotorRouter$State" "positions" "[I" ∈ wsX4_stepsToCycle := List.mem_of_getElem? (i := 5) rfl
theorem kX4_stepsToCycle_6 : Cond.fieldLink "RotorRouter" 106 "RotorRouter$State" "rotors" "[I" ∈ wsX4_stepsToCycle := List.mem_of_getElem? (i := 6) rfl
theorem kX4_stepsToCycle_7 : Cond.fieldLink "RotorRouter" 44 "RotorRouter" "probeAhead" "LRotorRouter$Probe;" ∈ wsX4_stepsToCycle := List.mem_of_getElem? (i := 7) rfl
theorem kX4_stepsToCycle_8 : Cond.constant "RotorRouter" 145 1000000 ∈ wsX4_stepsToCycle := List.mem_of_getElem? (i := 8) rfl
theorem kX4_stepsToCycle_9 : Cond.fieldLink "RotorRouter" 86 "RotorRouter$Graph" "nodes" "I" ∈ wsX4_stepsToCycle := List.mem_of_getElem? (i := 9) rfl
theorem inX4_stepsToCycle_X4 : ∀ w ∈ wsX40, w ∈ wsX4_stepsToCycle := fun _ h => List.mem_cons_of_mem _ (List.mem_append_left _ (List.mem_append_left _ (List.mem_append_left _ (List.mem_append_right _ h))))
theorem inX4_stepsToCycle_X0 : ∀ w ∈ wsX00, w ∈ wsX4_stepsToCycle := fun _ h => List.mem_cons_of_mem _ (List.mem_append_left _ (List.mem_append_left _ (List.mem_append_right _ h)))
theorem inX4_stepsToCycle_X3 : ∀ w ∈ wsX30, w ∈ wsX4_stepsToCycle := fun _ h => List.mem_cons_of_mem _ (List.mem_append_left _ (List.mem_append_right _ h))
set_option maxRecDepth 100000 in
set_option maxHeartbeats 4000000 in
theorem lw_X4_stepsToCycle_72 (l : Launch) (D : va_G) (cI cD : ClassId) (ad : Nat → Nat) (N : Nat) (hask : Int32) (nodes : Int32) (links : Int32) (wk : Int32) (rot : Nat → Int32) (pos : Nat → Int32) (node : Int32) (prot : Nat → Int32) (deg : Nat → Int32) (nbr : Nat → Int32) (p2 : Int32) {p : Program} {e : Env} {s : State} {m : MethodId} {args : Array Value} {below : List Frame} {meth : Method} {c : Code} {A : Nat → Prop} {Q : State → Prop} (C : wd_C p m c cX4_stepsToCycle 4 s args wsX4_stepsToCycle RX4 D [(cI, .int), (cD, .double)] A) : ∀ (n : Nat) (st : Int32 × Int32 × (Nat → Int32)) (E : Int32 × (Nat → Int32)), iter (b_X4_stepsToCycle_72 deg nbr p2) n st = some E → (Wd p l e { frames := 2, cells := 0, slots := 0, locals := 62 } s m args below meth c 4 D A 0 0 Q 94 [(0, .ref (ad 0))] [] (w_X4_stepsToCycle ad cI cD hask nodes links deg nbr wk rot pos node prot E.1 E.2)) → Wd p l e { frames := 2, cells := 0, slots := 0, locals := 62 } s m args below meth c 4 D A 0 0 Q 72 [(0, .ref (ad 0)), (2, .int p2), (3, .int st.1)] [] (w_X4_stepsToCycle ad cI cD hask nodes links deg nbr wk rot pos node prot st.2.1 st.2.2) := by
  intro n
  induction n with
  | zero => intro st E h; cases h
  | succ n ih =>
    intro st E h kx
    obtain ⟨b, h, hk⟩ := iter_step h
    unfold b_X4_stepsToCycle_72 at h
    refine wd_iload_n (j := 73) C 2 dX4_stepsToCycle_72 rfl rfl rfl ?_
    refine wd_iload_n (j := 74) C 1 dX4_stepsToCycle_73 rfl rfl rfl ?_
    refine wd_icmp_ge (j := 77) (t := 94) C dX4_stepsToCycle_74 (by decide) rfl (fun c1 => ?_) (fun c1 => ?_)
    · replace h := (if_pos c1).symm.trans h
      obtain rfl := Option.some.inj h
      obtain rfl := hk
      refine wd_lv (lv' := [(0, .ref (ad 0))]) [0] rfl ?_
      exact kx
    · replace h := (if_neg c1).symm.trans h
      refine wd_aload_n (j := 78) C 0 dX4_stepsToCycle_77 rfl rfl rfl ?_
      refine wd_get (j := 81) (q0 := 0) (f := 6) (ci := 4) (v := .ref (ad 18)) C inX4_stepsToCycle_X4 kX4_stepsToCycle_7 rfl (by decide) rfl rfl dX4_stepsToCycle_78 rfl ?_
      refine wd_aload_n (j := 82) C 0 dX4_stepsToCycle_81 rfl rfl rfl ?_
      refine wd_get (j := 85) (q0 := 0) (f := 1) (ci := 4) (v := .ref (ad 3)) C inX4_stepsToCycle_X4 kX4_stepsToCycle_2 rfl (by decide) rfl rfl dX4_stepsToCycle_82 rfl ?_
      obtain ⟨u2, hu2, h⟩ := bnd_some h
      refine wd_callVv (j := 88) (q0 := 0) (ci := 2) (As := [.ref (ad 3)]) (rest := []) (ws' := (w_X4_stepsToCycle ad cI cD hask nodes links deg nbr wk rot pos node prot u2.1 u2.2)) C (c_X2_move l D cI cD (ad 18) (ad 19) (ad 3) (ad 4) (ad 5) st.2.1 st.2.2 nodes links deg nbr u2 hu2) (cwV 1 C.1.2.2.2.2 gX4_stepsToCycle_X2_move rfl rfl rfl (by decide +kernel) ⟨Nat.le_of_ble_eq_true rfl, Nat.le_of_ble_eq_true rfl⟩) rfl rfl [9, 10, 1, 2, 3] [0, 4, 5, 6, 7, 8] rfl rfl rfl rfl (by decide) [0, 8, 9, 10, 1, 2, 3, 4, 5, 6, 7] rfl rfl rfl (Nat.le_of_ble_eq_true rfl) (Nat.le_of_ble_eq_true rfl) (Nat.le_of_ble_eq_true rfl) dX4_stepsToCycle_85 rfl ?_
      refine wd_iinc (j := 91) (lv' := [(3, .int (st.1 + 1)), (0, .ref (ad 0)), (2, .int p2)]) C 2 dX4_stepsToCycle_88 rfl rfl (by decide) rfl rfl ?_
      refine wd_goto (t := 72) C dX4_stepsToCycle_91 (by decide) ?_
      obtain rfl := Option.some.inj h
      refine wd_lv (lv' := [(0, .ref (ad 0)), (2, .int p2), (3, .int (st.1 + 1))]) [1, 2, 0] rfl ?_
      exact ih ((st.1 + 1), u2.1, u2.2) E hk kx
set_option maxRecDepth 100000 in
set_option maxHeartbeats 4000000 in
theorem lw_X4_stepsToCycle_96 (l : Launch) (D : va_G) (cI cD : ClassId) (ad : Nat → Nat) (N : Nat) (hask : Int32) (links : Int32) (wk : Int32) (rot : Nat → Int32) (pos : Nat → Int32) (nodes : Int32) (deg : Nat → Int32) (nbr : Nat → Int32)  {p : Program} {e : Env} {s : State} {m : MethodId} {args : Array Value} {below : List Frame} {meth : Method} {c : Code} {A : Nat → Prop} {Q : State → Prop} (C : wd_C p m c cX4_stepsToCycle 4 s args wsX4_stepsToCycle RX4 D [(cI, .int), (cD, .double)] A) : ∀ (n : Nat) (st : Int32 × Int32 × (Nat → Int32) × Int32 × (Nat → Int32)) (E : Int32 × Int32 × (Nat → Int32) × Int32 × (Nat → Int32)), iter (b_X4_stepsToCycle_96 N nodes deg nbr) n st = some E → (Wd p l e { frames := 2, cells := 0, slots := 0, locals := 62 } s m args below meth c 4 D A 0 0 Q 151 [(3, .int E.1)] [] (w_X4_stepsToCycle ad cI cD hask nodes links deg nbr wk rot pos E.2.1 E.2.2.1 E.2.2.2.1 E.2.2.2.2)) → Wd p l e { frames := 2, cells := 0, slots := 0, locals := 62 } s m args below meth c 4 D A 0 0 Q 96 [(0, .ref (ad 0)), (3, .int st.1)] [] (w_X4_stepsToCycle ad cI cD hask nodes links deg nbr wk rot pos st.2.1 st.2.2.1 st.2.2.2.1 st.2.2.2.2) := by
  intro n
  induction n with
  | zero => intro st E h; cases h
  | succ n ih =>
    intro st E h kx
    obtain ⟨b, h, hk⟩ := iter_step h
    unfold b_X4_stepsToCycle_96 at h
    refine wd_iload_n (j := 97) C 1 dX4_stepsToCycle_96 rfl rfl rfl ?_
    refine wd_ldc (j := 99) C dX4_stepsToCycle_97 kX4_stepsToCycle_8 rfl ?_
    refine wd_icmp_ge (j := 102) (t := 151) C dX4_stepsToCycle_99 (by decide) rfl (fun c3 => ?_) (fun c3 => ?_)
    · replace h := (if_pos c3).symm.trans h
      obtain rfl := Option.some.inj h
      obtain rfl := hk
      refine wd_lv (lv' := [(3, .int st.1)]) [1] rfl ?_
      exact kx
    · replace h := (if_neg c3).symm.trans h
      refine wd_aload_n (j := 103) C 0 dX4_stepsToCycle_102 rfl rfl rfl ?_
      refine wd_get (j := 106) (q0 := 0) (f := 5) (ci := 4) (v := .ref (ad 16)) C inX4_stepsToCycle_X4 kX4_stepsToCycle_4 rfl (by decide) rfl rfl dX4_stepsToCycle_103 rfl ?_
      refine wd_aload_n (j := 107) C 0 dX4_stepsToCycle_106 rfl rfl rfl ?_
      refine wd_get (j := 110) (q0 := 0) (f := 6) (ci := 4) (v := .ref (ad 18)) C inX4_stepsToCycle_X4 kX4_stepsToCycle_7 rfl (by decide) rfl rfl dX4_stepsToCycle_107 rfl ?_
      refine wd_aload_n (j := 111) C 0 dX4_stepsToCycle_110 rfl rfl rfl ?_
      refine wd_get (j := 114) (q0 := 0) (f := 1) (ci := 4) (v := .ref (ad 3)) C inX4_stepsToCycle_X4 kX4_stepsToCycle_2 rfl (by decide) rfl rfl dX4_stepsToCycle_111 rfl ?_
      refine wd_get (j := 117) (q0 := 1) (f := 2) (ci := 0) (v := .int nodes) C inX4_stepsToCycle_X0 kX4_stepsToCycle_9 rfl (by decide) rfl rfl dX4_stepsToCycle_114 rfl ?_
      obtain ⟨u4, hu4, h⟩ := bnd_some h
      refine wd_callVi (j := 120) (q0 := 0) (ci := 2) (As := [.ref (ad 18), .int nodes]) (rest := []) (ws' := (w_X4_stepsToCycle ad cI cD hask nodes links deg nbr wk rot pos st.2.1 st.2.2.1 st.2.2.2.1 st.2.2.2.2)) C (c_X2_isSameAs l D cI cD (ad 16) (ad 17) (ad 18) (ad 19) N st.2.1 st.2.2.1 st.2.2.2.1 st.2.2.2.2 nodes u4 hu4) (cwV 2 C.1.2.2.2.2 gX4_stepsToCycle_X2_isSameAs rfl rfl rfl (by decide +kernel) ⟨Nat.le_of_ble_eq_true rfl, Nat.le_of_ble_eq_true rfl⟩) rfl rfl [7, 8, 9, 10] [0, 1, 2, 3, 4, 5, 6] rfl rfl rfl rfl (by decide) [0, 1, 2, 3, 4, 5, 6, 7, 8, 9, 10] rfl rfl rfl (Nat.le_of_ble_eq_true rfl) (Nat.le_of_ble_eq_true rfl) (Nat.le_of_ble_eq_true rfl) dX4_stepsToCycle_117 rfl ?_
      refine wd_if_ne (j := 123) (t := 151) C dX4_stepsToCycle_120 (by decide) rfl (fun c5 => ?_) (fun c5 => ?_)
      · replace h := (if_neg c5).symm.trans h
        obtain rfl := Option.some.inj h
        obtain rfl := hk
        refine wd_lv (lv' := [(3, .int st.1)]) [1] rfl ?_
        exact kx
      · replace h := (if_pos c5).symm.trans h
        refine wd_aload_n (j := 124) C 0 dX4_stepsToCycle_123 rfl rfl rfl ?_
        refine wd_get (j := 127) (q0 := 0) (f := 5) (ci := 4) (v := .ref (ad 16)) C inX4_stepsToCycle_X4 kX4_stepsToCycle_4 rfl (by decide) rfl rfl dX4_stepsToCycle_124 rfl ?_
        refine wd_aload_n (j := 128) C 0 dX4_stepsToCycle_127 rfl rfl rfl ?_
        refine wd_get (j := 131) (q0 := 0) (f := 1) (ci := 4) (v := .ref (ad 3)) C inX4_stepsToCycle_X4 kX4_stepsToCycle_2 rfl (by decide) rfl rfl dX4_stepsToCycle_128 rfl ?_
        obtain ⟨u6, hu6, h⟩ := bnd_some h
        refine wd_callVv (j := 134) (q0 := 0) (ci := 2) (As := [.ref (ad 3)]) (rest := []) (ws' := (w_X4_stepsToCycle ad cI cD hask nodes links deg nbr wk rot pos u6.1 u6.2 st.2.2.2.1 st.2.2.2.2)) C (c_X2_move l D cI cD (ad 16) (ad 17) (ad 3) (ad 4) (ad 5) st.2.1 st.2.2.1 nodes links deg nbr u6 hu6) (cwV 1 C.1.2.2.2.2 gX4_stepsToCycle_X2_move rfl rfl rfl (by decide +kernel) ⟨Nat.le_of_ble_eq_true rfl, Nat.le_of_ble_eq_true rfl⟩) rfl rfl [7, 8, 1, 2, 3] [0, 4, 5, 6, 9, 10] rfl rfl rfl rfl (by decide) [0, 8, 9, 10, 1, 2, 3, 6, 7, 4, 5] rfl rfl rfl (Nat.le_of_ble_eq_true rfl) (Nat.le_of_ble_eq_true rfl) (Nat.le_of_ble_eq_true rfl) dX4_stepsToCycle_131 rfl ?_
        refine wd_aload_n (j := 135) C 0 dX4_stepsToCycle_134 rfl rfl rfl ?_
        refine wd_get (j := 138) (q0 := 0) (f := 6) (ci := 4) (v := .ref (ad 18)) C inX4_stepsToCycle_X4 kX4_stepsToCycle_7 rfl (by decide) rfl rfl dX4_stepsToCycle_135 rfl ?_
        refine wd_aload_n (j := 139) C 0 dX4_stepsToCycle_138 rfl rfl rfl ?_
        refine wd_get (j := 142) (q0 := 0) (f := 1) (ci := 4) (v := .ref (ad 3)) C inX4_stepsToCycle_X4 kX4_stepsToCycle_2 rfl (by decide) rfl rfl dX4_stepsToCycle_139 rfl ?_
        obtain ⟨u7, hu7, h⟩ := bnd_some h
        refine wd_callVv (j := 145) (q0 := 0) (ci := 2) (As := [.ref (ad 3)]) (rest := []) (ws' := (w_X4_stepsToCycle ad cI cD hask nodes links deg nbr wk rot pos u6.1 u6.2 u7.1 u7.2)) C (c_X2_move l D cI cD (ad 18) (ad 19) (ad 3) (ad 4) (ad 5) st.2.2.2.1 st.2.2.2.2 nodes links deg nbr u7 hu7) (cwV 1 C.1.2.2.2.2 gX4_stepsToCycle_X2_move rfl rfl rfl (by decide +kernel) ⟨Nat.le_of_ble_eq_true rfl, Nat.le_of_ble_eq_true rfl⟩) rfl rfl [9, 10, 1, 2, 3] [0, 4, 5, 6, 7, 8] rfl rfl rfl rfl (by decide) [0, 8, 9, 10, 1, 2, 3, 4, 5, 6, 7] rfl rfl rfl (Nat.le_of_ble_eq_true rfl) (Nat.le_of_ble_eq_true rfl) (Nat.le_of_ble_eq_true rfl) dX4_stepsToCycle_142 rfl ?_
        refine wd_iinc (j := 148) (lv' := [(3, .int (st.1 + 1)), (0, .ref (ad 0))]) C 1 dX4_stepsToCycle_145 rfl rfl (by decide) rfl rfl ?_
        refine wd_goto (t := 96) C dX4_stepsToCycle_148 (by decide) ?_
        obtain rfl := Option.some.inj h
        refine wd_lv (lv' := [(0, .ref (ad 0)), (3, .int (st.1 + 1))]) [1, 0] rfl ?_
        exact ih ((st.1 + 1), u6.1, u6.2, u7.1, u7.2) E hk kx
set_option maxRecDepth 100000 in
set_option maxHeartbeats 4000000 in
theorem c_X4_stepsToCycle (l : Launch) (D : va_G) (cI cD : ClassId) (ad : Nat → Nat) (N : Nat) (hask : Int32) (nodes : Int32) (links : Int32) (deg : Nat → Int32) (nbr : Nat → Int32) (wk : Int32) (rot : Nat → Int32) (pos : Nat → Int32) (node : Int32) (prot : Nat → Int32) (nodeA : Int32) (protA : Nat → Int32) (p1 : Int32) (u : Int32 × Int32 × (Nat → Int32) × Int32 × (Nat → Int32)) (h : f_X4_stepsToCycle N nodes links deg nbr wk rot pos node prot nodeA protA p1 = some u) : MetI l yX4_stepsToCycle wsX4_stepsToCycle { frames := 2, cells := 0, slots := 0, locals := 62 } D [(cI, .int), (cD, .double)] [.ref (ad 0), .int p1] (w_X4_stepsToCycle ad cI cD hask nodes links deg nbr wk rot pos node prot nodeA protA) u.1 (w_X4_stepsToCycle ad cI cD hask nodes links deg nbr wk rot pos u.2.1 u.2.2.1 u.2.2.2.1 u.2.2.2.2) := by
  refine MetI.of (own := RX4) (cc := cX4_stepsToCycle) (nL := 4) (ret := (some .int)) (by decide) rfl rfl (Nat.le_of_ble_eq_true rfl) rfl ?_
  intro p e s m args below meth c A hA C hr hlk
  unfold f_X4_stepsToCycle at h
  refine wd_aload_n (j := 1) C 0 dX4_stepsToCycle_0 rfl rfl rfl ?_
  refine wd_get (j := 4) (q0 := 0) (f := 2) (ci := 4) (v := .ref (ad 6)) C inX4_stepsToCycle_X4 kX4_stepsToCycle_1 rfl (by decide) rfl rfl dX4_stepsToCycle_1 rfl ?_
  refine wd_iload_n (j := 5) C 1 dX4_stepsToCycle_4 rfl rfl rfl ?_
  obtain ⟨u8, hu8, h⟩ := bnd_some h
  refine wd_callVi (j := 8) (q0 := 0) (ci := 3) (As := [.int p1]) (rest := []) (ws' := (w_X4_stepsToCycle ad cI cD hask nodes links deg nbr wk rot pos node prot nodeA protA)) C (c_X3_hasWalker l D cI cD (ad 6) (ad 7) (ad 8) (ad 9) (ad 10) wk p1 u8 hu8) (cwV 1 C.1.2.2.2.2 gX4_stepsToCycle_X3_hasWalker rfl rfl rfl (by decide +kernel) ⟨Nat.le_of_ble_eq_true rfl, Nat.le_of_ble_eq_true rfl⟩) rfl rfl [4] [0, 1, 2, 3, 5, 6, 7, 8, 9, 10] rfl rfl rfl rfl (by decide) [0, 1, 2, 3, 10, 4, 5, 6, 7, 8, 9] rfl rfl rfl (Nat.le_of_ble_eq_true rfl) (Nat.le_of_ble_eq_true rfl) (Nat.le_of_ble_eq_true rfl) dX4_stepsToCycle_5 rfl ?_
  refine wd_if_ne (j := 11) (t := 14) C dX4_stepsToCycle_8 (by decide) rfl (fun c9 => ?_) (fun c9 => ?_)
  · replace h := (if_neg c9).symm.trans h
    refine wd_iconst (j := 15) (v := 2) C dX4_stepsToCycle_14 (by decide) rfl ?_
    refine wd_aload_n (j := 16) C 0 dX4_stepsToCycle_15 rfl rfl rfl ?_
    refine wd_get (j := 19) (q0 := 0) (f := 1) (ci := 4) (v := .ref (ad 3)) C inX4_stepsToCycle_X4 kX4_stepsToCycle_2 rfl (by decide) rfl rfl dX4_stepsToCycle_16 rfl ?_
    refine wd_get (j := 22) (q0 := 1) (f := 3) (ci := 0) (v := .int links) C inX4_stepsToCycle_X0 kX4_stepsToCycle_3 rfl (by decide) rfl rfl dX4_stepsToCycle_19 rfl ?_
    refine wd_imul (j := 23) C dX4_stepsToCycle_22 rfl ?_
    refine wd_istore_n (j := 24) (lv' := [(2, .int ((2 : Int32) * links)), (0, .ref (ad 0)), (1, .int p1)]) C dX4_stepsToCycle_23 rfl (by decide) rfl rfl ?_
    refine wd_aload_n (j := 25) C 1 dX4_stepsToCycle_24 rfl rfl rfl ?_
    refine wd_get (j := 28) (q0 := 0) (f := 5) (ci := 4) (v := .ref (ad 16)) C inX4_stepsToCycle_X4 kX4_stepsToCycle_4 rfl (by decide) rfl rfl dX4_stepsToCycle_25 rfl ?_
    refine wd_aload_n (j := 29) C 1 dX4_stepsToCycle_28 rfl rfl rfl ?_
    refine wd_get (j := 32) (q0 := 0) (f := 2) (ci := 4) (v := .ref (ad 6)) C inX4_stepsToCycle_X4 kX4_stepsToCycle_1 rfl (by decide) rfl rfl dX4_stepsToCycle_29 rfl ?_
    refine wd_get (j := 35) (q0 := 4) (f := 3) (ci := 3) (v := .ref (ad 10)) C inX4_stepsToCycle_X3 kX4_stepsToCycle_5 rfl (by decide) rfl rfl dX4_stepsToCycle_32 rfl ?_
    refine wd_iload_n (j := 36) C 2 dX4_stepsToCycle_35 rfl rfl rfl ?_
    obtain ⟨g10, h⟩ := grd_some h
    refine wd_iald (j := 37) (q0 := 6) (t0 := 0) C rfl rfl (inB_in g10) dX4_stepsToCycle_36 rfl ?_
    refine wd_aload_n (j := 38) C 1 dX4_stepsToCycle_37 rfl rfl rfl ?_
    refine wd_get (j := 41) (q0 := 0) (f := 2) (ci := 4) (v := .ref (ad 6)) C inX4_stepsToCycle_X4 kX4_stepsToCycle_1 rfl (by decide) rfl rfl dX4_stepsToCycle_38 rfl ?_
    refine wd_get (j := 44) (q0 := 4) (f := 0) (ci := 3) (v := .ref (ad 7)) C inX4_stepsToCycle_X3 kX4_stepsToCycle_6 rfl (by decide) rfl rfl dX4_stepsToCycle_41 rfl ?_
    obtain ⟨u11, hu11, h⟩ := bnd_some h
    refine wd_callVv (j := 47) (q0 := 0) (ci := 2) (As := [.int (pos p1.toNatClampNeg), .ref (ad 7)]) (rest := []) (ws' := (w_X4_stepsToCycle ad cI cD hask nodes links deg nbr wk rot pos u11.1 u11.2 nodeA protA)) C (c_X2_start l D cI cD (ad 16) (ad 17) (ad 7) node prot rot (pos p1.toNatClampNeg) u11 hu11) (cwV 2 C.1.2.2.2.2 gX4_stepsToCycle_X2_start rfl rfl rfl (by decide +kernel) ⟨Nat.le_of_ble_eq_true rfl, Nat.le_of_ble_eq_true rfl⟩) rfl rfl [7, 8, 5] [0, 1, 2, 3, 4, 6, 9, 10] rfl rfl rfl rfl (by decide) [0, 1, 2, 3, 4, 10, 5, 8, 9, 6, 7] rfl rfl rfl (Nat.le_of_ble_eq_true rfl) (Nat.le_of_ble_eq_true rfl) (Nat.le_of_ble_eq_true rfl) dX4_stepsToCycle_44 rfl ?_
    refine wd_aload_n (j := 48) C 1 dX4_stepsToCycle_47 rfl rfl rfl ?_
    refine wd_get (j := 51) (q0 := 0) (f := 6) (ci := 4) (v := .ref (ad 18)) C inX4_stepsToCycle_X4 kX4_stepsToCycle_7 rfl (by decide) rfl rfl dX4_stepsToCycle_48 rfl ?_
    refine wd_aload_n (j := 52) C 1 dX4_stepsToCycle_51 rfl rfl rfl ?_
    refine wd_get (j := 55) (q0 := 0) (f := 2) (ci := 4) (v := .ref (ad 6)) C inX4_stepsToCycle_X4 kX4_stepsToCycle_1 rfl (by decide) rfl rfl dX4_stepsToCycle_52 rfl ?_
    refine wd_get (j := 58) (q0 := 4) (f := 3) (ci := 3) (v := .ref (ad 10)) C inX4_stepsToCycle_X3 kX4_stepsToCycle_5 rfl (by decide) rfl rfl dX4_stepsToCycle_55 rfl ?_
    refine wd_iload_n (j := 59) C 2 dX4_stepsToCycle_58 rfl rfl rfl ?_
    obtain ⟨g12, h⟩ := grd_some h
    refine wd_iald (j := 60) (q0 := 6) (t0 := 0) C rfl rfl (inB_in g12) dX4_stepsToCycle_59 rfl ?_
    refine wd_aload_n (j := 61) C 1 dX4_stepsToCycle_60 rfl rfl rfl ?_
    refine wd_get (j := 64) (q0 := 0) (f := 2) (ci := 4) (v := .ref (ad 6)) C inX4_stepsToCycle_X4 kX4_stepsToCycle_1 rfl (by decide) rfl rfl dX4_stepsToCycle_61 rfl ?_
    refine wd_get (j := 67) (q0 := 4) (f := 0) (ci := 3) (v := .ref (ad 7)) C inX4_stepsToCycle_X3 kX4_stepsToCycle_6 rfl (by decide) rfl rfl dX4_stepsToCycle_64 rfl ?_
    obtain ⟨u13, hu13, h⟩ := bnd_some h
    refine wd_callVv (j := 70) (q0 := 0) (ci := 2) (As := [.int (pos p1.toNatClampNeg), .ref (ad 7)]) (rest := []) (ws' := (w_X4_stepsToCycle ad cI cD hask nodes links deg nbr wk rot pos u11.1 u11.2 u13.1 u13.2)) C (c_X2_start l D cI cD (ad 18) (ad 19) (ad 7) nodeA protA rot (pos p1.toNatClampNeg) u13 hu13) (cwV 2 C.1.2.2.2.2 gX4_stepsToCycle_X2_start rfl rfl rfl (by decide +kernel) ⟨Nat.le_of_ble_eq_true rfl, Nat.le_of_ble_eq_true rfl⟩) rfl rfl [9, 10, 5] [0, 1, 2, 3, 4, 6, 7, 8] rfl rfl rfl rfl (by decide) [0, 1, 2, 3, 4, 10, 5, 6, 7, 8, 9] rfl rfl rfl (Nat.le_of_ble_eq_true rfl) (Nat.le_of_ble_eq_true rfl) (Nat.le_of_ble_eq_true rfl) dX4_stepsToCycle_67 rfl ?_
    refine wd_iconst (j := 71) (v := 0) C dX4_stepsToCycle_70 (by decide) rfl ?_
    refine wd_istore_n (j := 72) (lv' := [(3, .int (0 : Int32)), (2, .int ((2 : Int32) * links)), (0, .ref (ad 0)), (1, .int p1)]) C dX4_stepsToCycle_71 rfl (by decide) rfl rfl ?_
    refine wd_lv (lv' := [(0, .ref (ad 0)), (2, .int ((2 : Int32) * links)), (3, .int (0 : Int32))]) [2, 1, 0] rfl ?_
    obtain ⟨u14, hu14, h⟩ := bnd_some h
    refine lw_X4_stepsToCycle_72 l D cI cD ad N hask nodes links wk rot pos u11.1 u11.2 deg nbr ((2 : Int32) * links) C N ((0 : Int32), u13.1, u13.2) u14 hu14 ?_
    refine wd_iconst (j := 95) (v := 0) C dX4_stepsToCycle_94 (by decide) rfl ?_
    refine wd_istore_n (j := 96) (lv' := [(3, .int (0 : Int32)), (0, .ref (ad 0))]) C dX4_stepsToCycle_95 rfl (by decide) rfl rfl ?_
    refine wd_lv (lv' := [(0, .ref (ad 0)), (3, .int (0 : Int32))]) [1, 0] rfl ?_
    obtain ⟨u15, hu15, h⟩ := bnd_some h
    refine lw_X4_stepsToCycle_96 l D cI cD ad N hask links wk rot pos nodes deg nbr C N ((0 : Int32), u11.1, u11.2, u14.1, u14.2) u15 hu15 ?_
    refine wd_iload_n (j := 152) C 0 dX4_stepsToCycle_151 rfl rfl rfl ?_
    obtain rfl := Option.some.inj h
    exact wd_iret C hA hr hlk rfl rfl rfl dX4_stepsToCycle_152
  · replace h := (if_pos c9).symm.trans h
    refine wd_bipush (j := 13) (v := -5) C dX4_stepsToCycle_11 (by decide) rfl ?_
    obtain rfl := Option.some.inj h
    exact wd_iret C hA hr hlk rfl rfl rfl dX4_stepsToCycle_13
abbrev w_X4_coverTimeBelow (ad : Nat → Nat) (ax : Nat) (cI cD : ClassId) (hask : Int32) (nodes : Int32) (links : Int32) (deg : Nat → Int32) (nbr : Nat → Int32) (node : Int32) (prot : Nat → Int32) (src : Nat → Int32) : va_W := [((ad 0), .inr (4, [.ref (ad 1), .ref (ad 3), .ref (ad 6), .ref (ad 11), .int hask, .ref (ad 16), .ref (ad 18), .ref (ad 20), .ref (ad 21), .ref (ad 22), .ref (ad 23)])), ((ad 3), .inr (0, [.ref (ad 4), .ref (ad 5), .int nodes, .int links])), ((ad 4), .inl (cI, 8, .inl deg)), ((ad 5), .inl (cI, 56, .inl nbr)), ((ad 16), .inr (2, [.ref (ad 17), .int node])), ((ad 17), .inl (cI, 8, .inl prot)), (ax, .inl (cI, 8, .inl src))]
theorem kX4_coverTimeBelow_1 : Cond.fieldLink "RotorRouter" 40 "RotorRouter" "probe" "LRotorRouter$Probe;" ∈ wsX4_coverTimeBelow := List.mem_of_getElem? (i := 1) rfl
theorem kX4_coverTimeBelow_2 : Cond.fieldLink "RotorRouter" 19 "RotorRouter" "graph" "LRotorRouter$Graph;" ∈ wsX4_coverTimeBelow := List.mem_of_getElem? (i := 2) rfl
theorem kX4_coverTimeBelow_3 : Cond.fieldLink "RotorRouter" 86 "RotorRouter$Graph" "nodes" "I" ∈ wsX4_coverTimeBelow := List.mem_of_getElem? (i := 3) rfl
theorem kX4_coverTimeBelow_4 : Cond.fieldLink "RotorRouter" 201 "RotorRouter$Probe" "node" "I" ∈ wsX4_coverTimeBelow := List.mem_of_getElem? (i := 4) rfl
theorem inX4_coverTimeBelow_X4 : ∀ w ∈ wsX40, w ∈ wsX4_coverTimeBelow := fun _ h => List.mem_cons_of_mem _ (List.mem_append_left _ (List.mem_append_left _ (List.mem_append_right _ h)))
theorem inX4_coverTimeBelow_X2 : ∀ w ∈ wsX20, w ∈ wsX4_coverTimeBelow := fun _ h => List.mem_cons_of_mem _ (List.mem_append_right _ h)
theorem inX4_coverTimeBelow_X0 : ∀ w ∈ wsX00, w ∈ wsX4_coverTimeBelow := fun _ h => List.mem_cons_of_mem _ (List.mem_append_left _ (List.mem_append_right _ h))
set_option maxRecDepth 100000 in
set_option maxHeartbeats 4000000 in
theorem lw_X4_coverTimeBelow_30 (l : Launch) (D : va_G) (cI cD : ClassId) (ad : Nat → Nat) (ax : Nat) (N : Nat) (hask : Int32) (nodes : Int32) (links : Int32) (src : Nat → Int32) (deg : Nat → Int32) (nbr : Nat → Int32) (p1 : Int32) (p4 : Int32) {p : Program} {e : Env} {s : State} {m : MethodId} {args : Array Value} {below : List Frame} {meth : Method} {c : Code} {A : Nat → Prop} {Q : State → Prop} (C : wd_C p m c cX4_coverTimeBelow 7 s args wsX4_coverTimeBelow RX4 D [(cI, .int), (cD, .double)] A) : ∀ (n : Nat) (st : Int32 × Int32 × Int32 × (Nat → Int32)) (E : Int32 × Int32 × (Nat → Int32)), iter (b_X4_coverTimeBelow_30 deg nbr p1 p4) n st = some E → (Wd p l e { frames := 2, cells := 0, slots := 0, locals := 62 } s m args below meth c 7 D A 0 0 Q 74 [(6, .int E.1)] [] (w_X4_coverTimeBelow ad ax cI cD hask nodes links deg nbr E.2.1 E.2.2 src)) → Wd p l e { frames := 2, cells := 0, slots := 0, locals := 62 } s m args below meth c 7 D A 0 0 Q 30 [(0, .ref (ad 0)), (1, .int p1), (4, .int p4), (5, .int st.1), (6, .int st.2.1)] [] (w_X4_coverTimeBelow ad ax cI cD hask nodes links deg nbr st.2.2.1 st.2.2.2 src) := by
  intro n
  induction n with
  | zero => intro st E h; cases h
  | succ n ih =>
    intro st E h kx
    obtain ⟨b, h, hk⟩ := iter_step h
    unfold b_X4_coverTimeBelow_30 at h
    refine wd_iload (j := 32) C 3 dX4_coverTimeBelow_30 rfl rfl ?_
    refine wd_iload (j := 34) C 2 dX4_coverTimeBelow_32 rfl rfl ?_
    refine wd_icmp_eq (j := 37) (t := 74) C dX4_coverTimeBelow_34 (by decide) rfl (fun c1 => ?_) (fun c1 => ?_)
    · replace h := (if_pos c1).symm.trans h
      obtain rfl := Option.some.inj h
      obtain rfl := hk
      refine wd_lv (lv' := [(6, .int st.2.1)]) [4] rfl ?_
      exact kx
    · replace h := (if_neg c1).symm.trans h
      refine wd_iload (j := 39) C 4 dX4_coverTimeBelow_37 rfl rfl ?_
      refine wd_iload_n (j := 40) C 1 dX4_coverTimeBelow_39 rfl rfl rfl ?_
      refine wd_icmp_ge (j := 43) (t := 74) C dX4_coverTimeBelow_40 (by decide) rfl (fun c2 => ?_) (fun c2 => ?_)
      · replace h := (if_pos c2).symm.trans h
        obtain rfl := Option.some.inj h
        obtain rfl := hk
        refine wd_lv (lv' := [(6, .int st.2.1)]) [4] rfl ?_
        exact kx
      · replace h := (if_neg c2).symm.trans h
        refine wd_aload_n (j := 44) C 0 dX4_coverTimeBelow_43 rfl rfl rfl ?_
        refine wd_get (j := 47) (q0 := 0) (f := 5) (ci := 4) (v := .ref (ad 16)) C inX4_coverTimeBelow_X4 kX4_coverTimeBelow_1 rfl (by decide) rfl rfl dX4_coverTimeBelow_44 rfl ?_
        refine wd_aload_n (j := 48) C 0 dX4_coverTimeBelow_47 rfl rfl rfl ?_
        refine wd_get (j := 51) (q0 := 0) (f := 1) (ci := 4) (v := .ref (ad 3)) C inX4_coverTimeBelow_X4 kX4_coverTimeBelow_2 rfl (by decide) rfl rfl dX4_coverTimeBelow_48 rfl ?_
        obtain ⟨u3, hu3, h⟩ := bnd_some h
        refine wd_callVv (j := 54) (q0 := 0) (ci := 2) (As := [.ref (ad 3)]) (rest := []) (ws' := (w_X4_coverTimeBelow ad ax cI cD hask nodes links deg nbr u3.1 u3.2 src)) C (c_X2_move l D cI cD (ad 16) (ad 17) (ad 3) (ad 4) (ad 5) st.2.2.1 st.2.2.2 nodes links deg nbr u3 hu3) (cwV 1 C.1.2.2.2.2 gX4_coverTimeBelow_X2_move rfl rfl rfl (by decide +kernel) ⟨Nat.le_of_ble_eq_true rfl, Nat.le_of_ble_eq_true rfl⟩) rfl rfl [4, 5, 1, 2, 3] [0, 6] rfl rfl rfl rfl (by decide) [0, 4, 5, 6, 2, 3, 1] rfl rfl rfl (Nat.le_of_ble_eq_true rfl) (Nat.le_of_ble_eq_true rfl) (Nat.le_of_ble_eq_true rfl) dX4_coverTimeBelow_51 rfl ?_
        refine wd_iload (j := 56) C 3 dX4_coverTimeBelow_54 rfl rfl ?_
        refine wd_iconst (j := 57) (v := 1) C dX4_coverTimeBelow_56 (by decide) rfl ?_
        refine wd_aload_n (j := 58) C 0 dX4_coverTimeBelow_57 rfl rfl rfl ?_
        refine wd_get (j := 61) (q0 := 0) (f := 5) (ci := 4) (v := .ref (ad 16)) C inX4_coverTimeBelow_X4 kX4_coverTimeBelow_1 rfl (by decide) rfl rfl dX4_coverTimeBelow_58 rfl ?_
        refine wd_get (j := 64) (q0 := 4) (f := 1) (ci := 2) (v := .int u3.1) C inX4_coverTimeBelow_X2 kX4_coverTimeBelow_4 rfl (by decide) rfl rfl dX4_coverTimeBelow_61 rfl ?_
        refine wd_ishl (j := 65) C dX4_coverTimeBelow_64 rfl ?_
        refine wd_ior (j := 66) C dX4_coverTimeBelow_65 rfl ?_
        refine wd_istore (j := 68) (lv' := [(5, .int (st.1 ||| ((1 : Int32) <<< (u3.1 &&& 31)))), (0, .ref (ad 0)), (1, .int p1), (4, .int p4), (6, .int st.2.1)]) C dX4_coverTimeBelow_66 (by decide) rfl rfl ?_
        refine wd_iinc (j := 71) (lv' := [(6, .int (st.2.1 + 1)), (5, .int (st.1 ||| ((1 : Int32) <<< (u3.1 &&& 31)))), (0, .ref (ad 0)), (1, .int p1), (4, .int p4)]) C 4 dX4_coverTimeBelow_68 rfl rfl (by decide) rfl rfl ?_
        refine wd_goto (t := 30) C dX4_coverTimeBelow_71 (by decide) ?_
        obtain rfl := Option.some.inj h
        refine wd_lv (lv' := [(0, .ref (ad 0)), (1, .int p1), (4, .int p4), (5, .int (st.1 ||| ((1 : Int32) <<< (u3.1 &&& 31)))), (6, .int (st.2.1 + 1))]) [2, 3, 4, 1, 0] rfl ?_
        exact ih ((st.1 ||| ((1 : Int32) <<< (u3.1 &&& 31))), (st.2.1 + 1), u3.1, u3.2) E hk kx
set_option maxRecDepth 100000 in
set_option maxHeartbeats 4000000 in
theorem c_X4_coverTimeBelow (l : Launch) (D : va_G) (cI cD : ClassId) (ad : Nat → Nat) (ax : Nat) (N : Nat) (hask : Int32) (nodes : Int32) (links : Int32) (deg : Nat → Int32) (nbr : Nat → Int32) (node : Int32) (prot : Nat → Int32) (src : Nat → Int32) (p1 : Int32) (p2 : Int32) (u : Int32 × Int32 × (Nat → Int32)) (h : f_X4_coverTimeBelow N nodes deg nbr node prot src p1 p2 = some u) : MetI l yX4_coverTimeBelow wsX4_coverTimeBelow { frames := 2, cells := 0, slots := 0, locals := 62 } D [(cI, .int), (cD, .double)] [.ref (ad 0), .int p1, .int p2, .ref ax] (w_X4_coverTimeBelow ad ax cI cD hask nodes links deg nbr node prot src) u.1 (w_X4_coverTimeBelow ad ax cI cD hask nodes links deg nbr u.2.1 u.2.2 src) := by
  refine MetI.of (own := RX4) (cc := cX4_coverTimeBelow) (nL := 7) (ret := (some .int)) (by decide) rfl rfl (Nat.le_of_ble_eq_true rfl) rfl ?_
  intro p e s m args below meth c A hA C hr hlk
  unfold f_X4_coverTimeBelow at h
  refine wd_aload_n (j := 1) C 0 dX4_coverTimeBelow_0 rfl rfl rfl ?_
  refine wd_get (j := 4) (q0 := 0) (f := 5) (ci := 4) (v := .ref (ad 16)) C inX4_coverTimeBelow_X4 kX4_coverTimeBelow_1 rfl (by decide) rfl rfl dX4_coverTimeBelow_1 rfl ?_
  refine wd_iload_n (j := 5) C 2 dX4_coverTimeBelow_4 rfl rfl rfl ?_
  refine wd_aload_n (j := 6) C 3 dX4_coverTimeBelow_5 rfl rfl rfl ?_
  obtain ⟨u4, hu4, h⟩ := bnd_some h
  refine wd_callVv (j := 9) (q0 := 0) (ci := 2) (As := [.int p2, .ref ax]) (rest := []) (ws' := (w_X4_coverTimeBelow ad ax cI cD hask nodes links deg nbr u4.1 u4.2 src)) C (c_X2_start l D cI cD (ad 16) (ad 17) ax node prot src p2 u4 hu4) (cwV 2 C.1.2.2.2.2 gX4_coverTimeBelow_X2_start rfl rfl rfl (by decide +kernel) ⟨Nat.le_of_ble_eq_true rfl, Nat.le_of_ble_eq_true rfl⟩) rfl rfl [4, 5, 6] [0, 1, 2, 3] rfl rfl rfl rfl (by decide) [0, 1, 2, 3, 4, 5, 6] rfl rfl rfl (Nat.le_of_ble_eq_true rfl) (Nat.le_of_ble_eq_true rfl) (Nat.le_of_ble_eq_true rfl) dX4_coverTimeBelow_6 rfl ?_
  refine wd_iconst (j := 10) (v := 1) C dX4_coverTimeBelow_9 (by decide) rfl ?_
  refine wd_aload_n (j := 11) C 0 dX4_coverTimeBelow_10 rfl rfl rfl ?_
  refine wd_get (j := 14) (q0 := 0) (f := 1) (ci := 4) (v := .ref (ad 3)) C inX4_coverTimeBelow_X4 kX4_coverTimeBelow_2 rfl (by decide) rfl rfl dX4_coverTimeBelow_11 rfl ?_
  refine wd_get (j := 17) (q0 := 1) (f := 2) (ci := 0) (v := .int nodes) C inX4_coverTimeBelow_X0 kX4_coverTimeBelow_3 rfl (by decide) rfl rfl dX4_coverTimeBelow_14 rfl ?_
  refine wd_ishl (j := 18) C dX4_coverTimeBelow_17 rfl ?_
  refine wd_iconst (j := 19) (v := 1) C dX4_coverTimeBelow_18 (by decide) rfl ?_
  refine wd_isub (j := 20) C dX4_coverTimeBelow_19 rfl ?_
  refine wd_istore (j := 22) (lv' := [(4, .int (((1 : Int32) <<< (nodes &&& 31)) - (1 : Int32))), (0, .ref (ad 0)), (1, .int p1), (2, .int p2), (3, .ref ax)]) C dX4_coverTimeBelow_20 (by decide) rfl rfl ?_
  refine wd_iconst (j := 23) (v := 1) C dX4_coverTimeBelow_22 (by decide) rfl ?_
  refine wd_iload_n (j := 24) C 3 dX4_coverTimeBelow_23 rfl rfl rfl ?_
  refine wd_ishl (j := 25) C dX4_coverTimeBelow_24 rfl ?_
  refine wd_istore (j := 27) (lv' := [(5, .int ((1 : Int32) <<< (p2 &&& 31))), (4, .int (((1 : Int32) <<< (nodes &&& 31)) - (1 : Int32))), (0, .ref (ad 0)), (1, .int p1), (2, .int p2), (3, .ref ax)]) C dX4_coverTimeBelow_25 (by decide) rfl rfl ?_
  refine wd_iconst (j := 28) (v := 0) C dX4_coverTimeBelow_27 (by decide) rfl ?_
  refine wd_istore (j := 30) (lv' := [(6, .int (0 : Int32)), (5, .int ((1 : Int32) <<< (p2 &&& 31))), (4, .int (((1 : Int32) <<< (nodes &&& 31)) - (1 : Int32))), (0, .ref (ad 0)), (1, .int p1), (2, .int p2), (3, .ref ax)]) C dX4_coverTimeBelow_28 (by decide) rfl rfl ?_
  refine wd_lv (lv' := [(0, .ref (ad 0)), (1, .int p1), (4, .int (((1 : Int32) <<< (nodes &&& 31)) - (1 : Int32))), (5, .int ((1 : Int32) <<< (p2 &&& 31))), (6, .int (0 : Int32))]) [3, 4, 2, 1, 0] rfl ?_
  obtain ⟨u5, hu5, h⟩ := bnd_some h
  refine lw_X4_coverTimeBelow_30 l D cI cD ad ax N hask nodes links src deg nbr p1 (((1 : Int32) <<< (nodes &&& 31)) - (1 : Int32)) C N (((1 : Int32) <<< (p2 &&& 31)), (0 : Int32), u4.1, u4.2) u5 hu5 ?_
  refine wd_iload (j := 76) C 0 dX4_coverTimeBelow_74 rfl rfl ?_
  obtain rfl := Option.some.inj h
  exact wd_iret C hA hr hlk rfl rfl rfl dX4_coverTimeBelow_76
abbrev w_X4_coverTime (ad : Nat → Nat) (cI cD : ClassId) (hask : Int32) (nodes : Int32) (links : Int32) (deg : Nat → Int32) (nbr : Nat → Int32) (wk : Int32) (rot : Nat → Int32) (pos : Nat → Int32) (node : Int32) (prot : Nat → Int32) : va_W := [((ad 0), .inr (4, [.ref (ad 1), .ref (ad 3), .ref (ad 6), .ref (ad 11), .int hask, .ref (ad 16), .ref (ad 18), .ref (ad 20), .ref (ad 21), .ref (ad 22), .ref (ad 23)])), ((ad 3), .inr (0, [.ref (ad 4), .ref (ad 5), .int nodes, .int links])), ((ad 4), .inl (cI, 8, .inl deg)), ((ad 5), .inl (cI, 56, .inl nbr)), ((ad 6), .inr (3, [.ref (ad 7), .ref (ad 8), .ref (ad 9), .ref (ad 10), .int wk])), ((ad 7), .inl (cI, 8, .inl rot)), ((ad 10), .inl (cI, 4, .inl pos)), ((ad 16), .inr (2, [.ref (ad 17), .int node])), ((ad 17), .inl (cI, 8, .inl prot))]
theorem kX4_coverTime_1 : Cond.fieldLink "RotorRouter" 26 "RotorRouter" "current" "LRotorRouter$State;" ∈ wsX4_coverTime := List.mem_of_getElem? (i := 1) rfl
theorem kX4_coverTime_2 : Cond.constant "RotorRouter" 145 1000000 ∈ wsX4_coverTime := List.mem_of_getElem? (i := 2) rfl
theorem kX4_coverTime_3 : Cond.fieldLink "RotorRouter" 112 "RotorRouter$State" "positions" "[I" ∈ wsX4_coverTime := List.mem_of_getElem? (i := 3) rfl
theorem kX4_coverTime_4 : Cond.fieldLink "RotorRouter" 106 "RotorRouter$State" "rotors" "[I" ∈ wsX4_coverTime := List.mem_of_getElem? (i := 4) rfl
theorem inX4_coverTime_X4 : ∀ w ∈ wsX40, w ∈ wsX4_coverTime := fun _ h => List.mem_cons_of_mem _ (List.mem_append_left _ (List.mem_append_left _ (List.mem_append_left _ (List.mem_append_right _ h))))
theorem inX4_coverTime_X3 : ∀ w ∈ wsX30, w ∈ wsX4_coverTime := fun _ h => List.mem_cons_of_mem _ (List.mem_append_left _ (List.mem_append_left _ (List.mem_append_right _ h)))
set_option maxRecDepth 100000 in
set_option maxHeartbeats 4000000 in
theorem c_X4_coverTime (l : Launch) (D : va_G) (cI cD : ClassId) (ad : Nat → Nat) (N : Nat) (hask : Int32) (nodes : Int32) (links : Int32) (deg : Nat → Int32) (nbr : Nat → Int32) (wk : Int32) (rot : Nat → Int32) (pos : Nat → Int32) (node : Int32) (prot : Nat → Int32) (p1 : Int32) (u : Int32 × Int32 × (Nat → Int32)) (h : f_X4_coverTime N nodes deg nbr wk rot pos node prot p1 = some u) : MetI l yX4_coverTime wsX4_coverTime { frames := 3, cells := 0, slots := 0, locals := 88 } D [(cI, .int), (cD, .double)] [.ref (ad 0), .int p1] (w_X4_coverTime ad cI cD hask nodes links deg nbr wk rot pos node prot) u.1 (w_X4_coverTime ad cI cD hask nodes links deg nbr wk rot pos u.2.1 u.2.2) := by
  refine MetI.of (own := RX4) (cc := cX4_coverTime) (nL := 2) (ret := (some .int)) (by decide) rfl rfl (Nat.le_of_ble_eq_true rfl) rfl ?_
  intro p e s m args below meth c A hA C hr hlk
  unfold f_X4_coverTime at h
  refine wd_aload_n (j := 1) C 0 dX4_coverTime_0 rfl rfl rfl ?_
  refine wd_get (j := 4) (q0 := 0) (f := 2) (ci := 4) (v := .ref (ad 6)) C inX4_coverTime_X4 kX4_coverTime_1 rfl (by decide) rfl rfl dX4_coverTime_1 rfl ?_
  refine wd_iload_n (j := 5) C 1 dX4_coverTime_4 rfl rfl rfl ?_
  obtain ⟨u1, hu1, h⟩ := bnd_some h
  refine wd_callVi (j := 8) (q0 := 0) (ci := 3) (As := [.int p1]) (rest := []) (ws' := (w_X4_coverTime ad cI cD hask nodes links deg nbr wk rot pos node prot)) C (c_X3_hasWalker l D cI cD (ad 6) (ad 7) (ad 8) (ad 9) (ad 10) wk p1 u1 hu1) (cwV 1 C.1.2.2.2.2 gX4_coverTime_X3_hasWalker rfl rfl rfl (by decide +kernel) ⟨Nat.le_of_ble_eq_true rfl, Nat.le_of_ble_eq_true rfl⟩) rfl rfl [4] [0, 1, 2, 3, 5, 6, 7, 8] rfl rfl rfl rfl (by decide) [0, 1, 2, 3, 8, 4, 5, 6, 7] rfl rfl rfl (Nat.le_of_ble_eq_true rfl) (Nat.le_of_ble_eq_true rfl) (Nat.le_of_ble_eq_true rfl) dX4_coverTime_5 rfl ?_
  refine wd_if_ne (j := 11) (t := 14) C dX4_coverTime_8 (by decide) rfl (fun c2 => ?_) (fun c2 => ?_)
  · replace h := (if_neg c2).symm.trans h
    refine wd_aload_n (j := 15) C 0 dX4_coverTime_14 rfl rfl rfl ?_
    refine wd_ldc (j := 17) C dX4_coverTime_15 kX4_coverTime_2 rfl ?_
    refine wd_aload_n (j := 18) C 0 dX4_coverTime_17 rfl rfl rfl ?_
    refine wd_get (j := 21) (q0 := 0) (f := 2) (ci := 4) (v := .ref (ad 6)) C inX4_coverTime_X4 kX4_coverTime_1 rfl (by decide) rfl rfl dX4_coverTime_18 rfl ?_
    refine wd_get (j := 24) (q0 := 4) (f := 3) (ci := 3) (v := .ref (ad 10)) C inX4_coverTime_X3 kX4_coverTime_3 rfl (by decide) rfl rfl dX4_coverTime_21 rfl ?_
    refine wd_iload_n (j := 25) C 1 dX4_coverTime_24 rfl rfl rfl ?_
    obtain ⟨g3, h⟩ := grd_some h
    refine wd_iald (j := 26) (q0 := 6) (t0 := 0) C rfl rfl (inB_in g3) dX4_coverTime_25 rfl ?_
    refine wd_aload_n (j := 27) C 0 dX4_coverTime_26 rfl rfl rfl ?_
    refine wd_get (j := 30) (q0 := 0) (f := 2) (ci := 4) (v := .ref (ad 6)) C inX4_coverTime_X4 kX4_coverTime_1 rfl (by decide) rfl rfl dX4_coverTime_27 rfl ?_
    refine wd_get (j := 33) (q0 := 4) (f := 0) (ci := 3) (v := .ref (ad 7)) C inX4_coverTime_X3 kX4_coverTime_4 rfl (by decide) rfl rfl dX4_coverTime_30 rfl ?_
    obtain ⟨u4, hu4, h⟩ := bnd_some h
    refine wd_callVi (j := 36) (q0 := 0) (ci := 4) (As := [.int (1000000 : Int32), .int (pos p1.toNatClampNeg), .ref (ad 7)]) (rest := []) (ws' := (w_X4_coverTime ad cI cD hask nodes links deg nbr wk rot pos u4.2.1 u4.2.2)) C (c_X4_coverTimeBelow l D cI cD ad (ad 7) N hask nodes links deg nbr node prot rot (1000000 : Int32) (pos p1.toNatClampNeg) u4 hu4) (cwV 3 C.1.2.2.2.2 gX4_coverTime_X4_coverTimeBelow rfl rfl rfl (by decide +kernel) ⟨Nat.le_of_ble_eq_true rfl, Nat.le_of_ble_eq_true rfl⟩) rfl rfl [0, 1, 2, 3, 7, 8, 5] [4, 6] rfl rfl rfl rfl (by decide) [2, 3, 4, 5, 0, 8, 1, 6, 7] rfl rfl rfl (Nat.le_of_ble_eq_true rfl) (Nat.le_of_ble_eq_true rfl) (Nat.le_of_ble_eq_true rfl) dX4_coverTime_33 rfl ?_
    obtain rfl := Option.some.inj h
    exact wd_iret C hA hr hlk rfl rfl rfl dX4_coverTime_36
  · replace h := (if_pos c2).symm.trans h
    refine wd_bipush (j := 13) (v := -5) C dX4_coverTime_11 (by decide) rfl ?_
    obtain rfl := Option.some.inj h
    exact wd_iret C hA hr hlk rfl rfl rfl dX4_coverTime_13
abbrev w_X4_turnTrialRotors (ad : Nat → Nat) (cI cD : ClassId) (hask : Int32) (nodes : Int32) (links : Int32) (deg : Nat → Int32) (tri : Nat → Int32) : va_W := [((ad 0), .inr (4, [.ref (ad 1), .ref (ad 3), .ref (ad 6), .ref (ad 11), .int hask, .ref (ad 16), .ref (ad 18), .ref (ad 20), .ref (ad 21), .ref (ad 22), .ref (ad 23)])), ((ad 3), .inr (0, [.ref (ad 4), .ref (ad 5), .int nodes, .int links])), ((ad 4), .inl (cI, 8, .inl deg)), ((ad 20), .inl (cI, 8, .inl tri))]
theorem kX4_turnTrialRotors_1 : Cond.fieldLink "RotorRouter" 19 "RotorRouter" "graph" "LRotorRouter$Graph;" ∈ wsX4_turnTrialRotors := List.mem_of_getElem? (i := 1) rfl
theorem kX4_turnTrialRotors_2 : Cond.fieldLink "RotorRouter" 86 "RotorRouter$Graph" "nodes" "I" ∈ wsX4_turnTrialRotors := List.mem_of_getElem? (i := 2) rfl
theorem kX4_turnTrialRotors_3 : Cond.fieldLink "RotorRouter" 47 "RotorRouter" "trialRotors" "[I" ∈ wsX4_turnTrialRotors := List.mem_of_getElem? (i := 3) rfl
theorem inX4_turnTrialRotors_X4 : ∀ w ∈ wsX40, w ∈ wsX4_turnTrialRotors := fun _ h => List.mem_cons_of_mem _ (List.mem_append_left _ (List.mem_append_right _ h))
theorem inX4_turnTrialRotors_X0 : ∀ w ∈ wsX00, w ∈ wsX4_turnTrialRotors := fun _ h => List.mem_cons_of_mem _ (List.mem_append_right _ h)
set_option maxRecDepth 100000 in
set_option maxHeartbeats 4000000 in
theorem lw_X4_turnTrialRotors_10 (l : Launch) (D : va_G) (cI cD : ClassId) (ad : Nat → Nat) (N : Nat) (hask : Int32) (nodes : Int32) (links : Int32) (deg : Nat → Int32)  {p : Program} {e : Env} {s : State} {m : MethodId} {args : Array Value} {below : List Frame} {meth : Method} {c : Code} {A : Nat → Prop} {Q : State → Prop} (C : wd_C p m c cX4_turnTrialRotors 2 s args wsX4_turnTrialRotors RX4 D [(cI, .int), (cD, .double)] A) : ∀ (n : Nat) (st : Int32 × (Nat → Int32)) (E : ((Nat → Int32)) ⊕ ((Nat → Int32))), iter (b_X4_turnTrialRotors_10 deg) n st = some E → (∀ e1, E = .inl e1 → Wd p l e { frames := 1, cells := 0, slots := 0, locals := 23 } s m args below meth c 2 D A 0 0 Q 50 [] [] (w_X4_turnTrialRotors ad cI cD hask nodes links deg e1)) → (∀ e2, E = .inr e2 → Wd p l e { frames := 1, cells := 0, slots := 0, locals := 23 } s m args below meth c 2 D A 0 0 Q 43 [] [] (w_X4_turnTrialRotors ad cI cD hask nodes links deg e2)) → Wd p l e { frames := 1, cells := 0, slots := 0, locals := 23 } s m args below meth c 2 D A 0 0 Q 10 [(0, .ref (ad 0)), (1, .int st.1)] [] (w_X4_turnTrialRotors ad cI cD hask nodes links deg st.2) := by
  intro n
  induction n with
  | zero => intro st E h; cases h
  | succ n ih =>
    intro st E h kx1 kx2
    obtain ⟨b, h, hk⟩ := iter_step h
    unfold b_X4_turnTrialRotors_10 at h
    refine wd_iload_n (j := 11) C 1 dX4_turnTrialRotors_10 rfl rfl rfl ?_
    refine wd_if_lt (j := 14) (t := 50) C dX4_turnTrialRotors_11 (by decide) rfl (fun c1 => ?_) (fun c1 => ?_)
    · replace h := (if_pos c1).symm.trans h
      obtain rfl := Option.some.inj h
      obtain rfl := hk
      refine wd_lv (lv' := []) [] rfl ?_
      exact kx1 _ rfl
    · replace h := (if_neg c1).symm.trans h
      refine wd_aload_n (j := 15) C 0 dX4_turnTrialRotors_14 rfl rfl rfl ?_
      refine wd_get (j := 18) (q0 := 0) (f := 7) (ci := 4) (v := .ref (ad 20)) C inX4_turnTrialRotors_X4 kX4_turnTrialRotors_3 rfl (by decide) rfl rfl dX4_turnTrialRotors_15 rfl ?_
      refine wd_iload_n (j := 19) C 1 dX4_turnTrialRotors_18 rfl rfl rfl ?_
      refine wd_aload_n (j := 20) C 0 dX4_turnTrialRotors_19 rfl rfl rfl ?_
      refine wd_get (j := 23) (q0 := 0) (f := 1) (ci := 4) (v := .ref (ad 3)) C inX4_turnTrialRotors_X4 kX4_turnTrialRotors_1 rfl (by decide) rfl rfl dX4_turnTrialRotors_20 rfl ?_
      refine wd_iload_n (j := 24) C 1 dX4_turnTrialRotors_23 rfl rfl rfl ?_
      refine wd_aload_n (j := 25) C 0 dX4_turnTrialRotors_24 rfl rfl rfl ?_
      refine wd_get (j := 28) (q0 := 0) (f := 7) (ci := 4) (v := .ref (ad 20)) C inX4_turnTrialRotors_X4 kX4_turnTrialRotors_3 rfl (by decide) rfl rfl dX4_turnTrialRotors_25 rfl ?_
      refine wd_iload_n (j := 29) C 1 dX4_turnTrialRotors_28 rfl rfl rfl ?_
      obtain ⟨g2, h⟩ := grd_some h
      refine wd_iald (j := 30) (q0 := 3) (t0 := 0) C rfl rfl (inB_in g2) dX4_turnTrialRotors_29 rfl ?_
      obtain ⟨u3, hu3, h⟩ := bnd_some h
      refine wd_callVi (j := 33) (q0 := 0) (ci := 0) (As := [.int st.1, .int (st.2 st.1.toNatClampNeg)]) (rest := [.int st.1, .ref (ad 20)]) (ws' := (w_X4_turnTrialRotors ad cI cD hask nodes links deg st.2)) C (c_X0_rotorAfter l D cI cD (ad 3) (ad 4) (ad 5) nodes links deg st.1 (st.2 st.1.toNatClampNeg) u3 hu3) (cwV 2 C.1.2.2.2.2 gX4_turnTrialRotors_X0_rotorAfter rfl rfl rfl (by decide +kernel) ⟨Nat.le_of_ble_eq_true rfl, Nat.le_of_ble_eq_true rfl⟩) rfl rfl [1, 2] [0, 3] rfl rfl rfl rfl (by decide) [0, 2, 3, 1] rfl rfl rfl (Nat.le_of_ble_eq_true rfl) (Nat.le_of_ble_eq_true rfl) (Nat.le_of_ble_eq_true rfl) dX4_turnTrialRotors_30 rfl ?_
      obtain ⟨g4, h⟩ := grd_some h
      refine wd_iast (j := 34) (q0 := 3) (t0 := 0) (ws' := (w_X4_turnTrialRotors ad cI cD hask nodes links deg (upd st.2 st.1.toNatClampNeg u3))) C rfl rfl (inB_in g4) rfl dX4_turnTrialRotors_33 rfl ?_
      refine wd_aload_n (j := 35) C 0 dX4_turnTrialRotors_34 rfl rfl rfl ?_
      refine wd_get (j := 38) (q0 := 0) (f := 7) (ci := 4) (v := .ref (ad 20)) C inX4_turnTrialRotors_X4 kX4_turnTrialRotors_3 rfl (by decide) rfl rfl dX4_turnTrialRotors_35 rfl ?_
      refine wd_iload_n (j := 39) C 1 dX4_turnTrialRotors_38 rfl rfl rfl ?_
      obtain ⟨g5, h⟩ := grd_some h
      refine wd_iald (j := 40) (q0 := 3) (t0 := 0) C rfl rfl (inB_in g5) dX4_turnTrialRotors_39 rfl ?_
      refine wd_if_eq (j := 43) (t := 44) C dX4_turnTrialRotors_40 (by decide) rfl (fun c6 => ?_) (fun c6 => ?_)
      · replace h := (if_pos c6).symm.trans h
        refine wd_iinc (j := 47) (lv' := [(1, .int (st.1 + (-1))), (0, .ref (ad 0))]) C 1 dX4_turnTrialRotors_44 rfl rfl (by decide) rfl rfl ?_
        refine wd_goto (t := 10) C dX4_turnTrialRotors_47 (by decide) ?_
        obtain rfl := Option.some.inj h
        refine wd_lv (lv' := [(0, .ref (ad 0)), (1, .int (st.1 + (-1)))]) [1, 0] rfl ?_
        exact ih ((st.1 + (-1)), (upd st.2 st.1.toNatClampNeg u3)) E hk kx1 kx2
      · replace h := (if_neg c6).symm.trans h
        obtain rfl := Option.some.inj h
        obtain rfl := hk
        refine wd_lv (lv' := []) [] rfl ?_
        exact kx2 _ rfl
set_option maxRecDepth 100000 in
set_option maxHeartbeats 4000000 in
theorem c_X4_turnTrialRotors (l : Launch) (D : va_G) (cI cD : ClassId) (ad : Nat → Nat) (N : Nat) (hask : Int32) (nodes : Int32) (links : Int32) (deg : Nat → Int32) (tri : Nat → Int32)  (u : (Nat → Int32)) (h : f_X4_turnTrialRotors N nodes deg tri = some u) : MetV l yX4_turnTrialRotors wsX4_turnTrialRotors { frames := 1, cells := 0, slots := 0, locals := 23 } D [(cI, .int), (cD, .double)] [.ref (ad 0)] (w_X4_turnTrialRotors ad cI cD hask nodes links deg tri) (w_X4_turnTrialRotors ad cI cD hask nodes links deg u) := by
  refine MetV.of (own := RX4) (cc := cX4_turnTrialRotors) (nL := 2) (ret := none) (by decide) rfl rfl (Nat.le_of_ble_eq_true rfl) rfl ?_
  intro p e s m args below meth c A hA C hr hlk
  unfold f_X4_turnTrialRotors at h
  refine wd_aload_n (j := 1) C 0 dX4_turnTrialRotors_0 rfl rfl rfl ?_
  refine wd_get (j := 4) (q0 := 0) (f := 1) (ci := 4) (v := .ref (ad 3)) C inX4_turnTrialRotors_X4 kX4_turnTrialRotors_1 rfl (by decide) rfl rfl dX4_turnTrialRotors_1 rfl ?_
  refine wd_get (j := 7) (q0 := 1) (f := 2) (ci := 0) (v := .int nodes) C inX4_turnTrialRotors_X0 kX4_turnTrialRotors_2 rfl (by decide) rfl rfl dX4_turnTrialRotors_4 rfl ?_
  refine wd_iconst (j := 8) (v := 1) C dX4_turnTrialRotors_7 (by decide) rfl ?_
  refine wd_isub (j := 9) C dX4_turnTrialRotors_8 rfl ?_
  refine wd_istore_n (j := 10) (lv' := [(1, .int (nodes - (1 : Int32))), (0, .ref (ad 0))]) C dX4_turnTrialRotors_9 rfl (by decide) rfl rfl ?_
  refine wd_lv (lv' := [(0, .ref (ad 0)), (1, .int (nodes - (1 : Int32)))]) [1, 0] rfl ?_
  obtain ⟨u7, hu7, h⟩ := bnd_some h
  refine lw_X4_turnTrialRotors_10 l D cI cD ad N hask nodes links deg C N ((nodes - (1 : Int32)), tri) u7 hu7 (fun u7a he => ?_) (fun u7b he => ?_)
  · subst he
    obtain rfl := Option.some.inj h
    exact wd_vret C hA hr hlk rfl dX4_turnTrialRotors_50
  · subst he
    obtain rfl := Option.some.inj h
    exact wd_vret C hA hr hlk rfl dX4_turnTrialRotors_43
abbrev w_X4_searchAssignments (ad : Nat → Nat) (cI cD : ClassId) (hask : Int32) (nodes : Int32) (links : Int32) (deg : Nat → Int32) (nbr : Nat → Int32) (node : Int32) (prot : Nat → Int32) (tri : Nat → Int32) (bst : Nat → Int32) : va_W := [((ad 0), .inr (4, [.ref (ad 1), .ref (ad 3), .ref (ad 6), .ref (ad 11), .int hask, .ref (ad 16), .ref (ad 18), .ref (ad 20), .ref (ad 21), .ref (ad 22), .ref (ad 23)])), ((ad 3), .inr (0, [.ref (ad 4), .ref (ad 5), .int nodes, .int links])), ((ad 4), .inl (cI, 8, .inl deg)), ((ad 5), .inl (cI, 56, .inl nbr)), ((ad 16), .inr (2, [.ref (ad 17), .int node])), ((ad 17), .inl (cI, 8, .inl prot)), ((ad 20), .inl (cI, 8, .inl tri)), ((ad 21), .inl (cI, 8, .inl bst))]
theorem kX4_searchAssignments_1 : Cond.fieldLink "RotorRouter" 19 "RotorRouter" "graph" "LRotorRouter$Graph;" ∈ wsX4_searchAssignments := List.mem_of_getElem? (i := 1) rfl
theorem kX4_searchAssignments_2 : Cond.fieldLink "RotorRouter" 86 "RotorRouter$Graph" "nodes" "I" ∈ wsX4_searchAssignments := List.mem_of_getElem? (i := 2) rfl
theorem kX4_searchAssignments_3 : Cond.fieldLink "RotorRouter" 47 "RotorRouter" "trialRotors" "[I" ∈ wsX4_searchAssignments := List.mem_of_getElem? (i := 3) rfl
theorem kX4_searchAssignments_4 : Cond.constant "RotorRouter" 145 1000000 ∈ wsX4_searchAssignments := List.mem_of_getElem? (i := 4) rfl
theorem kX4_searchAssignments_5 : Cond.fieldLink "RotorRouter" 51 "RotorRouter" "bestRotors" "[I" ∈ wsX4_searchAssignments := List.mem_of_getElem? (i := 5) rfl
theorem kX4_searchAssignments_6 : Cond.methodLink "RotorRouter" 204 arraycopyName ∈ wsX4_searchAssignments := List.mem_of_getElem? (i := 6) rfl
theorem kX4_searchAssignments_7 : Cond.native arraycopyName ∈ wsX4_searchAssignments := List.mem_of_getElem? (i := 7) rfl
theorem kX4_searchAssignments_8 : Cond.static arraycopyName ∈ wsX4_searchAssignments := List.mem_of_getElem? (i := 8) rfl
theorem kX4_searchAssignments_9 : Cond.initialized "java/lang/System" ∈ wsX4_searchAssignments := List.mem_of_getElem? (i := 9) rfl
theorem inX4_searchAssignments_X4 : ∀ w ∈ wsX40, w ∈ wsX4_searchAssignments := fun _ h => List.mem_cons_of_mem _ (List.mem_append_left _ (List.mem_append_left _ (List.mem_append_right _ h)))
theorem inX4_searchAssignments_X0 : ∀ w ∈ wsX00, w ∈ wsX4_searchAssignments := fun _ h => List.mem_cons_of_mem _ (List.mem_append_left _ (List.mem_append_right _ h))
set_option maxRecDepth 100000 in
set_option maxHeartbeats 4000000 in
theorem lw_X4_searchAssignments_2 (l : Launch) (D : va_G) (cI cD : ClassId) (ad : Nat → Nat) (N : Nat) (hask : Int32) (links : Int32) (deg : Nat → Int32) (nbr : Nat → Int32) (node : Int32) (prot : Nat → Int32) (bst : Nat → Int32) (nodes : Int32) (p1 : Int32) {p : Program} {e : Env} {s : State} {m : MethodId} {args : Array Value} {below : List Frame} {meth : Method} {c : Code} {A : Nat → Prop} {Q : State → Prop} (C : wd_C p m c cX4_searchAssignments 7 s args wsX4_searchAssignments RX4 D [(cI, .int), (cD, .double)] A) : ∀ (n : Nat) (st : Int32 × (Nat → Int32)) (E : (Nat → Int32)), iter (b_X4_searchAssignments_2 nodes) n st = some E → (Wd p l e { frames := 3, cells := 0, slots := 0, locals := 88 } s m args below meth c 7 D A 0 0 Q 26 [(0, .ref (ad 0)), (1, .int p1)] [] (w_X4_searchAssignments ad cI cD hask nodes links deg nbr node prot E bst)) → Wd p l e { frames := 3, cells := 0, slots := 0, locals := 88 } s m args below meth c 7 D A 0 0 Q 2 [(0, .ref (ad 0)), (1, .int p1), (2, .int st.1)] [] (w_X4_searchAssignments ad cI cD hask nodes links deg nbr node prot st.2 bst) := by
  intro n
  induction n with
  | zero => intro st E h; cases h
  | succ n ih =>
    intro st E h kx
    obtain ⟨b, h, hk⟩ := iter_step h
    unfold b_X4_searchAssignments_2 at h
    refine wd_iload_n (j := 3) C 2 dX4_searchAssignments_2 rfl rfl rfl ?_
    refine wd_aload_n (j := 4) C 0 dX4_searchAssignments_3 rfl rfl rfl ?_
    refine wd_get (j := 7) (q0 := 0) (f := 1) (ci := 4) (v := .ref (ad 3)) C inX4_searchAssignments_X4 kX4_searchAssignments_1 rfl (by decide) rfl rfl dX4_searchAssignments_4 rfl ?_
    refine wd_get (j := 10) (q0 := 1) (f := 2) (ci := 0) (v := .int nodes) C inX4_searchAssignments_X0 kX4_searchAssignments_2 rfl (by decide) rfl rfl dX4_searchAssignments_7 rfl ?_
    refine wd_icmp_ge (j := 13) (t := 26) C dX4_searchAssignments_10 (by decide) rfl (fun c1 => ?_) (fun c1 => ?_)
    · replace h := (if_pos c1).symm.trans h
      obtain rfl := Option.some.inj h
      obtain rfl := hk
      refine wd_lv (lv' := [(0, .ref (ad 0)), (1, .int p1)]) [0, 1] rfl ?_
      exact kx
    · replace h := (if_neg c1).symm.trans h
      refine wd_aload_n (j := 14) C 0 dX4_searchAssignments_13 rfl rfl rfl ?_
      refine wd_get (j := 17) (q0 := 0) (f := 7) (ci := 4) (v := .ref (ad 20)) C inX4_searchAssignments_X4 kX4_searchAssignments_3 rfl (by decide) rfl rfl dX4_searchAssignments_14 rfl ?_
      refine wd_iload_n (j := 18) C 2 dX4_searchAssignments_17 rfl rfl rfl ?_
      refine wd_iconst (j := 19) (v := 0) C dX4_searchAssignments_18 (by decide) rfl ?_
      obtain ⟨g2, h⟩ := grd_some h
      refine wd_iast (j := 20) (q0 := 6) (t0 := 0) (ws' := (w_X4_searchAssignments ad cI cD hask nodes links deg nbr node prot (upd st.2 st.1.toNatClampNeg (0 : Int32)) bst)) C rfl rfl (inB_in g2) rfl dX4_searchAssignments_19 rfl ?_
      refine wd_iinc (j := 23) (lv' := [(2, .int (st.1 + 1)), (0, .ref (ad 0)), (1, .int p1)]) C 2 dX4_searchAssignments_20 rfl rfl (by decide) rfl rfl ?_
      refine wd_goto (t := 2) C dX4_searchAssignments_23 (by decide) ?_
      obtain rfl := Option.some.inj h
      refine wd_lv (lv' := [(0, .ref (ad 0)), (1, .int p1), (2, .int (st.1 + 1))]) [1, 2, 0] rfl ?_
      exact ih ((st.1 + 1), (upd st.2 st.1.toNatClampNeg (0 : Int32))) E hk kx
set_option maxRecDepth 100000 in
set_option maxHeartbeats 4000000 in
theorem lw_X4_searchAssignments_51 (l : Launch) (D : va_G) (cI cD : ClassId) (ad : Nat → Nat) (N : Nat) (hask : Int32) (links : Int32) (nodes : Int32) (deg : Nat → Int32) (nbr : Nat → Int32) (p1 : Int32) (p2 : Int32) (p3 : Int32) {p : Program} {e : Env} {s : State} {m : MethodId} {args : Array Value} {below : List Frame} {meth : Method} {c : Code} {A : Nat → Prop} {Q : State → Prop} (C : wd_C p m c cX4_searchAssignments 7 s args wsX4_searchAssignments RX4 D [(cI, .int), (cD, .double)] A) : ∀ (n : Nat) (st : Int32 × Int32 × Int32 × (Nat → Int32) × (Nat → Int32) × (Nat → Int32)) (E : Int32 × Int32 × (Nat → Int32) × (Nat → Int32) × (Nat → Int32)), iter (b_X4_searchAssignments_51 N nodes deg nbr p1 p2 p3) n st = some E → (Wd p l e { frames := 3, cells := 0, slots := 0, locals := 88 } s m args below meth c 7 D A 0 0 Q 112 [(4, .int E.1)] [] (w_X4_searchAssignments ad cI cD hask nodes links deg nbr E.2.1 E.2.2.1 E.2.2.2.1 E.2.2.2.2)) → Wd p l e { frames := 3, cells := 0, slots := 0, locals := 88 } s m args below meth c 7 D A 0 0 Q 51 [(0, .ref (ad 0)), (1, .int p1), (2, .int p2), (3, .int p3), (4, .int st.1), (5, .int st.2.1)] [] (w_X4_searchAssignments ad cI cD hask nodes links deg nbr st.2.2.1 st.2.2.2.1 st.2.2.2.2.1 st.2.2.2.2.2) := by
  intro n
  induction n with
  | zero => intro st E h; cases h
  | succ n ih =>
    intro st E h kx
    obtain ⟨b, h, hk⟩ := iter_step h
    unfold b_X4_searchAssignments_51 at h
    refine wd_iload (j := 53) C 5 dX4_searchAssignments_51 rfl rfl ?_
    refine wd_iload_n (j := 54) C 2 dX4_searchAssignments_53 rfl rfl rfl ?_
    refine wd_icmp_ge (j := 57) (t := 112) C dX4_searchAssignments_54 (by decide) rfl (fun c3 => ?_) (fun c3 => ?_)
    · replace h := (if_pos c3).symm.trans h
      obtain rfl := Option.some.inj h
      obtain rfl := hk
      refine wd_lv (lv' := [(4, .int st.1)]) [4] rfl ?_
      exact kx
    · replace h := (if_neg c3).symm.trans h
      refine wd_iload (j := 59) C 4 dX4_searchAssignments_57 rfl rfl ?_
      refine wd_iload_n (j := 60) C 3 dX4_searchAssignments_59 rfl rfl rfl ?_
      refine wd_icmp_le (j := 63) (t := 112) C dX4_searchAssignments_60 (by decide) rfl (fun c4 => ?_) (fun c4 => ?_)
      · replace h := (if_pos c4).symm.trans h
        obtain rfl := Option.some.inj h
        obtain rfl := hk
        refine wd_lv (lv' := [(4, .int st.1)]) [4] rfl ?_
        exact kx
      · replace h := (if_neg c4).symm.trans h
        refine wd_aload_n (j := 64) C 0 dX4_searchAssignments_63 rfl rfl rfl ?_
        refine wd_iload (j := 66) C 4 dX4_searchAssignments_64 rfl rfl ?_
        refine wd_iload_n (j := 67) C 1 dX4_searchAssignments_66 rfl rfl rfl ?_
        refine wd_aload_n (j := 68) C 0 dX4_searchAssignments_67 rfl rfl rfl ?_
        refine wd_get (j := 71) (q0 := 0) (f := 7) (ci := 4) (v := .ref (ad 20)) C inX4_searchAssignments_X4 kX4_searchAssignments_3 rfl (by decide) rfl rfl dX4_searchAssignments_68 rfl ?_
        obtain ⟨u5, hu5, h⟩ := bnd_some h
        refine wd_callVi (j := 74) (q0 := 0) (ci := 4) (As := [.int st.1, .int p1, .ref (ad 20)]) (rest := []) (ws' := (w_X4_searchAssignments ad cI cD hask nodes links deg nbr u5.2.1 u5.2.2 st.2.2.2.2.1 st.2.2.2.2.2)) C (c_X4_coverTimeBelow l D cI cD ad (ad 20) N hask nodes links deg nbr st.2.2.1 st.2.2.2.1 st.2.2.2.2.1 st.1 p1 u5 hu5) (cwV 3 C.1.2.2.2.2 gX4_searchAssignments_X4_coverTimeBelow rfl rfl rfl (by decide +kernel) ⟨Nat.le_of_ble_eq_true rfl, Nat.le_of_ble_eq_true rfl⟩) rfl rfl [0, 1, 2, 3, 4, 5, 6] [7] rfl rfl rfl rfl (by decide) [1, 2, 3, 4, 5, 6, 7, 0] rfl rfl rfl (Nat.le_of_ble_eq_true rfl) (Nat.le_of_ble_eq_true rfl) (Nat.le_of_ble_eq_true rfl) dX4_searchAssignments_71 rfl ?_
        refine wd_istore (j := 76) (lv' := [(6, .int u5.1), (0, .ref (ad 0)), (1, .int p1), (2, .int p2), (3, .int p3), (4, .int st.1), (5, .int st.2.1)]) C dX4_searchAssignments_74 (by decide) rfl rfl ?_
        refine wd_iload (j := 78) C 0 dX4_searchAssignments_76 rfl rfl ?_
        refine wd_iload (j := 80) C 5 dX4_searchAssignments_78 rfl rfl ?_
        refine wd_icmp_ge (j := 83) (t := 102) C dX4_searchAssignments_80 (by decide) rfl (fun c6 => ?_) (fun c6 => ?_)
        · replace h := (if_pos c6).symm.trans h
          refine wd_aload_n (j := 103) C 1 dX4_searchAssignments_102 rfl rfl rfl ?_
          obtain ⟨u7, hu7, h⟩ := bnd_some h
          refine wd_callVv (j := 106) (q0 := 0) (ci := 4) (As := []) (rest := []) (ws' := (w_X4_searchAssignments ad cI cD hask nodes links deg nbr u5.2.1 u5.2.2 u7 st.2.2.2.2.2)) C (c_X4_turnTrialRotors l D cI cD ad N hask nodes links deg st.2.2.2.2.1 u7 hu7) (cwV 0 C.1.2.2.2.2 gX4_searchAssignments_X4_turnTrialRotors rfl rfl rfl (by decide +kernel) ⟨Nat.le_of_ble_eq_true rfl, Nat.le_of_ble_eq_true rfl⟩) rfl rfl [0, 1, 2, 6] [3, 4, 5, 7] rfl rfl rfl rfl (by decide) [4, 5, 6, 0, 1, 2, 7, 3] rfl rfl rfl (Nat.le_of_ble_eq_true rfl) (Nat.le_of_ble_eq_true rfl) (Nat.le_of_ble_eq_true rfl) dX4_searchAssignments_103 rfl ?_
          refine wd_iinc (j := 109) (lv' := [(5, .int (st.2.1 + 1)), (6, .int u5.1), (0, .ref (ad 0)), (1, .int p1), (2, .int p2), (3, .int p3), (4, .int st.1)]) C 6 dX4_searchAssignments_106 rfl rfl (by decide) rfl rfl ?_
          refine wd_goto (t := 51) C dX4_searchAssignments_109 (by decide) ?_
          obtain rfl := Option.some.inj h
          refine wd_lv (lv' := [(0, .ref (ad 0)), (1, .int p1), (2, .int p2), (3, .int p3), (4, .int st.1), (5, .int (st.2.1 + 1))]) [2, 3, 4, 5, 6, 0] rfl ?_
          exact ih (st.1, (st.2.1 + 1), u5.2.1, u5.2.2, u7, st.2.2.2.2.2) E hk kx
        · replace h := (if_neg c6).symm.trans h
          refine wd_iload (j := 85) C 0 dX4_searchAssignments_83 rfl rfl ?_
          refine wd_istore (j := 87) (lv' := [(4, .int u5.1), (6, .int u5.1), (0, .ref (ad 0)), (1, .int p1), (2, .int p2), (3, .int p3), (5, .int st.2.1)]) C dX4_searchAssignments_85 (by decide) rfl rfl ?_
          refine wd_aload_n (j := 88) C 2 dX4_searchAssignments_87 rfl rfl rfl ?_
          refine wd_get (j := 91) (q0 := 0) (f := 7) (ci := 4) (v := .ref (ad 20)) C inX4_searchAssignments_X4 kX4_searchAssignments_3 rfl (by decide) rfl rfl dX4_searchAssignments_88 rfl ?_
          refine wd_iconst (j := 92) (v := 0) C dX4_searchAssignments_91 (by decide) rfl ?_
          refine wd_aload_n (j := 93) C 2 dX4_searchAssignments_92 rfl rfl rfl ?_
          refine wd_get (j := 96) (q0 := 0) (f := 8) (ci := 4) (v := .ref (ad 21)) C inX4_searchAssignments_X4 kX4_searchAssignments_5 rfl (by decide) rfl rfl dX4_searchAssignments_93 rfl ?_
          refine wd_iconst (j := 97) (v := 0) C dX4_searchAssignments_96 (by decide) rfl ?_
          refine wd_bipush (j := 99) (v := 8) C dX4_searchAssignments_97 (by decide) rfl ?_
          refine wd_copy (j := 102) (q0 := 6) (q1 := 7) (t0 := 0) (sp0 := 0) (dp0 := 0) (w0 := 8) (ws' := (w_X4_searchAssignments ad cI cD hask nodes links deg nbr u5.2.1 u5.2.2 st.2.2.2.2.1 (va_cpy st.2.2.2.2.1 st.2.2.2.2.2 0 0 8))) C kX4_searchAssignments_6 kX4_searchAssignments_7 kX4_searchAssignments_8 kX4_searchAssignments_9 rfl rfl rfl (by decide) (by decide) (by decide) (by decide) (by decide) (by decide) (by decide) (by decide) (Nat.le_of_ble_eq_true rfl) (by decide) rfl dX4_searchAssignments_99 rfl ?_
          refine wd_aload_n (j := 103) C 2 dX4_searchAssignments_102 rfl rfl rfl ?_
          obtain ⟨u8, hu8, h⟩ := bnd_some h
          refine wd_callVv (j := 106) (q0 := 0) (ci := 4) (As := []) (rest := []) (ws' := (w_X4_searchAssignments ad cI cD hask nodes links deg nbr u5.2.1 u5.2.2 u8 (va_cpy st.2.2.2.2.1 st.2.2.2.2.2 0 0 8))) C (c_X4_turnTrialRotors l D cI cD ad N hask nodes links deg st.2.2.2.2.1 u8 hu8) (cwV 0 C.1.2.2.2.2 gX4_searchAssignments_X4_turnTrialRotors rfl rfl rfl (by decide +kernel) ⟨Nat.le_of_ble_eq_true rfl, Nat.le_of_ble_eq_true rfl⟩) rfl rfl [0, 1, 2, 6] [3, 4, 5, 7] rfl rfl rfl rfl (by decide) [4, 5, 6, 0, 1, 2, 7, 3] rfl rfl rfl (Nat.le_of_ble_eq_true rfl) (Nat.le_of_ble_eq_true rfl) (Nat.le_of_ble_eq_true rfl) dX4_searchAssignments_103 rfl ?_
          refine wd_iinc (j := 109) (lv' := [(5, .int (st.2.1 + 1)), (4, .int u5.1), (6, .int u5.1), (0, .ref (ad 0)), (1, .int p1), (2, .int p2), (3, .int p3)]) C 6 dX4_searchAssignments_106 rfl rfl (by decide) rfl rfl ?_
          refine wd_goto (t := 51) C dX4_searchAssignments_109 (by decide) ?_
          obtain rfl := Option.some.inj h
          refine wd_lv (lv' := [(0, .ref (ad 0)), (1, .int p1), (2, .int p2), (3, .int p3), (4, .int u5.1), (5, .int (st.2.1 + 1))]) [3, 4, 5, 6, 1, 0] rfl ?_
          exact ih (u5.1, (st.2.1 + 1), u5.2.1, u5.2.2, u8, (va_cpy st.2.2.2.2.1 st.2.2.2.2.2 0 0 8)) E hk kx
set_option maxRecDepth 100000 in
set_option maxHeartbeats 4000000 in
theorem c_X4_searchAssignments (l : Launch) (D : va_G) (cI cD : ClassId) (ad : Nat → Nat) (N : Nat) (hask : Int32) (nodes : Int32) (links : Int32) (deg : Nat → Int32) (nbr : Nat → Int32) (node : Int32) (prot : Nat → Int32) (tri : Nat → Int32) (bst : Nat → Int32) (p1 : Int32) (u : Int32 × Int32 × (Nat → Int32) × (Nat → Int32) × (Nat → Int32)) (h : f_X4_searchAssignments N nodes deg nbr node prot tri bst p1 = some u) : MetI l yX4_searchAssignments wsX4_searchAssignments { frames := 3, cells := 0, slots := 0, locals := 88 } D [(cI, .int), (cD, .double)] [.ref (ad 0), .int p1] (w_X4_searchAssignments ad cI cD hask nodes links deg nbr node prot tri bst) u.1 (w_X4_searchAssignments ad cI cD hask nodes links deg nbr u.2.1 u.2.2.1 u.2.2.2.1 u.2.2.2.2) := by
  refine MetI.of (own := RX4) (cc := cX4_searchAssignments) (nL := 7) (ret := (some .int)) (by decide) rfl rfl (Nat.le_of_ble_eq_true rfl) rfl ?_
  intro p e s m args below meth c A hA C hr hlk
  unfold f_X4_searchAssignments at h
  refine wd_iconst (j := 1) (v := 0) C dX4_searchAssignments_0 (by decide) rfl ?_
  refine wd_istore_n (j := 2) (lv' := [(2, .int (0 : Int32)), (0, .ref (ad 0)), (1, .int p1)]) C dX4_searchAssignments_1 rfl (by decide) rfl rfl ?_
  refine wd_lv (lv' := [(0, .ref (ad 0)), (1, .int p1), (2, .int (0 : Int32))]) [1, 2, 0] rfl ?_
  obtain ⟨u9, hu9, h⟩ := bnd_some h
  refine lw_X4_searchAssignments_2 l D cI cD ad N hask links deg nbr node prot bst nodes p1 C N ((0 : Int32), tri) u9 hu9 ?_
  refine wd_aload_n (j := 27) C 0 dX4_searchAssignments_26 rfl rfl rfl ?_
  refine wd_get (j := 30) (q0 := 0) (f := 1) (ci := 4) (v := .ref (ad 3)) C inX4_searchAssignments_X4 kX4_searchAssignments_1 rfl (by decide) rfl rfl dX4_searchAssignments_27 rfl ?_
  obtain ⟨u10, hu10, h⟩ := bnd_some h
  refine wd_callVi (j := 33) (q0 := 0) (ci := 0) (As := []) (rest := []) (ws' := (w_X4_searchAssignments ad cI cD hask nodes links deg nbr node prot u9 bst)) C (c_X0_assignments l D cI cD (ad 3) (ad 4) (ad 5) N nodes links deg u10 hu10) (cwV 0 C.1.2.2.2.2 gX4_searchAssignments_X0_assignments rfl rfl rfl (by decide +kernel) ⟨Nat.le_of_ble_eq_true rfl, Nat.le_of_ble_eq_true rfl⟩) rfl rfl [1, 2] [0, 3, 4, 5, 6, 7] rfl rfl rfl rfl (by decide) [0, 6, 7, 1, 2, 3, 4, 5] rfl rfl rfl (Nat.le_of_ble_eq_true rfl) (Nat.le_of_ble_eq_true rfl) (Nat.le_of_ble_eq_true rfl) dX4_searchAssignments_30 rfl ?_
  refine wd_istore_n (j := 34) (lv' := [(2, .int u10), (0, .ref (ad 0)), (1, .int p1)]) C dX4_searchAssignments_33 rfl (by decide) rfl rfl ?_
  refine wd_aload_n (j := 35) C 1 dX4_searchAssignments_34 rfl rfl rfl ?_
  refine wd_get (j := 38) (q0 := 0) (f := 1) (ci := 4) (v := .ref (ad 3)) C inX4_searchAssignments_X4 kX4_searchAssignments_1 rfl (by decide) rfl rfl dX4_searchAssignments_35 rfl ?_
  refine wd_get (j := 41) (q0 := 1) (f := 2) (ci := 0) (v := .int nodes) C inX4_searchAssignments_X0 kX4_searchAssignments_2 rfl (by decide) rfl rfl dX4_searchAssignments_38 rfl ?_
  refine wd_iconst (j := 42) (v := 1) C dX4_searchAssignments_41 (by decide) rfl ?_
  refine wd_isub (j := 43) C dX4_searchAssignments_42 rfl ?_
  refine wd_istore_n (j := 44) (lv' := [(3, .int (nodes - (1 : Int32))), (2, .int u10), (0, .ref (ad 0)), (1, .int p1)]) C dX4_searchAssignments_43 rfl (by decide) rfl rfl ?_
  refine wd_ldc (j := 46) C dX4_searchAssignments_44 kX4_searchAssignments_4 rfl ?_
  refine wd_istore (j := 48) (lv' := [(4, .int (1000000 : Int32)), (3, .int (nodes - (1 : Int32))), (2, .int u10), (0, .ref (ad 0)), (1, .int p1)]) C dX4_searchAssignments_46 (by decide) rfl rfl ?_
  refine wd_iconst (j := 49) (v := 0) C dX4_searchAssignments_48 (by decide) rfl ?_
  refine wd_istore (j := 51) (lv' := [(5, .int (0 : Int32)), (4, .int (1000000 : Int32)), (3, .int (nodes - (1 : Int32))), (2, .int u10), (0, .ref (ad 0)), (1, .int p1)]) C dX4_searchAssignments_49 (by decide) rfl rfl ?_
  refine wd_lv (lv' := [(0, .ref (ad 0)), (1, .int p1), (2, .int u10), (3, .int (nodes - (1 : Int32))), (4, .int (1000000 : Int32)), (5, .int (0 : Int32))]) [4, 5, 3, 2, 1, 0] rfl ?_
  obtain ⟨u11, hu11, h⟩ := bnd_some h
  refine lw_X4_searchAssignments_51 l D cI cD ad N hask links nodes deg nbr p1 u10 (nodes - (1 : Int32)) C N ((1000000 : Int32), (0 : Int32), node, prot, u9, bst) u11 hu11 ?_
  refine wd_iload (j := 114) C 0 dX4_searchAssignments_112 rfl rfl ?_
  obtain rfl := Option.some.inj h
  exact wd_iret C hA hr hlk rfl rfl rfl dX4_searchAssignments_114
abbrev w_X4_leastCoverTime (ad : Nat → Nat) (cI cD : ClassId) (hask : Int32) (nodes : Int32) (links : Int32) (deg : Nat → Int32) (nbr : Nat → Int32) (node : Int32) (prot : Nat → Int32) (tri : Nat → Int32) (bst : Nat → Int32) : va_W := [((ad 0), .inr (4, [.ref (ad 1), .ref (ad 3), .ref (ad 6), .ref (ad 11), .int hask, .ref (ad 16), .ref (ad 18), .ref (ad 20), .ref (ad 21), .ref (ad 22), .ref (ad 23)])), ((ad 3), .inr (0, [.ref (ad 4), .ref (ad 5), .int nodes, .int links])), ((ad 4), .inl (cI, 8, .inl deg)), ((ad 5), .inl (cI, 56, .inl nbr)), ((ad 16), .inr (2, [.ref (ad 17), .int node])), ((ad 17), .inl (cI, 8, .inl prot)), ((ad 20), .inl (cI, 8, .inl tri)), ((ad 21), .inl (cI, 8, .inl bst))]
theorem kX4_leastCoverTime_1 : Cond.fieldLink "RotorRouter" 19 "RotorRouter" "graph" "LRotorRouter$Graph;" ∈ wsX4_leastCoverTime := List.mem_of_getElem? (i := 1) rfl
theorem inX4_leastCoverTime_X4 : ∀ w ∈ wsX40, w ∈ wsX4_leastCoverTime := fun _ h => List.mem_cons_of_mem _ (List.mem_append_left _ (List.mem_append_left _ (List.mem_append_right _ h)))
set_option maxRecDepth 100000 in
set_option maxHeartbeats 4000000 in
theorem c_X4_leastCoverTime (l : Launch) (D : va_G) (cI cD : ClassId) (ad : Nat → Nat) (N : Nat) (hask : Int32) (nodes : Int32) (links : Int32) (deg : Nat → Int32) (nbr : Nat → Int32) (node : Int32) (prot : Nat → Int32) (tri : Nat → Int32) (bst : Nat → Int32) (p1 : Int32) (u : Int32 × Int32 × (Nat → Int32) × (Nat → Int32) × (Nat → Int32)) (h : f_X4_leastCoverTime N nodes deg nbr node prot tri bst p1 = some u) : MetI l yX4_leastCoverTime wsX4_leastCoverTime { frames := 4, cells := 0, slots := 0, locals := 114 } D [(cI, .int), (cD, .double)] [.ref (ad 0), .int p1] (w_X4_leastCoverTime ad cI cD hask nodes links deg nbr node prot tri bst) u.1 (w_X4_leastCoverTime ad cI cD hask nodes links deg nbr u.2.1 u.2.2.1 u.2.2.2.1 u.2.2.2.2) := by
  refine MetI.of (own := RX4) (cc := cX4_leastCoverTime) (nL := 2) (ret := (some .int)) (by decide) rfl rfl (Nat.le_of_ble_eq_true rfl) rfl ?_
  intro p e s m args below meth c A hA C hr hlk
  unfold f_X4_leastCoverTime at h
  refine wd_aload_n (j := 1) C 0 dX4_leastCoverTime_0 rfl rfl rfl ?_
  refine wd_get (j := 4) (q0 := 0) (f := 1) (ci := 4) (v := .ref (ad 3)) C inX4_leastCoverTime_X4 kX4_leastCoverTime_1 rfl (by decide) rfl rfl dX4_leastCoverTime_1 rfl ?_
  refine wd_iload_n (j := 5) C 1 dX4_leastCoverTime_4 rfl rfl rfl ?_
  obtain ⟨u1, hu1, h⟩ := bnd_some h
  refine wd_callVi (j := 8) (q0 := 0) (ci := 0) (As := [.int p1]) (rest := []) (ws' := (w_X4_leastCoverTime ad cI cD hask nodes links deg nbr node prot tri bst)) C (c_X0_hasNode l D cI cD (ad 3) (ad 4) (ad 5) nodes links p1 u1 hu1) (cwV 1 C.1.2.2.2.2 gX4_leastCoverTime_X0_hasNode rfl rfl rfl (by decide +kernel) ⟨Nat.le_of_ble_eq_true rfl, Nat.le_of_ble_eq_true rfl⟩) rfl rfl [1] [0, 2, 3, 4, 5, 6, 7] rfl rfl rfl rfl (by decide) [0, 7, 1, 2, 3, 4, 5, 6] rfl rfl rfl (Nat.le_of_ble_eq_true rfl) (Nat.le_of_ble_eq_true rfl) (Nat.le_of_ble_eq_true rfl) dX4_leastCoverTime_5 rfl ?_
  refine wd_if_ne (j := 11) (t := 14) C dX4_leastCoverTime_8 (by decide) rfl (fun c2 => ?_) (fun c2 => ?_)
  · replace h := (if_neg c2).symm.trans h
    refine wd_aload_n (j := 15) C 0 dX4_leastCoverTime_14 rfl rfl rfl ?_
    refine wd_get (j := 18) (q0 := 0) (f := 1) (ci := 4) (v := .ref (ad 3)) C inX4_leastCoverTime_X4 kX4_leastCoverTime_1 rfl (by decide) rfl rfl dX4_leastCoverTime_15 rfl ?_
    obtain ⟨u3, hu3, h⟩ := bnd_some h
    refine wd_callVi (j := 21) (q0 := 0) (ci := 0) (As := []) (rest := []) (ws' := (w_X4_leastCoverTime ad cI cD hask nodes links deg nbr node prot tri bst)) C (c_X0_assignments l D cI cD (ad 3) (ad 4) (ad 5) N nodes links deg u3 hu3) (cwV 0 C.1.2.2.2.2 gX4_leastCoverTime_X0_assignments rfl rfl rfl (by decide +kernel) ⟨Nat.le_of_ble_eq_true rfl, Nat.le_of_ble_eq_true rfl⟩) rfl rfl [1, 2] [0, 3, 4, 5, 6, 7] rfl rfl rfl rfl (by decide) [0, 6, 7, 1, 2, 3, 4, 5] rfl rfl rfl (Nat.le_of_ble_eq_true rfl) (Nat.le_of_ble_eq_true rfl) (Nat.le_of_ble_eq_true rfl) dX4_leastCoverTime_18 rfl ?_
    refine wd_sipush (j := 24) (v := 2000) C dX4_leastCoverTime_21 (by decide) rfl ?_
    refine wd_icmp_le (j := 27) (t := 30) C dX4_leastCoverTime_24 (by decide) rfl (fun c4 => ?_) (fun c4 => ?_)
    · replace h := (if_pos c4).symm.trans h
      refine wd_aload_n (j := 31) C 0 dX4_leastCoverTime_30 rfl rfl rfl ?_
      refine wd_iload_n (j := 32) C 1 dX4_leastCoverTime_31 rfl rfl rfl ?_
      obtain ⟨u5, hu5, h⟩ := bnd_some h
      refine wd_callVi (j := 35) (q0 := 0) (ci := 4) (As := [.int p1]) (rest := []) (ws' := (w_X4_leastCoverTime ad cI cD hask nodes links deg nbr u5.2.1 u5.2.2.1 u5.2.2.2.1 u5.2.2.2.2)) C (c_X4_searchAssignments l D cI cD ad N hask nodes links deg nbr node prot tri bst p1 u5 hu5) (cwV 1 C.1.2.2.2.2 gX4_leastCoverTime_X4_searchAssignments rfl rfl rfl (by decide +kernel) ⟨Nat.le_of_ble_eq_true rfl, Nat.le_of_ble_eq_true rfl⟩) rfl rfl [0, 1, 2, 3, 4, 5, 6, 7] [] rfl rfl rfl rfl (by decide) [0, 1, 2, 3, 4, 5, 6, 7] rfl rfl rfl (Nat.le_of_ble_eq_true rfl) (Nat.le_of_ble_eq_true rfl) (Nat.le_of_ble_eq_true rfl) dX4_leastCoverTime_32 rfl ?_
      obtain rfl := Option.some.inj h
      exact wd_iret C hA hr hlk rfl rfl rfl dX4_leastCoverTime_35
    · replace h := (if_neg c4).symm.trans h
      refine wd_bipush (j := 29) (v := -8) C dX4_leastCoverTime_27 (by decide) rfl ?_
      obtain rfl := Option.some.inj h
      exact wd_iret C hA hr hlk rfl rfl rfl dX4_leastCoverTime_29
  · replace h := (if_pos c2).symm.trans h
    refine wd_bipush (j := 13) (v := -4) C dX4_leastCoverTime_11 (by decide) rfl ?_
    obtain rfl := Option.some.inj h
    exact wd_iret C hA hr hlk rfl rfl rfl dX4_leastCoverTime_13
abbrev w_X4_bestRotor (ad : Nat → Nat) (cI cD : ClassId) (hask : Int32) (nodes : Int32) (links : Int32) (deg : Nat → Int32) (nbr : Nat → Int32) (node : Int32) (prot : Nat → Int32) (tri : Nat → Int32) (bst : Nat → Int32) : va_W := [((ad 0), .inr (4, [.ref (ad 1), .ref (ad 3), .ref (ad 6), .ref (ad 11), .int hask, .ref (ad 16), .ref (ad 18), .ref (ad 20), .ref (ad 21), .ref (ad 22), .ref (ad 23)])), ((ad 3), .inr (0, [.ref (ad 4), .ref (ad 5), .int nodes, .int links])), ((ad 4), .inl (cI, 8, .inl deg)), ((ad 5), .inl (cI, 56, .inl nbr)), ((ad 16), .inr (2, [.ref (ad 17), .int node])), ((ad 17), .inl (cI, 8, .inl prot)), ((ad 20), .inl (cI, 8, .inl tri)), ((ad 21), .inl (cI, 8, .inl bst))]
theorem kX4_bestRotor_1 : Cond.fieldLink "RotorRouter" 19 "RotorRouter" "graph" "LRotorRouter$Graph;" ∈ wsX4_bestRotor := List.mem_of_getElem? (i := 1) rfl
theorem kX4_bestRotor_2 : Cond.fieldLink "RotorRouter" 51 "RotorRouter" "bestRotors" "[I" ∈ wsX4_bestRotor := List.mem_of_getElem? (i := 2) rfl
theorem inX4_bestRotor_X4 : ∀ w ∈ wsX40, w ∈ wsX4_bestRotor := fun _ h => List.mem_cons_of_mem _ (List.mem_append_left _ (List.mem_append_left _ (List.mem_append_right _ h)))
set_option maxRecDepth 100000 in
set_option maxHeartbeats 4000000 in
theorem c_X4_bestRotor (l : Launch) (D : va_G) (cI cD : ClassId) (ad : Nat → Nat) (N : Nat) (hask : Int32) (nodes : Int32) (links : Int32) (deg : Nat → Int32) (nbr : Nat → Int32) (node : Int32) (prot : Nat → Int32) (tri : Nat → Int32) (bst : Nat → Int32) (p1 : Int32) (p2 : Int32) (u : Int32 × Int32 × (Nat → Int32) × (Nat → Int32) × (Nat → Int32)) (h : f_X4_bestRotor N nodes deg nbr node prot tri bst p1 p2 = some u) : MetI l yX4_bestRotor wsX4_bestRotor { frames := 4, cells := 0, slots := 0, locals := 114 } D [(cI, .int), (cD, .double)] [.ref (ad 0), .int p1, .int p2] (w_X4_bestRotor ad cI cD hask nodes links deg nbr node prot tri bst) u.1 (w_X4_bestRotor ad cI cD hask nodes links deg nbr u.2.1 u.2.2.1 u.2.2.2.1 u.2.2.2.2) := by
  refine MetI.of (own := RX4) (cc := cX4_bestRotor) (nL := 3) (ret := (some .int)) (by decide) rfl rfl (Nat.le_of_ble_eq_true rfl) rfl ?_
  intro p e s m args below meth c A hA C hr hlk
  unfold f_X4_bestRotor at h
  refine wd_aload_n (j := 1) C 0 dX4_bestRotor_0 rfl rfl rfl ?_
  refine wd_get (j := 4) (q0 := 0) (f := 1) (ci := 4) (v := .ref (ad 3)) C inX4_bestRotor_X4 kX4_bestRotor_1 rfl (by decide) rfl rfl dX4_bestRotor_1 rfl ?_
  refine wd_iload_n (j := 5) C 1 dX4_bestRotor_4 rfl rfl rfl ?_
  obtain ⟨u1, hu1, h⟩ := bnd_some h
  refine wd_callVi (j := 8) (q0 := 0) (ci := 0) (As := [.int p1]) (rest := []) (ws' := (w_X4_bestRotor ad cI cD hask nodes links deg nbr node prot tri bst)) C (c_X0_hasNode l D cI cD (ad 3) (ad 4) (ad 5) nodes links p1 u1 hu1) (cwV 1 C.1.2.2.2.2 gX4_bestRotor_X0_hasNode rfl rfl rfl (by decide +kernel) ⟨Nat.le_of_ble_eq_true rfl, Nat.le_of_ble_eq_true rfl⟩) rfl rfl [1] [0, 2, 3, 4, 5, 6, 7] rfl rfl rfl rfl (by decide) [0, 7, 1, 2, 3, 4, 5, 6] rfl rfl rfl (Nat.le_of_ble_eq_true rfl) (Nat.le_of_ble_eq_true rfl) (Nat.le_of_ble_eq_true rfl) dX4_bestRotor_5 rfl ?_
  refine wd_if_eq (j := 11) (t := 22) C dX4_bestRotor_8 (by decide) rfl (fun c2 => ?_) (fun c2 => ?_)
  · replace h := (if_pos c2).symm.trans h
    refine wd_bipush (j := 24) (v := -4) C dX4_bestRotor_22 (by decide) rfl ?_
    obtain rfl := Option.some.inj h
    exact wd_iret C hA hr hlk rfl rfl rfl dX4_bestRotor_24
  · replace h := (if_neg c2).symm.trans h
    refine wd_aload_n (j := 12) C 0 dX4_bestRotor_11 rfl rfl rfl ?_
    refine wd_get (j := 15) (q0 := 0) (f := 1) (ci := 4) (v := .ref (ad 3)) C inX4_bestRotor_X4 kX4_bestRotor_1 rfl (by decide) rfl rfl dX4_bestRotor_12 rfl ?_
    refine wd_iload_n (j := 16) C 2 dX4_bestRotor_15 rfl rfl rfl ?_
    obtain ⟨u3, hu3, h⟩ := bnd_some h
    refine wd_callVi (j := 19) (q0 := 0) (ci := 0) (As := [.int p2]) (rest := []) (ws' := (w_X4_bestRotor ad cI cD hask nodes links deg nbr node prot tri bst)) C (c_X0_hasNode l D cI cD (ad 3) (ad 4) (ad 5) nodes links p2 u3 hu3) (cwV 1 C.1.2.2.2.2 gX4_bestRotor_X0_hasNode rfl rfl rfl (by decide +kernel) ⟨Nat.le_of_ble_eq_true rfl, Nat.le_of_ble_eq_true rfl⟩) rfl rfl [1] [0, 2, 3, 4, 5, 6, 7] rfl rfl rfl rfl (by decide) [0, 7, 1, 2, 3, 4, 5, 6] rfl rfl rfl (Nat.le_of_ble_eq_true rfl) (Nat.le_of_ble_eq_true rfl) (Nat.le_of_ble_eq_true rfl) dX4_bestRotor_16 rfl ?_
    refine wd_if_ne (j := 22) (t := 25) C dX4_bestRotor_19 (by decide) rfl (fun c4 => ?_) (fun c4 => ?_)
    · replace h := (if_neg c4).symm.trans h
      refine wd_aload_n (j := 26) C 0 dX4_bestRotor_25 rfl rfl rfl ?_
      refine wd_get (j := 29) (q0 := 0) (f := 1) (ci := 4) (v := .ref (ad 3)) C inX4_bestRotor_X4 kX4_bestRotor_1 rfl (by decide) rfl rfl dX4_bestRotor_26 rfl ?_
      obtain ⟨u5, hu5, h⟩ := bnd_some h
      refine wd_callVi (j := 32) (q0 := 0) (ci := 0) (As := []) (rest := []) (ws' := (w_X4_bestRotor ad cI cD hask nodes links deg nbr node prot tri bst)) C (c_X0_assignments l D cI cD (ad 3) (ad 4) (ad 5) N nodes links deg u5 hu5) (cwV 0 C.1.2.2.2.2 gX4_bestRotor_X0_assignments rfl rfl rfl (by decide +kernel) ⟨Nat.le_of_ble_eq_true rfl, Nat.le_of_ble_eq_true rfl⟩) rfl rfl [1, 2] [0, 3, 4, 5, 6, 7] rfl rfl rfl rfl (by decide) [0, 6, 7, 1, 2, 3, 4, 5] rfl rfl rfl (Nat.le_of_ble_eq_true rfl) (Nat.le_of_ble_eq_true rfl) (Nat.le_of_ble_eq_true rfl) dX4_bestRotor_29 rfl ?_
      refine wd_sipush (j := 35) (v := 2000) C dX4_bestRotor_32 (by decide) rfl ?_
      refine wd_icmp_le (j := 38) (t := 41) C dX4_bestRotor_35 (by decide) rfl (fun c6 => ?_) (fun c6 => ?_)
      · replace h := (if_pos c6).symm.trans h
        refine wd_aload_n (j := 42) C 0 dX4_bestRotor_41 rfl rfl rfl ?_
        refine wd_iload_n (j := 43) C 1 dX4_bestRotor_42 rfl rfl rfl ?_
        obtain ⟨u7, hu7, h⟩ := bnd_some h
        refine wd_callVi (j := 46) (q0 := 0) (ci := 4) (As := [.int p1]) (rest := []) (ws' := (w_X4_bestRotor ad cI cD hask nodes links deg nbr u7.2.1 u7.2.2.1 u7.2.2.2.1 u7.2.2.2.2)) C (c_X4_searchAssignments l D cI cD ad N hask nodes links deg nbr node prot tri bst p1 u7 hu7) (cwV 1 C.1.2.2.2.2 gX4_bestRotor_X4_searchAssignments rfl rfl rfl (by decide +kernel) ⟨Nat.le_of_ble_eq_true rfl, Nat.le_of_ble_eq_true rfl⟩) rfl rfl [0, 1, 2, 3, 4, 5, 6, 7] [] rfl rfl rfl rfl (by decide) [0, 1, 2, 3, 4, 5, 6, 7] rfl rfl rfl (Nat.le_of_ble_eq_true rfl) (Nat.le_of_ble_eq_true rfl) (Nat.le_of_ble_eq_true rfl) dX4_bestRotor_43 rfl ?_
        refine wd_pop (j := 47) C dX4_bestRotor_46 rfl rfl ?_
        refine wd_aload_n (j := 48) C 0 dX4_bestRotor_47 rfl rfl rfl ?_
        refine wd_get (j := 51) (q0 := 0) (f := 8) (ci := 4) (v := .ref (ad 21)) C inX4_bestRotor_X4 kX4_bestRotor_2 rfl (by decide) rfl rfl dX4_bestRotor_48 rfl ?_
        refine wd_iload_n (j := 52) C 2 dX4_bestRotor_51 rfl rfl rfl ?_
        obtain ⟨g8, h⟩ := grd_some h
        refine wd_iald (j := 53) (q0 := 7) (t0 := 0) C rfl rfl (inB_in g8) dX4_bestRotor_52 rfl ?_
        obtain rfl := Option.some.inj h
        exact wd_iret C hA hr hlk rfl rfl rfl dX4_bestRotor_53
      · replace h := (if_neg c6).symm.trans h
        refine wd_bipush (j := 40) (v := -8) C dX4_bestRotor_38 (by decide) rfl ?_
        obtain rfl := Option.some.inj h
        exact wd_iret C hA hr hlk rfl rfl rfl dX4_bestRotor_40
    · replace h := (if_pos c4).symm.trans h
      refine wd_bipush (j := 24) (v := -4) C dX4_bestRotor_22 (by decide) rfl ?_
      obtain rfl := Option.some.inj h
      exact wd_iret C hA hr hlk rfl rfl rfl dX4_bestRotor_24
abbrev w_X4_spreadChances (ad : Nat → Nat) (cI cD : ClassId) (hask : Int32) (nodes : Int32) (links : Int32) (deg : Nat → Int32) (nbr : Nat → Int32) (chs : Nat → UInt64) (nxt : Nat → UInt64) : va_W := [((ad 0), .inr (4, [.ref (ad 1), .ref (ad 3), .ref (ad 6), .ref (ad 11), .int hask, .ref (ad 16), .ref (ad 18), .ref (ad 20), .ref (ad 21), .ref (ad 22), .ref (ad 23)])), ((ad 3), .inr (0, [.ref (ad 4), .ref (ad 5), .int nodes, .int links])), ((ad 4), .inl (cI, 8, .inl deg)), ((ad 5), .inl (cI, 56, .inl nbr)), ((ad 22), .inl (cD, 8, .inr (.inr (.inr (.inl chs))))), ((ad 23), .inl (cD, 8, .inr (.inr (.inr (.inl nxt)))))]
theorem kX4_spreadChances_1 : Cond.fieldLink "RotorRouter" 19 "RotorRouter" "graph" "LRotorRouter$Graph;" ∈ wsX4_spreadChances := List.mem_of_getElem? (i := 1) rfl
theorem kX4_spreadChances_2 : Cond.fieldLink "RotorRouter" 86 "RotorRouter$Graph" "nodes" "I" ∈ wsX4_spreadChances := List.mem_of_getElem? (i := 2) rfl
theorem kX4_spreadChances_3 : Cond.fieldLink "RotorRouter" 58 "RotorRouter" "nextChances" "[D" ∈ wsX4_spreadChances := List.mem_of_getElem? (i := 3) rfl
theorem kX4_spreadChances_4 : Cond.fieldLink "RotorRouter" 93 "RotorRouter$Graph" "degrees" "[I" ∈ wsX4_spreadChances := List.mem_of_getElem? (i := 4) rfl
theorem kX4_spreadChances_5 : Cond.fieldLink "RotorRouter" 100 "RotorRouter$Graph" "neighbors" "[I" ∈ wsX4_spreadChances := List.mem_of_getElem? (i := 5) rfl
theorem kX4_spreadChances_6 : Cond.fieldLink "RotorRouter" 54 "RotorRouter" "chances" "[D" ∈ wsX4_spreadChances := List.mem_of_getElem? (i := 6) rfl
theorem inX4_spreadChances_X4 : ∀ w ∈ wsX40, w ∈ wsX4_spreadChances := fun _ h => List.mem_cons_of_mem _ (List.mem_append_left _ (List.mem_append_right _ h))
theorem inX4_spreadChances_X0 : ∀ w ∈ wsX00, w ∈ wsX4_spreadChances := fun _ h => List.mem_cons_of_mem _ (List.mem_append_right _ h)
set_option maxRecDepth 100000 in
set_option maxHeartbeats 4000000 in
theorem lw_X4_spreadChances_2 (l : Launch) (D : va_G) (cI cD : ClassId) (ad : Nat → Nat) (N : Nat) (hask : Int32) (links : Int32) (deg : Nat → Int32) (nbr : Nat → Int32) (chs : Nat → UInt64) (nodes : Int32)  {p : Program} {e : Env} {s : State} {m : MethodId} {args : Array Value} {below : List Frame} {meth : Method} {c : Code} {A : Nat → Prop} {Q : State → Prop} (C : wd_C p m c cX4_spreadChances 4 s args wsX4_spreadChances RX4 D [(cI, .int), (cD, .double)] A) : ∀ (n : Nat) (st : Int32 × (Nat → UInt64)) (E : (Nat → UInt64)), iter (b_X4_spreadChances_2 nodes) n st = some E → (Wd p l e { frames := 1, cells := 0, slots := 0, locals := 21 } s m args below meth c 4 D A 0 0 Q 26 [(0, .ref (ad 0))] [] (w_X4_spreadChances ad cI cD hask nodes links deg nbr chs E)) → Wd p l e { frames := 1, cells := 0, slots := 0, locals := 21 } s m args below meth c 4 D A 0 0 Q 2 [(0, .ref (ad 0)), (1, .int st.1)] [] (w_X4_spreadChances ad cI cD hask nodes links deg nbr chs st.2) := by
  intro n
  induction n with
  | zero => intro st E h; cases h
  | succ n ih =>
    intro st E h kx
    obtain ⟨b, h, hk⟩ := iter_step h
    unfold b_X4_spreadChances_2 at h
    refine wd_iload_n (j := 3) C 1 dX4_spreadChances_2 rfl rfl rfl ?_
    refine wd_aload_n (j := 4) C 0 dX4_spreadChances_3 rfl rfl rfl ?_
    refine wd_get (j := 7) (q0 := 0) (f := 1) (ci := 4) (v := .ref (ad 3)) C inX4_spreadChances_X4 kX4_spreadChances_1 rfl (by decide) rfl rfl dX4_spreadChances_4 rfl ?_
    refine wd_get (j := 10) (q0 := 1) (f := 2) (ci := 0) (v := .int nodes) C inX4_spreadChances_X0 kX4_spreadChances_2 rfl (by decide) rfl rfl dX4_spreadChances_7 rfl ?_
    refine wd_icmp_ge (j := 13) (t := 26) C dX4_spreadChances_10 (by decide) rfl (fun c1 => ?_) (fun c1 => ?_)
    · replace h := (if_pos c1).symm.trans h
      obtain rfl := Option.some.inj h
      obtain rfl := hk
      refine wd_lv (lv' := [(0, .ref (ad 0))]) [0] rfl ?_
      exact kx
    · replace h := (if_neg c1).symm.trans h
      refine wd_aload_n (j := 14) C 0 dX4_spreadChances_13 rfl rfl rfl ?_
      refine wd_get (j := 17) (q0 := 0) (f := 10) (ci := 4) (v := .ref (ad 23)) C inX4_spreadChances_X4 kX4_spreadChances_3 rfl (by decide) rfl rfl dX4_spreadChances_14 rfl ?_
      refine wd_iload_n (j := 18) C 1 dX4_spreadChances_17 rfl rfl rfl ?_
      refine wd_dconst0 (j := 19) C dX4_spreadChances_18 rfl ?_
      obtain ⟨g2, h⟩ := grd_some h
      refine wd_dast (j := 20) (q0 := 5) (t0 := 1) (ws' := (w_X4_spreadChances ad cI cD hask nodes links deg nbr chs (vf_upd st.2 st.1.toNatClampNeg FP.dconst0))) C rfl rfl (inB_in g2) rfl dX4_spreadChances_19 rfl ?_
      refine wd_iinc (j := 23) (lv' := [(1, .int (st.1 + 1)), (0, .ref (ad 0))]) C 1 dX4_spreadChances_20 rfl rfl (by decide) rfl rfl ?_
      refine wd_goto (t := 2) C dX4_spreadChances_23 (by decide) ?_
      obtain rfl := Option.some.inj h
      refine wd_lv (lv' := [(0, .ref (ad 0)), (1, .int (st.1 + 1))]) [1, 0] rfl ?_
      exact ih ((st.1 + 1), (vf_upd st.2 st.1.toNatClampNeg FP.dconst0)) E hk kx
set_option maxRecDepth 100000 in
set_option maxHeartbeats 4000000 in
theorem lw_X4_spreadChances_108 (l : Launch) (D : va_G) (cI cD : ClassId) (ad : Nat → Nat) (N : Nat) (hask : Int32) (links : Int32) (deg : Nat → Int32) (nbr : Nat → Int32) (nodes : Int32) (nxt : Nat → UInt64)  {p : Program} {e : Env} {s : State} {m : MethodId} {args : Array Value} {below : List Frame} {meth : Method} {c : Code} {A : Nat → Prop} {Q : State → Prop} (C : wd_C p m c cX4_spreadChances 4 s args wsX4_spreadChances RX4 D [(cI, .int), (cD, .double)] A) : ∀ (n : Nat) (st : Int32 × (Nat → UInt64)) (E : (Nat → UInt64)), iter (b_X4_spreadChances_108 nodes nxt) n st = some E → (Wd p l e { frames := 1, cells := 0, slots := 0, locals := 21 } s m args below meth c 4 D A 0 0 Q 137 [] [] (w_X4_spreadChances ad cI cD hask nodes links deg nbr E nxt)) → Wd p l e { frames := 1, cells := 0, slots := 0, locals := 21 } s m args below meth c 4 D A 0 0 Q 108 [(0, .ref (ad 0)), (1, .int st.1)] [] (w_X4_spreadChances ad cI cD hask nodes links deg nbr st.2 nxt) := by
  intro n
  induction n with
  | zero => intro st E h; cases h
  | succ n ih =>
    intro st E h kx
    obtain ⟨b, h, hk⟩ := iter_step h
    unfold b_X4_spreadChances_108 at h
    refine wd_iload_n (j := 109) C 1 dX4_spreadChances_108 rfl rfl rfl ?_
    refine wd_aload_n (j := 110) C 0 dX4_spreadChances_109 rfl rfl rfl ?_
    refine wd_get (j := 113) (q0 := 0) (f := 1) (ci := 4) (v := .ref (ad 3)) C inX4_spreadChances_X4 kX4_spreadChances_1 rfl (by decide) rfl rfl dX4_spreadChances_110 rfl ?_
    refine wd_get (j := 116) (q0 := 1) (f := 2) (ci := 0) (v := .int nodes) C inX4_spreadChances_X0 kX4_spreadChances_2 rfl (by decide) rfl rfl dX4_spreadChances_113 rfl ?_
    refine wd_icmp_ge (j := 119) (t := 137) C dX4_spreadChances_116 (by decide) rfl (fun c3 => ?_) (fun c3 => ?_)
    · replace h := (if_pos c3).symm.trans h
      obtain rfl := Option.some.inj h
      obtain rfl := hk
      refine wd_lv (lv' := []) [] rfl ?_
      exact kx
    · replace h := (if_neg c3).symm.trans h
      refine wd_aload_n (j := 120) C 0 dX4_spreadChances_119 rfl rfl rfl ?_
      refine wd_get (j := 123) (q0 := 0) (f := 9) (ci := 4) (v := .ref (ad 22)) C inX4_spreadChances_X4 kX4_spreadChances_6 rfl (by decide) rfl rfl dX4_spreadChances_120 rfl ?_
      refine wd_iload_n (j := 124) C 1 dX4_spreadChances_123 rfl rfl rfl ?_
      refine wd_aload_n (j := 125) C 0 dX4_spreadChances_124 rfl rfl rfl ?_
      refine wd_get (j := 128) (q0 := 0) (f := 10) (ci := 4) (v := .ref (ad 23)) C inX4_spreadChances_X4 kX4_spreadChances_3 rfl (by decide) rfl rfl dX4_spreadChances_125 rfl ?_
      refine wd_iload_n (j := 129) C 1 dX4_spreadChances_128 rfl rfl rfl ?_
      obtain ⟨g4, h⟩ := grd_some h
      refine wd_dald (j := 130) (q0 := 5) (t0 := 1) C rfl rfl (inB_in g4) dX4_spreadChances_129 rfl ?_
      obtain ⟨g5, h⟩ := grd_some h
      refine wd_dast (j := 131) (q0 := 4) (t0 := 1) (ws' := (w_X4_spreadChances ad cI cD hask nodes links deg nbr (vf_upd st.2 st.1.toNatClampNeg (nxt st.1.toNatClampNeg)) nxt)) C rfl rfl (inB_in g5) rfl dX4_spreadChances_130 rfl ?_
      refine wd_iinc (j := 134) (lv' := [(1, .int (st.1 + 1)), (0, .ref (ad 0))]) C 1 dX4_spreadChances_131 rfl rfl (by decide) rfl rfl ?_
      refine wd_goto (t := 108) C dX4_spreadChances_134 (by decide) ?_
      obtain rfl := Option.some.inj h
      refine wd_lv (lv' := [(0, .ref (ad 0)), (1, .int (st.1 + 1))]) [1, 0] rfl ?_
      exact ih ((st.1 + 1), (vf_upd st.2 st.1.toNatClampNeg (nxt st.1.toNatClampNeg))) E hk kx
set_option maxRecDepth 100000 in
set_option maxHeartbeats 4000000 in
theorem lw_X4_spreadChances_41 (l : Launch) (D : va_G) (cI cD : ClassId) (ad : Nat → Nat) (N : Nat) (hask : Int32) (nodes : Int32) (links : Int32) (deg : Nat → Int32) (nbr : Nat → Int32) (chs : Nat → UInt64) (p1 : Int32) {p : Program} {e : Env} {s : State} {m : MethodId} {args : Array Value} {below : List Frame} {meth : Method} {c : Code} {A : Nat → Prop} {Q : State → Prop} (C : wd_C p m c cX4_spreadChances 4 s args wsX4_spreadChances RX4 D [(cI, .int), (cD, .double)] A) : ∀ (n : Nat) (st : Int32 × (Nat → UInt64)) (E : (Nat → UInt64)), iter (b_X4_spreadChances_41 deg nbr chs p1) n st = some E → (Wd p l e { frames := 1, cells := 0, slots := 0, locals := 21 } s m args below meth c 4 D A 0 0 Q 100 [(0, .ref (ad 0)), (1, .int p1)] [] (w_X4_spreadChances ad cI cD hask nodes links deg nbr chs E)) → Wd p l e { frames := 1, cells := 0, slots := 0, locals := 21 } s m args below meth c 4 D A 0 0 Q 41 [(0, .ref (ad 0)), (1, .int p1), (2, .int st.1)] [] (w_X4_spreadChances ad cI cD hask nodes links deg nbr chs st.2) := by
  intro n
  induction n with
  | zero => intro st E h; cases h
  | succ n ih =>
    intro st E h kx
    obtain ⟨b, h, hk⟩ := iter_step h
    unfold b_X4_spreadChances_41 at h
    refine wd_iload_n (j := 42) C 2 dX4_spreadChances_41 rfl rfl rfl ?_
    refine wd_aload_n (j := 43) C 0 dX4_spreadChances_42 rfl rfl rfl ?_
    refine wd_get (j := 46) (q0 := 0) (f := 1) (ci := 4) (v := .ref (ad 3)) C inX4_spreadChances_X4 kX4_spreadChances_1 rfl (by decide) rfl rfl dX4_spreadChances_43 rfl ?_
    refine wd_get (j := 49) (q0 := 1) (f := 0) (ci := 0) (v := .ref (ad 4)) C inX4_spreadChances_X0 kX4_spreadChances_4 rfl (by decide) rfl rfl dX4_spreadChances_46 rfl ?_
    refine wd_iload_n (j := 50) C 1 dX4_spreadChances_49 rfl rfl rfl ?_
    obtain ⟨g6, h⟩ := grd_some h
    refine wd_iald (j := 51) (q0 := 2) (t0 := 0) C rfl rfl (inB_in g6) dX4_spreadChances_50 rfl ?_
    refine wd_icmp_ge (j := 54) (t := 100) C dX4_spreadChances_51 (by decide) rfl (fun c7 => ?_) (fun c7 => ?_)
    · replace h := (if_pos c7).symm.trans h
      obtain rfl := Option.some.inj h
      obtain rfl := hk
      refine wd_lv (lv' := [(0, .ref (ad 0)), (1, .int p1)]) [0, 1] rfl ?_
      exact kx
    · replace h := (if_neg c7).symm.trans h
      refine wd_aload_n (j := 55) C 0 dX4_spreadChances_54 rfl rfl rfl ?_
      refine wd_get (j := 58) (q0 := 0) (f := 1) (ci := 4) (v := .ref (ad 3)) C inX4_spreadChances_X4 kX4_spreadChances_1 rfl (by decide) rfl rfl dX4_spreadChances_55 rfl ?_
      refine wd_get (j := 61) (q0 := 1) (f := 1) (ci := 0) (v := .ref (ad 5)) C inX4_spreadChances_X0 kX4_spreadChances_5 rfl (by decide) rfl rfl dX4_spreadChances_58 rfl ?_
      refine wd_iload_n (j := 62) C 1 dX4_spreadChances_61 rfl rfl rfl ?_
      refine wd_iload_n (j := 63) C 2 dX4_spreadChances_62 rfl rfl rfl ?_
      obtain ⟨u8, hu8, h⟩ := bnd_some h
      refine wd_callSi (j := 66) (As := [.int p1, .int st.1]) (rest := [.ref (ad 5)]) (ws' := (w_X4_spreadChances ad cI cD hask nodes links deg nbr chs st.2)) C (c_X0_slot l D cI cD p1 st.1 u8 hu8) (va_cwS 2 C.1.2.2.2.2 gX4_spreadChances_X0_slot rfl rfl rfl (by decide +kernel) ⟨Nat.le_of_ble_eq_true rfl, Nat.le_of_ble_eq_true rfl⟩) [] [0, 1, 2, 3, 4, 5] rfl rfl rfl rfl (by decide) [0, 1, 2, 3, 4, 5] rfl rfl rfl (Nat.le_of_ble_eq_true rfl) (Nat.le_of_ble_eq_true rfl) (Nat.le_of_ble_eq_true rfl) dX4_spreadChances_63 rfl ?_
      obtain ⟨g9, h⟩ := grd_some h
      refine wd_iald (j := 67) (q0 := 3) (t0 := 0) C rfl rfl (inB_in g9) dX4_spreadChances_66 rfl ?_
      refine wd_istore_n (j := 68) (lv' := [(3, .int (nbr u8.toNatClampNeg)), (0, .ref (ad 0)), (1, .int p1), (2, .int st.1)]) C dX4_spreadChances_67 rfl (by decide) rfl rfl ?_
      refine wd_aload_n (j := 69) C 1 dX4_spreadChances_68 rfl rfl rfl ?_
      refine wd_get (j := 72) (q0 := 0) (f := 10) (ci := 4) (v := .ref (ad 23)) C inX4_spreadChances_X4 kX4_spreadChances_3 rfl (by decide) rfl rfl dX4_spreadChances_69 rfl ?_
      refine wd_iload_n (j := 73) C 0 dX4_spreadChances_72 rfl rfl rfl ?_
      refine wd_dup2 (j := 74) C dX4_spreadChances_73 rfl rfl rfl ?_
      obtain ⟨g10, h⟩ := grd_some h
      refine wd_dald (j := 75) (q0 := 5) (t0 := 1) C rfl rfl (inB_in g10) dX4_spreadChances_74 rfl ?_
      refine wd_aload_n (j := 76) C 1 dX4_spreadChances_75 rfl rfl rfl ?_
      refine wd_get (j := 79) (q0 := 0) (f := 9) (ci := 4) (v := .ref (ad 22)) C inX4_spreadChances_X4 kX4_spreadChances_6 rfl (by decide) rfl rfl dX4_spreadChances_76 rfl ?_
      refine wd_iload_n (j := 80) C 2 dX4_spreadChances_79 rfl rfl rfl ?_
      obtain ⟨g11, h⟩ := grd_some h
      refine wd_dald (j := 81) (q0 := 4) (t0 := 1) C rfl rfl (inB_in g11) dX4_spreadChances_80 rfl ?_
      refine wd_aload_n (j := 82) C 1 dX4_spreadChances_81 rfl rfl rfl ?_
      refine wd_get (j := 85) (q0 := 0) (f := 1) (ci := 4) (v := .ref (ad 3)) C inX4_spreadChances_X4 kX4_spreadChances_1 rfl (by decide) rfl rfl dX4_spreadChances_82 rfl ?_
      refine wd_get (j := 88) (q0 := 1) (f := 0) (ci := 0) (v := .ref (ad 4)) C inX4_spreadChances_X0 kX4_spreadChances_4 rfl (by decide) rfl rfl dX4_spreadChances_85 rfl ?_
      refine wd_iload_n (j := 89) C 2 dX4_spreadChances_88 rfl rfl rfl ?_
      obtain ⟨g12, h⟩ := grd_some h
      refine wd_iald (j := 90) (q0 := 2) (t0 := 0) C rfl rfl (inB_in g12) dX4_spreadChances_89 rfl ?_
      refine wd_i2d (j := 91) C dX4_spreadChances_90 rfl ?_
      obtain ⟨g13, h⟩ := grd_some h
      refine wd_ddiv (j := 92) C dX4_spreadChances_91 (nnB_in g13) rfl ?_
      obtain ⟨g14, h⟩ := grd_some h
      refine wd_dadd (j := 93) C dX4_spreadChances_92 (nnB_in g14) rfl ?_
      obtain ⟨g15, h⟩ := grd_some h
      refine wd_dast (j := 94) (q0 := 5) (t0 := 1) (ws' := (w_X4_spreadChances ad cI cD hask nodes links deg nbr chs (vf_upd st.2 (nbr u8.toNatClampNeg).toNatClampNeg (FP.dadd (st.2 (nbr u8.toNatClampNeg).toNatClampNeg) (FP.ddiv (chs p1.toNatClampNeg) (FP.i2d (deg p1.toNatClampNeg))))))) C rfl rfl (inB_in g15) rfl dX4_spreadChances_93 rfl ?_
      refine wd_iinc (j := 97) (lv' := [(2, .int (st.1 + 1)), (3, .int (nbr u8.toNatClampNeg)), (0, .ref (ad 0)), (1, .int p1)]) C 3 dX4_spreadChances_94 rfl rfl (by decide) rfl rfl ?_
      refine wd_goto (t := 41) C dX4_spreadChances_97 (by decide) ?_
      obtain rfl := Option.some.inj h
      refine wd_lv (lv' := [(0, .ref (ad 0)), (1, .int p1), (2, .int (st.1 + 1))]) [2, 3, 0] rfl ?_
      exact ih ((st.1 + 1), (vf_upd st.2 (nbr u8.toNatClampNeg).toNatClampNeg (FP.dadd (st.2 (nbr u8.toNatClampNeg).toNatClampNeg) (FP.ddiv (chs p1.toNatClampNeg) (FP.i2d (deg p1.toNatClampNeg)))))) E hk kx
set_option maxRecDepth 100000 in
set_option maxHeartbeats 4000000 in
theorem lw_X4_spreadChances_28 (l : Launch) (D : va_G) (cI cD : ClassId) (ad : Nat → Nat) (N : Nat) (hask : Int32) (links : Int32) (nodes : Int32) (deg : Nat → Int32) (nbr : Nat → Int32) (chs : Nat → UInt64)  {p : Program} {e : Env} {s : State} {m : MethodId} {args : Array Value} {below : List Frame} {meth : Method} {c : Code} {A : Nat → Prop} {Q : State → Prop} (C : wd_C p m c cX4_spreadChances 4 s args wsX4_spreadChances RX4 D [(cI, .int), (cD, .double)] A) : ∀ (n : Nat) (st : Int32 × (Nat → UInt64)) (E : (Nat → UInt64)), iter (b_X4_spreadChances_28 N nodes deg nbr chs) n st = some E → (Wd p l e { frames := 1, cells := 0, slots := 0, locals := 21 } s m args below meth c 4 D A 0 0 Q 106 [(0, .ref (ad 0))] [] (w_X4_spreadChances ad cI cD hask nodes links deg nbr chs E)) → Wd p l e { frames := 1, cells := 0, slots := 0, locals := 21 } s m args below meth c 4 D A 0 0 Q 28 [(0, .ref (ad 0)), (1, .int st.1)] [] (w_X4_spreadChances ad cI cD hask nodes links deg nbr chs st.2) := by
  intro n
  induction n with
  | zero => intro st E h; cases h
  | succ n ih =>
    intro st E h kx
    obtain ⟨b, h, hk⟩ := iter_step h
    unfold b_X4_spreadChances_28 at h
    refine wd_iload_n (j := 29) C 1 dX4_spreadChances_28 rfl rfl rfl ?_
    refine wd_aload_n (j := 30) C 0 dX4_spreadChances_29 rfl rfl rfl ?_
    refine wd_get (j := 33) (q0 := 0) (f := 1) (ci := 4) (v := .ref (ad 3)) C inX4_spreadChances_X4 kX4_spreadChances_1 rfl (by decide) rfl rfl dX4_spreadChances_30 rfl ?_
    refine wd_get (j := 36) (q0 := 1) (f := 2) (ci := 0) (v := .int nodes) C inX4_spreadChances_X0 kX4_spreadChances_2 rfl (by decide) rfl rfl dX4_spreadChances_33 rfl ?_
    refine wd_icmp_ge (j := 39) (t := 106) C dX4_spreadChances_36 (by decide) rfl (fun c16 => ?_) (fun c16 => ?_)
    · replace h := (if_pos c16).symm.trans h
      obtain rfl := Option.some.inj h
      obtain rfl := hk
      refine wd_lv (lv' := [(0, .ref (ad 0))]) [0] rfl ?_
      exact kx
    · replace h := (if_neg c16).symm.trans h
      refine wd_iconst (j := 40) (v := 0) C dX4_spreadChances_39 (by decide) rfl ?_
      refine wd_istore_n (j := 41) (lv' := [(2, .int (0 : Int32)), (0, .ref (ad 0)), (1, .int st.1)]) C dX4_spreadChances_40 rfl (by decide) rfl rfl ?_
      refine wd_lv (lv' := [(0, .ref (ad 0)), (1, .int st.1), (2, .int (0 : Int32))]) [1, 2, 0] rfl ?_
      obtain ⟨u17, hu17, h⟩ := bnd_some h
      refine lw_X4_spreadChances_41 l D cI cD ad N hask nodes links deg nbr chs st.1 C N ((0 : Int32), st.2) u17 hu17 ?_
      refine wd_iinc (j := 103) (lv' := [(1, .int (st.1 + 1)), (0, .ref (ad 0))]) C 1 dX4_spreadChances_100 rfl rfl (by decide) rfl rfl ?_
      refine wd_goto (t := 28) C dX4_spreadChances_103 (by decide) ?_
      obtain rfl := Option.some.inj h
      refine wd_lv (lv' := [(0, .ref (ad 0)), (1, .int (st.1 + 1))]) [1, 0] rfl ?_
      exact ih ((st.1 + 1), u17) E hk kx
set_option maxRecDepth 100000 in
set_option maxHeartbeats 4000000 in
theorem c_X4_spreadChances (l : Launch) (D : va_G) (cI cD : ClassId) (ad : Nat → Nat) (N : Nat) (hask : Int32) (nodes : Int32) (links : Int32) (deg : Nat → Int32) (nbr : Nat → Int32) (chs : Nat → UInt64) (nxt : Nat → UInt64)  (u : (Nat → UInt64) × (Nat → UInt64)) (h : f_X4_spreadChances N nodes deg nbr chs nxt = some u) : MetV l yX4_spreadChances wsX4_spreadChances { frames := 1, cells := 0, slots := 0, locals := 21 } D [(cI, .int), (cD, .double)] [.ref (ad 0)] (w_X4_spreadChances ad cI cD hask nodes links deg nbr chs nxt) (w_X4_spreadChances ad cI cD hask nodes links deg nbr u.1 u.2) := by
  refine MetV.of (own := RX4) (cc := cX4_spreadChances) (nL := 4) (ret := none) (by decide) rfl rfl (Nat.le_of_ble_eq_true rfl) rfl ?_
  intro p e s m args below meth c A hA C hr hlk
  unfold f_X4_spreadChances at h
  refine wd_iconst (j := 1) (v := 0) C dX4_spreadChances_0 (by decide) rfl ?_
  refine wd_istore_n (j := 2) (lv' := [(1, .int (0 : Int32)), (0, .ref (ad 0))]) C dX4_spreadChances_1 rfl (by decide) rfl rfl ?_
  refine wd_lv (lv' := [(0, .ref (ad 0)), (1, .int (0 : Int32))]) [1, 0] rfl ?_
  obtain ⟨u18, hu18, h⟩ := bnd_some h
  refine lw_X4_spreadChances_2 l D cI cD ad N hask links deg nbr chs nodes C N ((0 : Int32), nxt) u18 hu18 ?_
  refine wd_iconst (j := 27) (v := 0) C dX4_spreadChances_26 (by decide) rfl ?_
  refine wd_istore_n (j := 28) (lv' := [(1, .int (0 : Int32)), (0, .ref (ad 0))]) C dX4_spreadChances_27 rfl (by decide) rfl rfl ?_
  refine wd_lv (lv' := [(0, .ref (ad 0)), (1, .int (0 : Int32))]) [1, 0] rfl ?_
  obtain ⟨u19, hu19, h⟩ := bnd_some h
  refine lw_X4_spreadChances_28 l D cI cD ad N hask links nodes deg nbr chs C N ((0 : Int32), u18) u19 hu19 ?_
  refine wd_iconst (j := 107) (v := 0) C dX4_spreadChances_106 (by decide) rfl ?_
  refine wd_istore_n (j := 108) (lv' := [(1, .int (0 : Int32)), (0, .ref (ad 0))]) C dX4_spreadChances_107 rfl (by decide) rfl rfl ?_
  refine wd_lv (lv' := [(0, .ref (ad 0)), (1, .int (0 : Int32))]) [1, 0] rfl ?_
  obtain ⟨u20, hu20, h⟩ := bnd_some h
  refine lw_X4_spreadChances_108 l D cI cD ad N hask links deg nbr nodes u19 C N ((0 : Int32), chs) u20 hu20 ?_
  obtain rfl := Option.some.inj h
  exact wd_vret C hA hr hlk rfl dX4_spreadChances_137
abbrev w_X4_bitsOf (ad : Nat → Nat) (cI cD : ClassId)  : va_W := []
theorem kX4_bitsOf_1 : Cond.constantDouble "RotorRouter" 216 4611686018427387904 ∈ wsX4_bitsOf := List.mem_of_getElem? (i := 1) rfl
theorem kX4_bitsOf_2 : Cond.constantDouble "RotorRouter" 218 4841369599423283200 ∈ wsX4_bitsOf := List.mem_of_getElem? (i := 2) rfl
theorem kX4_bitsOf_3 : Cond.constantLong "RotorRouter" 220 4503599627370496 ∈ wsX4_bitsOf := List.mem_of_getElem? (i := 3) rfl
set_option maxRecDepth 100000 in
set_option maxHeartbeats 4000000 in
theorem lw_X4_bitsOf_13 (l : Launch) (D : va_G) (cI cD : ClassId) (ad : Nat → Nat) (N : Nat)   {p : Program} {e : Env} {s : State} {m : MethodId} {args : Array Value} {below : List Frame} {meth : Method} {c : Code} {A : Nat → Prop} {Q : State → Prop} (C : wd_C p m c cX4_bitsOf 7 s args wsX4_bitsOf RX4 D [(cI, .int), (cD, .double)] A) : ∀ (n : Nat) (st : UInt64 × Int32) (E : UInt64 × Int32), iter (b_X4_bitsOf_13) n st = some E → (Wd p l e { frames := 0, cells := 0, slots := 0, locals := 0 } s m args below meth c 7 D A 0 0 Q 41 [(2, .double E.1), (4, .int E.2)] [] (w_X4_bitsOf ad cI cD)) → Wd p l e { frames := 0, cells := 0, slots := 0, locals := 0 } s m args below meth c 7 D A 0 0 Q 13 [(2, .double st.1), (4, .int st.2)] [] (w_X4_bitsOf ad cI cD) := by
  intro n
  induction n with
  | zero => intro st E h; cases h
  | succ n ih =>
    intro st E h kx
    obtain ⟨b, h, hk⟩ := iter_step h
    unfold b_X4_bitsOf_13 at h
    refine wd_dload_n (j := 14) C 0 dX4_bitsOf_13 rfl rfl rfl ?_
    refine wd_ldc2d (j := 17) C dX4_bitsOf_14 kX4_bitsOf_1 rfl ?_
    refine wd_dcmp (j := 18) C dX4_bitsOf_17 rfl ?_
    refine wd_if_lt (j := 21) (t := 41) C dX4_bitsOf_18 (by decide) rfl (fun c1 => ?_) (fun c1 => ?_)
    · replace h := (if_pos c1).symm.trans h
      obtain rfl := Option.some.inj h
      obtain rfl := hk
      exact kx
    · replace h := (if_neg c1).symm.trans h
      refine wd_iload (j := 23) C 1 dX4_bitsOf_21 rfl rfl ?_
      refine wd_sipush (j := 26) (v := 1023) C dX4_bitsOf_23 (by decide) rfl ?_
      refine wd_icmp_ge (j := 29) (t := 41) C dX4_bitsOf_26 (by decide) rfl (fun c2 => ?_) (fun c2 => ?_)
      · replace h := (if_pos c2).symm.trans h
        obtain rfl := Option.some.inj h
        obtain rfl := hk
        exact kx
      · replace h := (if_neg c2).symm.trans h
        refine wd_dload_n (j := 30) C 0 dX4_bitsOf_29 rfl rfl rfl ?_
        refine wd_ldc2d (j := 33) C dX4_bitsOf_30 kX4_bitsOf_1 rfl ?_
        obtain ⟨g3, h⟩ := grd_some h
        refine wd_ddiv (j := 34) C dX4_bitsOf_33 (nnB_in g3) rfl ?_
        refine wd_dstore_n (j := 35) (lv' := [(2, .double (FP.ddiv st.1 (4611686018427387904 : UInt64))), (4, .int st.2)]) C dX4_bitsOf_34 rfl (by decide) rfl rfl ?_
        refine wd_iinc (j := 38) (lv' := [(4, .int (st.2 + 1)), (2, .double (FP.ddiv st.1 (4611686018427387904 : UInt64)))]) C 1 dX4_bitsOf_35 rfl rfl (by decide) rfl rfl ?_
        refine wd_goto (t := 13) C dX4_bitsOf_38 (by decide) ?_
        obtain rfl := Option.some.inj h
        refine wd_lv (lv' := [(2, .double (FP.ddiv st.1 (4611686018427387904 : UInt64))), (4, .int (st.2 + 1))]) [1, 0] rfl ?_
        exact ih ((FP.ddiv st.1 (4611686018427387904 : UInt64)), (st.2 + 1)) E hk kx
set_option maxRecDepth 100000 in
set_option maxHeartbeats 4000000 in
theorem lw_X4_bitsOf_41 (l : Launch) (D : va_G) (cI cD : ClassId) (ad : Nat → Nat) (N : Nat)   {p : Program} {e : Env} {s : State} {m : MethodId} {args : Array Value} {below : List Frame} {meth : Method} {c : Code} {A : Nat → Prop} {Q : State → Prop} (C : wd_C p m c cX4_bitsOf 7 s args wsX4_bitsOf RX4 D [(cI, .int), (cD, .double)] A) : ∀ (n : Nat) (st : UInt64 × Int32) (E : UInt64 × Int32), iter (b_X4_bitsOf_41) n st = some E → (Wd p l e { frames := 0, cells := 0, slots := 0, locals := 0 } s m args below meth c 7 D A 0 0 Q 67 [(2, .double E.1), (4, .int E.2)] [] (w_X4_bitsOf ad cI cD)) → Wd p l e { frames := 0, cells := 0, slots := 0, locals := 0 } s m args below meth c 7 D A 0 0 Q 41 [(2, .double st.1), (4, .int st.2)] [] (w_X4_bitsOf ad cI cD) := by
  intro n
  induction n with
  | zero => intro st E h; cases h
  | succ n ih =>
    intro st E h kx
    obtain ⟨b, h, hk⟩ := iter_step h
    unfold b_X4_bitsOf_41 at h
    refine wd_dload_n (j := 42) C 0 dX4_bitsOf_41 rfl rfl rfl ?_
    refine wd_dconst1 (j := 43) C dX4_bitsOf_42 rfl ?_
    refine wd_dcmp (j := 44) C dX4_bitsOf_43 rfl ?_
    refine wd_if_ge (j := 47) (t := 67) C dX4_bitsOf_44 (by decide) rfl (fun c4 => ?_) (fun c4 => ?_)
    · replace h := (if_pos c4).symm.trans h
      obtain rfl := Option.some.inj h
      obtain rfl := hk
      exact kx
    · replace h := (if_neg c4).symm.trans h
      refine wd_iload (j := 49) C 1 dX4_bitsOf_47 rfl rfl ?_
      refine wd_sipush (j := 52) (v := -1022) C dX4_bitsOf_49 (by decide) rfl ?_
      refine wd_icmp_le (j := 55) (t := 67) C dX4_bitsOf_52 (by decide) rfl (fun c5 => ?_) (fun c5 => ?_)
      · replace h := (if_pos c5).symm.trans h
        obtain rfl := Option.some.inj h
        obtain rfl := hk
        exact kx
      · replace h := (if_neg c5).symm.trans h
        refine wd_dload_n (j := 56) C 0 dX4_bitsOf_55 rfl rfl rfl ?_
        refine wd_ldc2d (j := 59) C dX4_bitsOf_56 kX4_bitsOf_1 rfl ?_
        obtain ⟨g6, h⟩ := grd_some h
        refine wd_dmul (j := 60) C dX4_bitsOf_59 (nnB_in g6) rfl ?_
        refine wd_dstore_n (j := 61) (lv' := [(2, .double (FP.dmul st.1 (4611686018427387904 : UInt64))), (4, .int st.2)]) C dX4_bitsOf_60 rfl (by decide) rfl rfl ?_
        refine wd_iinc (j := 64) (lv' := [(4, .int (st.2 + (-1))), (2, .double (FP.dmul st.1 (4611686018427387904 : UInt64)))]) C 1 dX4_bitsOf_61 rfl rfl (by decide) rfl rfl ?_
        refine wd_goto (t := 41) C dX4_bitsOf_64 (by decide) ?_
        obtain rfl := Option.some.inj h
        refine wd_lv (lv' := [(2, .double (FP.dmul st.1 (4611686018427387904 : UInt64))), (4, .int (st.2 + (-1)))]) [1, 0] rfl ?_
        exact ih ((FP.dmul st.1 (4611686018427387904 : UInt64)), (st.2 + (-1))) E hk kx
set_option maxRecDepth 100000 in
set_option maxHeartbeats 4000000 in
theorem c_X4_bitsOf (l : Launch) (D : va_G) (cI cD : ClassId) (ad : Nat → Nat) (N : Nat)  (p0 : UInt64) (u : Int64) (h : f_X4_bitsOf N p0 = some u) : MetL l yX4_bitsOf wsX4_bitsOf { frames := 0, cells := 0, slots := 0, locals := 0 } D [(cI, .int), (cD, .double)] [.double p0] (w_X4_bitsOf ad cI cD) u (w_X4_bitsOf ad cI cD) := by
  refine MetL.of (own := RX4) (cc := cX4_bitsOf) (nL := 7) (ret := (some .long)) (by decide) rfl rfl (Nat.le_of_ble_eq_true rfl) rfl ?_
  intro p e s m args below meth c A hA C hr hlk
  unfold f_X4_bitsOf at h
  refine wd_dload_n (j := 1) C 0 dX4_bitsOf_0 rfl rfl rfl ?_
  refine wd_dconst0 (j := 2) C dX4_bitsOf_1 rfl ?_
  refine wd_dcmp (j := 3) C dX4_bitsOf_2 rfl ?_
  refine wd_if_gt (j := 6) (t := 8) C dX4_bitsOf_3 (by decide) rfl (fun c7 => ?_) (fun c7 => ?_)
  · replace h := (if_pos c7).symm.trans h
    refine wd_dload_n (j := 9) C 0 dX4_bitsOf_8 rfl rfl rfl ?_
    refine wd_dstore_n (j := 10) (lv' := [(2, .double p0), (0, .double p0)]) C dX4_bitsOf_9 rfl (by decide) rfl rfl ?_
    refine wd_iconst (j := 11) (v := 0) C dX4_bitsOf_10 (by decide) rfl ?_
    refine wd_istore (j := 13) (lv' := [(4, .int (0 : Int32)), (2, .double p0), (0, .double p0)]) C dX4_bitsOf_11 (by decide) rfl rfl ?_
    refine wd_lv (lv' := [(2, .double p0), (4, .int (0 : Int32))]) [1, 0] rfl ?_
    obtain ⟨u8, hu8, h⟩ := bnd_some h
    refine lw_X4_bitsOf_13 l D cI cD ad N C N (p0, (0 : Int32)) u8 hu8 ?_
    obtain ⟨u9, hu9, h⟩ := bnd_some h
    refine lw_X4_bitsOf_41 l D cI cD ad N C N (u8.1, u8.2) u9 hu9 ?_
    refine wd_dload_n (j := 68) C 0 dX4_bitsOf_67 rfl rfl rfl ?_
    refine wd_dconst1 (j := 69) C dX4_bitsOf_68 rfl ?_
    obtain ⟨g10, h⟩ := grd_some h
    refine wd_dsub (j := 70) C dX4_bitsOf_69 (nnB_in g10) rfl ?_
    refine wd_ldc2d (j := 73) C dX4_bitsOf_70 kX4_bitsOf_2 rfl ?_
    obtain ⟨g11, h⟩ := grd_some h
    refine wd_dmul (j := 74) C dX4_bitsOf_73 (nnB_in g11) rfl ?_
    refine wd_d2l (j := 75) C dX4_bitsOf_74 rfl ?_
    refine wd_lstore (j := 77) (lv' := [(5, .long (FP.d2l (FP.dmul (FP.dsub u9.1 FP.dconst1) (4841369599423283200 : UInt64)))), (2, .double u9.1), (4, .int u9.2)]) C dX4_bitsOf_75 (by decide) rfl rfl ?_
    refine wd_iload (j := 79) C 2 dX4_bitsOf_77 rfl rfl ?_
    refine wd_sipush (j := 82) (v := 1023) C dX4_bitsOf_79 (by decide) rfl ?_
    refine wd_iadd (j := 83) C dX4_bitsOf_82 rfl ?_
    refine wd_i2l (j := 84) C dX4_bitsOf_83 rfl ?_
    refine wd_ldc2 (j := 87) C dX4_bitsOf_84 kX4_bitsOf_3 rfl ?_
    refine wd_lmul (j := 88) C dX4_bitsOf_87 rfl ?_
    refine wd_lload (j := 90) C 0 dX4_bitsOf_88 rfl rfl ?_
    refine wd_ladd (j := 91) C dX4_bitsOf_90 rfl ?_
    obtain rfl := Option.some.inj h
    exact wd_lret C hA hr hlk rfl rfl dX4_bitsOf_91
  · replace h := (if_neg c7).symm.trans h
    refine wd_lconst (j := 7) (v := 0) C dX4_bitsOf_6 (by decide) rfl ?_
    obtain rfl := Option.some.inj h
    exact wd_lret C hA hr hlk rfl rfl dX4_bitsOf_7
abbrev w_X4_expectedArrivals (ad : Nat → Nat) (cI cD : ClassId) (hask : Int32) (nodes : Int32) (links : Int32) (deg : Nat → Int32) (nbr : Nat → Int32) (chs : Nat → UInt64) (nxt : Nat → UInt64) : va_W := [((ad 0), .inr (4, [.ref (ad 1), .ref (ad 3), .ref (ad 6), .ref (ad 11), .int hask, .ref (ad 16), .ref (ad 18), .ref (ad 20), .ref (ad 21), .ref (ad 22), .ref (ad 23)])), ((ad 3), .inr (0, [.ref (ad 4), .ref (ad 5), .int nodes, .int links])), ((ad 4), .inl (cI, 8, .inl deg)), ((ad 5), .inl (cI, 56, .inl nbr)), ((ad 22), .inl (cD, 8, .inr (.inr (.inr (.inl chs))))), ((ad 23), .inl (cD, 8, .inr (.inr (.inr (.inl nxt)))))]
theorem kX4_expectedArrivals_1 : Cond.fieldLink "RotorRouter" 19 "RotorRouter" "graph" "LRotorRouter$Graph;" ∈ wsX4_expectedArrivals := List.mem_of_getElem? (i := 1) rfl
theorem kX4_expectedArrivals_2 : Cond.constantLong "RotorRouter" 160 (-4) ∈ wsX4_expectedArrivals := List.mem_of_getElem? (i := 2) rfl
theorem kX4_expectedArrivals_3 : Cond.constantLong "RotorRouter" 162 (-6) ∈ wsX4_expectedArrivals := List.mem_of_getElem? (i := 3) rfl
theorem kX4_expectedArrivals_4 : Cond.fieldLink "RotorRouter" 86 "RotorRouter$Graph" "nodes" "I" ∈ wsX4_expectedArrivals := List.mem_of_getElem? (i := 4) rfl
theorem kX4_expectedArrivals_5 : Cond.fieldLink "RotorRouter" 54 "RotorRouter" "chances" "[D" ∈ wsX4_expectedArrivals := List.mem_of_getElem? (i := 5) rfl
theorem inX4_expectedArrivals_X4 : ∀ w ∈ wsX40, w ∈ wsX4_expectedArrivals := fun _ h => List.mem_cons_of_mem _ (List.mem_append_left _ (List.mem_append_right _ h))
theorem inX4_expectedArrivals_X0 : ∀ w ∈ wsX00, w ∈ wsX4_expectedArrivals := fun _ h => List.mem_cons_of_mem _ (List.mem_append_right _ h)
set_option maxRecDepth 100000 in
set_option maxHeartbeats 4000000 in
theorem lw_X4_expectedArrivals_85 (l : Launch) (D : va_G) (cI cD : ClassId) (ad : Nat → Nat) (N : Nat) (hask : Int32) (links : Int32) (nodes : Int32) (deg : Nat → Int32) (nbr : Nat → Int32) (p2 : Int32) (p3 : Int32) {p : Program} {e : Env} {s : State} {m : MethodId} {args : Array Value} {below : List Frame} {meth : Method} {c : Code} {A : Nat → Prop} {Q : State → Prop} (C : wd_C p m c cX4_expectedArrivals 7 s args wsX4_expectedArrivals RX4 D [(cI, .int), (cD, .double)] A) : ∀ (n : Nat) (st : UInt64 × Int32 × (Nat → UInt64) × (Nat → UInt64)) (E : UInt64 × (Nat → UInt64) × (Nat → UInt64)), iter (b_X4_expectedArrivals_85 N nodes deg nbr p2 p3) n st = some E → (Wd p l e { frames := 2, cells := 0, slots := 0, locals := 44 } s m args below meth c 7 D A 0 0 Q 112 [(4, .double E.1)] [] (w_X4_expectedArrivals ad cI cD hask nodes links deg nbr E.2.1 E.2.2)) → Wd p l e { frames := 2, cells := 0, slots := 0, locals := 44 } s m args below meth c 7 D A 0 0 Q 85 [(0, .ref (ad 0)), (2, .int p2), (3, .int p3), (4, .double st.1), (6, .int st.2.1)] [] (w_X4_expectedArrivals ad cI cD hask nodes links deg nbr st.2.2.1 st.2.2.2) := by
  intro n
  induction n with
  | zero => intro st E h; cases h
  | succ n ih =>
    intro st E h kx
    obtain ⟨b, h, hk⟩ := iter_step h
    unfold b_X4_expectedArrivals_85 at h
    refine wd_iload (j := 87) C 4 dX4_expectedArrivals_85 rfl rfl ?_
    refine wd_iload_n (j := 88) C 1 dX4_expectedArrivals_87 rfl rfl rfl ?_
    refine wd_icmp_ge (j := 91) (t := 112) C dX4_expectedArrivals_88 (by decide) rfl (fun c1 => ?_) (fun c1 => ?_)
    · replace h := (if_pos c1).symm.trans h
      obtain rfl := Option.some.inj h
      obtain rfl := hk
      refine wd_lv (lv' := [(4, .double st.1)]) [3] rfl ?_
      exact kx
    · replace h := (if_neg c1).symm.trans h
      refine wd_aload_n (j := 92) C 0 dX4_expectedArrivals_91 rfl rfl rfl ?_
      obtain ⟨u2, hu2, h⟩ := bnd_some h
      refine wd_callVv (j := 95) (q0 := 0) (ci := 4) (As := []) (rest := []) (ws' := (w_X4_expectedArrivals ad cI cD hask nodes links deg nbr u2.1 u2.2)) C (c_X4_spreadChances l D cI cD ad N hask nodes links deg nbr st.2.2.1 st.2.2.2 u2 hu2) (cwV 0 C.1.2.2.2.2 gX4_expectedArrivals_X4_spreadChances rfl rfl rfl (by decide +kernel) ⟨Nat.le_of_ble_eq_true rfl, Nat.le_of_ble_eq_true rfl⟩) rfl rfl [0, 1, 2, 3, 4, 5] [] rfl rfl rfl rfl (by decide) [0, 1, 2, 3, 4, 5] rfl rfl rfl (Nat.le_of_ble_eq_true rfl) (Nat.le_of_ble_eq_true rfl) (Nat.le_of_ble_eq_true rfl) dX4_expectedArrivals_92 rfl ?_
      refine wd_dload (j := 97) C 3 dX4_expectedArrivals_95 rfl rfl ?_
      refine wd_aload_n (j := 98) C 0 dX4_expectedArrivals_97 rfl rfl rfl ?_
      refine wd_get (j := 101) (q0 := 0) (f := 9) (ci := 4) (v := .ref (ad 22)) C inX4_expectedArrivals_X4 kX4_expectedArrivals_5 rfl (by decide) rfl rfl dX4_expectedArrivals_98 rfl ?_
      refine wd_iload_n (j := 102) C 2 dX4_expectedArrivals_101 rfl rfl rfl ?_
      obtain ⟨g3, h⟩ := grd_some h
      refine wd_dald (j := 103) (q0 := 4) (t0 := 1) C rfl rfl (inB_in g3) dX4_expectedArrivals_102 rfl ?_
      obtain ⟨g4, h⟩ := grd_some h
      refine wd_dadd (j := 104) C dX4_expectedArrivals_103 (nnB_in g4) rfl ?_
      refine wd_dstore (j := 106) (lv' := [(4, .double (FP.dadd st.1 (u2.1 p3.toNatClampNeg))), (0, .ref (ad 0)), (2, .int p2), (3, .int p3), (6, .int st.2.1)]) C dX4_expectedArrivals_104 (by decide) rfl rfl ?_
      refine wd_iinc (j := 109) (lv' := [(6, .int (st.2.1 + 1)), (4, .double (FP.dadd st.1 (u2.1 p3.toNatClampNeg))), (0, .ref (ad 0)), (2, .int p2), (3, .int p3)]) C 4 dX4_expectedArrivals_106 rfl rfl (by decide) rfl rfl ?_
      refine wd_goto (t := 85) C dX4_expectedArrivals_109 (by decide) ?_
      obtain rfl := Option.some.inj h
      refine wd_lv (lv' := [(0, .ref (ad 0)), (2, .int p2), (3, .int p3), (4, .double (FP.dadd st.1 (u2.1 p3.toNatClampNeg))), (6, .int (st.2.1 + 1))]) [2, 3, 4, 1, 0] rfl ?_
      exact ih ((FP.dadd st.1 (u2.1 p3.toNatClampNeg)), (st.2.1 + 1), u2.1, u2.2) E hk kx
set_option maxRecDepth 100000 in
set_option maxHeartbeats 4000000 in
theorem lw_X4_expectedArrivals_43 (l : Launch) (D : va_G) (cI cD : ClassId) (ad : Nat → Nat) (N : Nat) (hask : Int32) (links : Int32) (deg : Nat → Int32) (nbr : Nat → Int32) (nxt : Nat → UInt64) (nodes : Int32) (p1 : Int32) (p2 : Int32) (p3 : Int32) {p : Program} {e : Env} {s : State} {m : MethodId} {args : Array Value} {below : List Frame} {meth : Method} {c : Code} {A : Nat → Prop} {Q : State → Prop} (C : wd_C p m c cX4_expectedArrivals 7 s args wsX4_expectedArrivals RX4 D [(cI, .int), (cD, .double)] A) : ∀ (n : Nat) (st : Int32 × (Nat → UInt64)) (E : (Nat → UInt64)), iter (b_X4_expectedArrivals_43 nodes p1) n st = some E → (Wd p l e { frames := 2, cells := 0, slots := 0, locals := 44 } s m args below meth c 7 D A 0 0 Q 79 [(0, .ref (ad 0)), (2, .int p2), (3, .int p3)] [] (w_X4_expectedArrivals ad cI cD hask nodes links deg nbr E nxt)) → Wd p l e { frames := 2, cells := 0, slots := 0, locals := 44 } s m args below meth c 7 D A 0 0 Q 43 [(0, .ref (ad 0)), (1, .int p1), (2, .int p2), (3, .int p3), (4, .int st.1)] [] (w_X4_expectedArrivals ad cI cD hask nodes links deg nbr st.2 nxt) := by
  intro n
  induction n with
  | zero => intro st E h; cases h
  | succ n ih =>
    intro st E h kx
    obtain ⟨b, h, hk⟩ := iter_step h
    unfold b_X4_expectedArrivals_43 at h
    refine wd_iload (j := 45) C 4 dX4_expectedArrivals_43 rfl rfl ?_
    refine wd_aload_n (j := 46) C 0 dX4_expectedArrivals_45 rfl rfl rfl ?_
    refine wd_get (j := 49) (q0 := 0) (f := 1) (ci := 4) (v := .ref (ad 3)) C inX4_expectedArrivals_X4 kX4_expectedArrivals_1 rfl (by decide) rfl rfl dX4_expectedArrivals_46 rfl ?_
    refine wd_get (j := 52) (q0 := 1) (f := 2) (ci := 0) (v := .int nodes) C inX4_expectedArrivals_X0 kX4_expectedArrivals_4 rfl (by decide) rfl rfl dX4_expectedArrivals_49 rfl ?_
    refine wd_icmp_ge (j := 55) (t := 79) C dX4_expectedArrivals_52 (by decide) rfl (fun c5 => ?_) (fun c5 => ?_)
    · replace h := (if_pos c5).symm.trans h
      obtain rfl := Option.some.inj h
      obtain rfl := hk
      refine wd_lv (lv' := [(0, .ref (ad 0)), (2, .int p2), (3, .int p3)]) [0, 2, 3] rfl ?_
      exact kx
    · replace h := (if_neg c5).symm.trans h
      refine wd_aload_n (j := 56) C 0 dX4_expectedArrivals_55 rfl rfl rfl ?_
      refine wd_get (j := 59) (q0 := 0) (f := 9) (ci := 4) (v := .ref (ad 22)) C inX4_expectedArrivals_X4 kX4_expectedArrivals_5 rfl (by decide) rfl rfl dX4_expectedArrivals_56 rfl ?_
      refine wd_iload (j := 61) C 4 dX4_expectedArrivals_59 rfl rfl ?_
      refine wd_iload (j := 63) C 4 dX4_expectedArrivals_61 rfl rfl ?_
      refine wd_iload_n (j := 64) C 1 dX4_expectedArrivals_63 rfl rfl rfl ?_
      refine wd_icmp_ne (j := 67) (t := 71) C dX4_expectedArrivals_64 (by decide) rfl (fun c6 => ?_) (fun c6 => ?_)
      · replace h := (if_neg c6).symm.trans h
        refine wd_dconst0 (j := 72) C dX4_expectedArrivals_71 rfl ?_
        obtain ⟨g7, h⟩ := grd_some h
        refine wd_dast (j := 73) (q0 := 4) (t0 := 1) (ws' := (w_X4_expectedArrivals ad cI cD hask nodes links deg nbr (vf_upd st.2 st.1.toNatClampNeg FP.dconst0) nxt)) C rfl rfl (inB_in g7) rfl dX4_expectedArrivals_72 rfl ?_
        refine wd_iinc (j := 76) (lv' := [(4, .int (st.1 + 1)), (0, .ref (ad 0)), (1, .int p1), (2, .int p2), (3, .int p3)]) C 4 dX4_expectedArrivals_73 rfl rfl (by decide) rfl rfl ?_
        refine wd_goto (t := 43) C dX4_expectedArrivals_76 (by decide) ?_
        obtain rfl := Option.some.inj h
        refine wd_lv (lv' := [(0, .ref (ad 0)), (1, .int p1), (2, .int p2), (3, .int p3), (4, .int (st.1 + 1))]) [1, 2, 3, 4, 0] rfl ?_
        exact ih ((st.1 + 1), (vf_upd st.2 st.1.toNatClampNeg FP.dconst0)) E hk kx
      · replace h := (if_pos c6).symm.trans h
        refine wd_dconst1 (j := 68) C dX4_expectedArrivals_67 rfl ?_
        refine wd_goto (t := 72) C dX4_expectedArrivals_68 (by decide) ?_
        obtain ⟨g8, h⟩ := grd_some h
        refine wd_dast (j := 73) (q0 := 4) (t0 := 1) (ws' := (w_X4_expectedArrivals ad cI cD hask nodes links deg nbr (vf_upd st.2 st.1.toNatClampNeg FP.dconst1) nxt)) C rfl rfl (inB_in g8) rfl dX4_expectedArrivals_72 rfl ?_
        refine wd_iinc (j := 76) (lv' := [(4, .int (st.1 + 1)), (0, .ref (ad 0)), (1, .int p1), (2, .int p2), (3, .int p3)]) C 4 dX4_expectedArrivals_73 rfl rfl (by decide) rfl rfl ?_
        refine wd_goto (t := 43) C dX4_expectedArrivals_76 (by decide) ?_
        obtain rfl := Option.some.inj h
        refine wd_lv (lv' := [(0, .ref (ad 0)), (1, .int p1), (2, .int p2), (3, .int p3), (4, .int (st.1 + 1))]) [1, 2, 3, 4, 0] rfl ?_
        exact ih ((st.1 + 1), (vf_upd st.2 st.1.toNatClampNeg FP.dconst1)) E hk kx
set_option maxRecDepth 100000 in
set_option maxHeartbeats 4000000 in
theorem c_X4_expectedArrivals (l : Launch) (D : va_G) (cI cD : ClassId) (ad : Nat → Nat) (N : Nat) (hask : Int32) (nodes : Int32) (links : Int32) (deg : Nat → Int32) (nbr : Nat → Int32) (chs : Nat → UInt64) (nxt : Nat → UInt64) (p1 : Int32) (p2 : Int32) (p3 : Int32) (u : Int64 × (Nat → UInt64) × (Nat → UInt64)) (h : f_X4_expectedArrivals N nodes deg nbr chs nxt p1 p2 p3 = some u) : MetL l yX4_expectedArrivals wsX4_expectedArrivals { frames := 2, cells := 0, slots := 0, locals := 44 } D [(cI, .int), (cD, .double)] [.ref (ad 0), .int p1, .int p2, .int p3] (w_X4_expectedArrivals ad cI cD hask nodes links deg nbr chs nxt) u.1 (w_X4_expectedArrivals ad cI cD hask nodes links deg nbr u.2.1 u.2.2) := by
  refine MetL.of (own := RX4) (cc := cX4_expectedArrivals) (nL := 7) (ret := (some .long)) (by decide) rfl rfl (Nat.le_of_ble_eq_true rfl) rfl ?_
  intro p e s m args below meth c A hA C hr hlk
  unfold f_X4_expectedArrivals at h
  refine wd_aload_n (j := 1) C 0 dX4_expectedArrivals_0 rfl rfl rfl ?_
  refine wd_get (j := 4) (q0 := 0) (f := 1) (ci := 4) (v := .ref (ad 3)) C inX4_expectedArrivals_X4 kX4_expectedArrivals_1 rfl (by decide) rfl rfl dX4_expectedArrivals_1 rfl ?_
  refine wd_iload_n (j := 5) C 1 dX4_expectedArrivals_4 rfl rfl rfl ?_
  obtain ⟨u9, hu9, h⟩ := bnd_some h
  refine wd_callVi (j := 8) (q0 := 0) (ci := 0) (As := [.int p1]) (rest := []) (ws' := (w_X4_expectedArrivals ad cI cD hask nodes links deg nbr chs nxt)) C (c_X0_hasNode l D cI cD (ad 3) (ad 4) (ad 5) nodes links p1 u9 hu9) (cwV 1 C.1.2.2.2.2 gX4_expectedArrivals_X0_hasNode rfl rfl rfl (by decide +kernel) ⟨Nat.le_of_ble_eq_true rfl, Nat.le_of_ble_eq_true rfl⟩) rfl rfl [1] [0, 2, 3, 4, 5] rfl rfl rfl rfl (by decide) [0, 5, 1, 2, 3, 4] rfl rfl rfl (Nat.le_of_ble_eq_true rfl) (Nat.le_of_ble_eq_true rfl) (Nat.le_of_ble_eq_true rfl) dX4_expectedArrivals_5 rfl ?_
  refine wd_if_eq (j := 11) (t := 22) C dX4_expectedArrivals_8 (by decide) rfl (fun c10 => ?_) (fun c10 => ?_)
  · replace h := (if_pos c10).symm.trans h
    refine wd_ldc2 (j := 25) C dX4_expectedArrivals_22 kX4_expectedArrivals_2 rfl ?_
    obtain rfl := Option.some.inj h
    exact wd_lret C hA hr hlk rfl rfl dX4_expectedArrivals_25
  · replace h := (if_neg c10).symm.trans h
    refine wd_aload_n (j := 12) C 0 dX4_expectedArrivals_11 rfl rfl rfl ?_
    refine wd_get (j := 15) (q0 := 0) (f := 1) (ci := 4) (v := .ref (ad 3)) C inX4_expectedArrivals_X4 kX4_expectedArrivals_1 rfl (by decide) rfl rfl dX4_expectedArrivals_12 rfl ?_
    refine wd_iload_n (j := 16) C 3 dX4_expectedArrivals_15 rfl rfl rfl ?_
    obtain ⟨u11, hu11, h⟩ := bnd_some h
    refine wd_callVi (j := 19) (q0 := 0) (ci := 0) (As := [.int p3]) (rest := []) (ws' := (w_X4_expectedArrivals ad cI cD hask nodes links deg nbr chs nxt)) C (c_X0_hasNode l D cI cD (ad 3) (ad 4) (ad 5) nodes links p3 u11 hu11) (cwV 1 C.1.2.2.2.2 gX4_expectedArrivals_X0_hasNode rfl rfl rfl (by decide +kernel) ⟨Nat.le_of_ble_eq_true rfl, Nat.le_of_ble_eq_true rfl⟩) rfl rfl [1] [0, 2, 3, 4, 5] rfl rfl rfl rfl (by decide) [0, 5, 1, 2, 3, 4] rfl rfl rfl (Nat.le_of_ble_eq_true rfl) (Nat.le_of_ble_eq_true rfl) (Nat.le_of_ble_eq_true rfl) dX4_expectedArrivals_16 rfl ?_
    refine wd_if_ne (j := 22) (t := 26) C dX4_expectedArrivals_19 (by decide) rfl (fun c12 => ?_) (fun c12 => ?_)
    · replace h := (if_neg c12).symm.trans h
      refine wd_iload_n (j := 27) C 2 dX4_expectedArrivals_26 rfl rfl rfl ?_
      refine wd_if_lt (j := 30) (t := 36) C dX4_expectedArrivals_27 (by decide) rfl (fun c13 => ?_) (fun c13 => ?_)
      · replace h := (if_pos c13).symm.trans h
        refine wd_ldc2 (j := 39) C dX4_expectedArrivals_36 kX4_expectedArrivals_3 rfl ?_
        obtain rfl := Option.some.inj h
        exact wd_lret C hA hr hlk rfl rfl dX4_expectedArrivals_39
      · replace h := (if_neg c13).symm.trans h
        refine wd_iload_n (j := 31) C 2 dX4_expectedArrivals_30 rfl rfl rfl ?_
        refine wd_bipush (j := 33) (v := 50) C dX4_expectedArrivals_31 (by decide) rfl ?_
        refine wd_icmp_le (j := 36) (t := 40) C dX4_expectedArrivals_33 (by decide) rfl (fun c14 => ?_) (fun c14 => ?_)
        · replace h := (if_pos c14).symm.trans h
          refine wd_iconst (j := 41) (v := 0) C dX4_expectedArrivals_40 (by decide) rfl ?_
          refine wd_istore (j := 43) (lv' := [(4, .int (0 : Int32)), (0, .ref (ad 0)), (1, .int p1), (2, .int p2), (3, .int p3)]) C dX4_expectedArrivals_41 (by decide) rfl rfl ?_
          refine wd_lv (lv' := [(0, .ref (ad 0)), (1, .int p1), (2, .int p2), (3, .int p3), (4, .int (0 : Int32))]) [1, 2, 3, 4, 0] rfl ?_
          obtain ⟨u15, hu15, h⟩ := bnd_some h
          refine lw_X4_expectedArrivals_43 l D cI cD ad N hask links deg nbr nxt nodes p1 p2 p3 C N ((0 : Int32), chs) u15 hu15 ?_
          refine wd_dconst0 (j := 80) C dX4_expectedArrivals_79 rfl ?_
          refine wd_dstore (j := 82) (lv' := [(4, .double FP.dconst0), (0, .ref (ad 0)), (2, .int p2), (3, .int p3)]) C dX4_expectedArrivals_80 (by decide) rfl rfl ?_
          refine wd_iconst (j := 83) (v := 0) C dX4_expectedArrivals_82 (by decide) rfl ?_
          refine wd_istore (j := 85) (lv' := [(6, .int (0 : Int32)), (4, .double FP.dconst0), (0, .ref (ad 0)), (2, .int p2), (3, .int p3)]) C dX4_expectedArrivals_83 (by decide) rfl rfl ?_
          refine wd_lv (lv' := [(0, .ref (ad 0)), (2, .int p2), (3, .int p3), (4, .double FP.dconst0), (6, .int (0 : Int32))]) [2, 3, 4, 1, 0] rfl ?_
          obtain ⟨u16, hu16, h⟩ := bnd_some h
          refine lw_X4_expectedArrivals_85 l D cI cD ad N hask links nodes deg nbr p2 p3 C N (FP.dconst0, (0 : Int32), u15, nxt) u16 hu16 ?_
          refine wd_dload (j := 114) C 0 dX4_expectedArrivals_112 rfl rfl ?_
          obtain ⟨u17, hu17, h⟩ := bnd_some h
          refine wd_callSl (j := 117) (As := [.double u16.1]) (rest := []) (ws' := (w_X4_expectedArrivals ad cI cD hask nodes links deg nbr u16.2.1 u16.2.2)) C (c_X4_bitsOf l D cI cD ad N u16.1 u17 hu17) (va_cwS 1 C.1.2.2.2.2 gX4_expectedArrivals_X4_bitsOf rfl rfl rfl (by decide +kernel) ⟨Nat.le_of_ble_eq_true rfl, Nat.le_of_ble_eq_true rfl⟩) [] [0, 1, 2, 3, 4, 5] rfl rfl rfl rfl (by decide) [0, 1, 2, 3, 4, 5] rfl rfl rfl (Nat.le_of_ble_eq_true rfl) (Nat.le_of_ble_eq_true rfl) (Nat.le_of_ble_eq_true rfl) dX4_expectedArrivals_114 rfl ?_
          obtain rfl := Option.some.inj h
          exact wd_lret C hA hr hlk rfl rfl dX4_expectedArrivals_117
        · replace h := (if_neg c14).symm.trans h
          refine wd_ldc2 (j := 39) C dX4_expectedArrivals_36 kX4_expectedArrivals_3 rfl ?_
          obtain rfl := Option.some.inj h
          exact wd_lret C hA hr hlk rfl rfl dX4_expectedArrivals_39
    · replace h := (if_pos c12).symm.trans h
      refine wd_ldc2 (j := 25) C dX4_expectedArrivals_22 kX4_expectedArrivals_2 rfl ?_
      obtain rfl := Option.some.inj h
      exact wd_lret C hA hr hlk rfl rfl dX4_expectedArrivals_25
abbrev w_X4_snapshot (ad : Nat → Nat) (cI cD : ClassId) (hask : Int32) (nodes : Int32) (links : Int32) (wk : Int32) (rot : Nat → Int32) (arv : Nat → Int32) (dep : Nat → Int32) (pos : Nat → Int32) (wkK : Int32) (rotK : Nat → Int32) (arvK : Nat → Int32) (depK : Nat → Int32) (posK : Nat → Int32) : va_W := [((ad 0), .inr (4, [.ref (ad 1), .ref (ad 3), .ref (ad 6), .ref (ad 11), .int hask, .ref (ad 16), .ref (ad 18), .ref (ad 20), .ref (ad 21), .ref (ad 22), .ref (ad 23)])), ((ad 3), .inr (0, [.ref (ad 4), .ref (ad 5), .int nodes, .int links])), ((ad 6), .inr (3, [.ref (ad 7), .ref (ad 8), .ref (ad 9), .ref (ad 10), .int wk])), ((ad 7), .inl (cI, 8, .inl rot)), ((ad 8), .inl (cI, 8, .inl arv)), ((ad 9), .inl (cI, 56, .inl dep)), ((ad 10), .inl (cI, 4, .inl pos)), ((ad 11), .inr (3, [.ref (ad 12), .ref (ad 13), .ref (ad 14), .ref (ad 15), .int wkK])), ((ad 12), .inl (cI, 8, .inl rotK)), ((ad 13), .inl (cI, 8, .inl arvK)), ((ad 14), .inl (cI, 56, .inl depK)), ((ad 15), .inl (cI, 4, .inl posK))]
theorem kX4_snapshot_1 : Cond.fieldLink "RotorRouter" 19 "RotorRouter" "graph" "LRotorRouter$Graph;" ∈ wsX4_snapshot := List.mem_of_getElem? (i := 1) rfl
theorem kX4_snapshot_2 : Cond.fieldLink "RotorRouter" 86 "RotorRouter$Graph" "nodes" "I" ∈ wsX4_snapshot := List.mem_of_getElem? (i := 2) rfl
theorem kX4_snapshot_3 : Cond.fieldLink "RotorRouter" 30 "RotorRouter" "kept" "LRotorRouter$State;" ∈ wsX4_snapshot := List.mem_of_getElem? (i := 3) rfl
theorem kX4_snapshot_4 : Cond.fieldLink "RotorRouter" 26 "RotorRouter" "current" "LRotorRouter$State;" ∈ wsX4_snapshot := List.mem_of_getElem? (i := 4) rfl
theorem kX4_snapshot_5 : Cond.fieldLink "RotorRouter" 33 "RotorRouter" "hasKept" "Z" ∈ wsX4_snapshot := List.mem_of_getElem? (i := 5) rfl
theorem kX4_snapshot_6 : Cond.fieldLink "RotorRouter" 109 "RotorRouter$State" "walkers" "I" ∈ wsX4_snapshot := List.mem_of_getElem? (i := 6) rfl
theorem inX4_snapshot_X4 : ∀ w ∈ wsX40, w ∈ wsX4_snapshot := fun _ h => List.mem_cons_of_mem _ (List.mem_append_left _ (List.mem_append_left _ (List.mem_append_right _ h)))
theorem inX4_snapshot_X0 : ∀ w ∈ wsX00, w ∈ wsX4_snapshot := fun _ h => List.mem_cons_of_mem _ (List.mem_append_left _ (List.mem_append_right _ h))
theorem inX4_snapshot_X3 : ∀ w ∈ wsX30, w ∈ wsX4_snapshot := fun _ h => List.mem_cons_of_mem _ (List.mem_append_right _ h)
set_option maxRecDepth 100000 in
set_option maxHeartbeats 4000000 in
theorem c_X4_snapshot (l : Launch) (D : va_G) (cI cD : ClassId) (ad : Nat → Nat) (hask : Int32) (nodes : Int32) (links : Int32) (wk : Int32) (rot : Nat → Int32) (arv : Nat → Int32) (dep : Nat → Int32) (pos : Nat → Int32) (wkK : Int32) (rotK : Nat → Int32) (arvK : Nat → Int32) (depK : Nat → Int32) (posK : Nat → Int32)  (u : Int32 × Int32 × Int32 × (Nat → Int32) × (Nat → Int32) × (Nat → Int32) × (Nat → Int32)) (h : f_X4_snapshot hask nodes wk rot arv dep pos wkK rotK arvK depK posK = some u) : MetI l yX4_snapshot wsX4_snapshot { frames := 2, cells := 0, slots := 0, locals := 61 } D [(cI, .int), (cD, .double)] [.ref (ad 0)] (w_X4_snapshot ad cI cD hask nodes links wk rot arv dep pos wkK rotK arvK depK posK) u.1 (w_X4_snapshot ad cI cD u.2.1 nodes links wk rot arv dep pos u.2.2.1 u.2.2.2.1 u.2.2.2.2.1 u.2.2.2.2.2.1 u.2.2.2.2.2.2) := by
  refine MetI.of (own := RX4) (cc := cX4_snapshot) (nL := 1) (ret := (some .int)) (by decide) rfl rfl (Nat.le_of_ble_eq_true rfl) rfl ?_
  intro p e s m args below meth c A hA C hr hlk
  unfold f_X4_snapshot at h
  refine wd_aload_n (j := 1) C 0 dX4_snapshot_0 rfl rfl rfl ?_
  refine wd_get (j := 4) (q0 := 0) (f := 1) (ci := 4) (v := .ref (ad 3)) C inX4_snapshot_X4 kX4_snapshot_1 rfl (by decide) rfl rfl dX4_snapshot_1 rfl ?_
  refine wd_get (j := 7) (q0 := 1) (f := 2) (ci := 0) (v := .int nodes) C inX4_snapshot_X0 kX4_snapshot_2 rfl (by decide) rfl rfl dX4_snapshot_4 rfl ?_
  refine wd_if_ne (j := 10) (t := 13) C dX4_snapshot_7 (by decide) rfl (fun c1 => ?_) (fun c1 => ?_)
  · replace h := (if_neg c1).symm.trans h
    refine wd_aload_n (j := 14) C 0 dX4_snapshot_13 rfl rfl rfl ?_
    refine wd_get (j := 17) (q0 := 0) (f := 3) (ci := 4) (v := .ref (ad 11)) C inX4_snapshot_X4 kX4_snapshot_3 rfl (by decide) rfl rfl dX4_snapshot_14 rfl ?_
    refine wd_aload_n (j := 18) C 0 dX4_snapshot_17 rfl rfl rfl ?_
    refine wd_get (j := 21) (q0 := 0) (f := 2) (ci := 4) (v := .ref (ad 6)) C inX4_snapshot_X4 kX4_snapshot_4 rfl (by decide) rfl rfl dX4_snapshot_18 rfl ?_
    obtain ⟨u2, hu2, h⟩ := bnd_some h
    refine wd_callVv (j := 24) (q0 := 0) (ci := 3) (As := [.ref (ad 6)]) (rest := []) (ws' := (w_X4_snapshot ad cI cD hask nodes links wk rot arv dep pos u2.1 u2.2.1 u2.2.2.1 u2.2.2.2.1 u2.2.2.2.2)) C (c_X3_copyFrom l D cI cD (ad 11) (ad 12) (ad 13) (ad 14) (ad 15) (ad 6) (ad 7) (ad 8) (ad 9) (ad 10) wkK rotK arvK depK posK wk rot arv dep pos u2 hu2) (cwV 1 C.1.2.2.2.2 gX4_snapshot_X3_copyFrom rfl rfl rfl (by decide +kernel) ⟨Nat.le_of_ble_eq_true rfl, Nat.le_of_ble_eq_true rfl⟩) rfl rfl [7, 8, 9, 10, 11, 2, 3, 4, 5, 6] [0, 1] rfl rfl rfl rfl (by decide) [0, 1, 7, 8, 9, 10, 11, 2, 3, 4, 5, 6] rfl rfl rfl (Nat.le_of_ble_eq_true rfl) (Nat.le_of_ble_eq_true rfl) (Nat.le_of_ble_eq_true rfl) dX4_snapshot_21 rfl ?_
    refine wd_aload_n (j := 25) C 0 dX4_snapshot_24 rfl rfl rfl ?_
    refine wd_iconst (j := 26) (v := 1) C dX4_snapshot_25 (by decide) rfl ?_
    refine wd_put (j := 29) (q0 := 0) (f := 4) (ci := 4) (ws' := (w_X4_snapshot ad cI cD (1 : Int32) nodes links wk rot arv dep pos u2.1 u2.2.1 u2.2.2.1 u2.2.2.2.1 u2.2.2.2.2)) C inX4_snapshot_X4 tyX4 tyX4_ok nmX4 kX4_snapshot_5 rfl (by decide) rfl rfl rfl rfl (Nat.le_of_ble_eq_true rfl) rfl dX4_snapshot_26 rfl ?_
    refine wd_aload_n (j := 30) C 0 dX4_snapshot_29 rfl rfl rfl ?_
    refine wd_get (j := 33) (q0 := 0) (f := 2) (ci := 4) (v := .ref (ad 6)) C inX4_snapshot_X4 kX4_snapshot_4 rfl (by decide) rfl rfl dX4_snapshot_30 rfl ?_
    refine wd_get (j := 36) (q0 := 2) (f := 4) (ci := 3) (v := .int wk) C inX4_snapshot_X3 kX4_snapshot_6 rfl (by decide) rfl rfl dX4_snapshot_33 rfl ?_
    obtain rfl := Option.some.inj h
    exact wd_iret C hA hr hlk rfl rfl rfl dX4_snapshot_36
  · replace h := (if_pos c1).symm.trans h
    refine wd_bipush (j := 12) (v := -9) C dX4_snapshot_10 (by decide) rfl ?_
    obtain rfl := Option.some.inj h
    exact wd_iret C hA hr hlk rfl rfl rfl dX4_snapshot_12
abbrev w_X4_restore (ad : Nat → Nat) (cI cD : ClassId) (hask : Int32) (wk : Int32) (rot : Nat → Int32) (arv : Nat → Int32) (dep : Nat → Int32) (pos : Nat → Int32) (wkK : Int32) (rotK : Nat → Int32) (arvK : Nat → Int32) (depK : Nat → Int32) (posK : Nat → Int32) : va_W := [((ad 0), .inr (4, [.ref (ad 1), .ref (ad 3), .ref (ad 6), .ref (ad 11), .int hask, .ref (ad 16), .ref (ad 18), .ref (ad 20), .ref (ad 21), .ref (ad 22), .ref (ad 23)])), ((ad 6), .inr (3, [.ref (ad 7), .ref (ad 8), .ref (ad 9), .ref (ad 10), .int wk])), ((ad 7), .inl (cI, 8, .inl rot)), ((ad 8), .inl (cI, 8, .inl arv)), ((ad 9), .inl (cI, 56, .inl dep)), ((ad 10), .inl (cI, 4, .inl pos)), ((ad 11), .inr (3, [.ref (ad 12), .ref (ad 13), .ref (ad 14), .ref (ad 15), .int wkK])), ((ad 12), .inl (cI, 8, .inl rotK)), ((ad 13), .inl (cI, 8, .inl arvK)), ((ad 14), .inl (cI, 56, .inl depK)), ((ad 15), .inl (cI, 4, .inl posK))]
theorem kX4_restore_1 : Cond.fieldLink "RotorRouter" 33 "RotorRouter" "hasKept" "Z" ∈ wsX4_restore := List.mem_of_getElem? (i := 1) rfl
theorem kX4_restore_2 : Cond.fieldLink "RotorRouter" 26 "RotorRouter" "current" "LRotorRouter$State;" ∈ wsX4_restore := List.mem_of_getElem? (i := 2) rfl
theorem kX4_restore_3 : Cond.fieldLink "RotorRouter" 30 "RotorRouter" "kept" "LRotorRouter$State;" ∈ wsX4_restore := List.mem_of_getElem? (i := 3) rfl
theorem kX4_restore_4 : Cond.fieldLink "RotorRouter" 109 "RotorRouter$State" "walkers" "I" ∈ wsX4_restore := List.mem_of_getElem? (i := 4) rfl
theorem inX4_restore_X4 : ∀ w ∈ wsX40, w ∈ wsX4_restore := fun _ h => List.mem_cons_of_mem _ (List.mem_append_left _ (List.mem_append_right _ h))
theorem inX4_restore_X3 : ∀ w ∈ wsX30, w ∈ wsX4_restore := fun _ h => List.mem_cons_of_mem _ (List.mem_append_right _ h)
set_option maxRecDepth 100000 in
set_option maxHeartbeats 4000000 in
theorem c_X4_restore (l : Launch) (D : va_G) (cI cD : ClassId) (ad : Nat → Nat) (hask : Int32) (wk : Int32) (rot : Nat → Int32) (arv : Nat → Int32) (dep : Nat → Int32) (pos : Nat → Int32) (wkK : Int32) (rotK : Nat → Int32) (arvK : Nat → Int32) (depK : Nat → Int32) (posK : Nat → Int32)  (u : Int32 × Int32 × (Nat → Int32) × (Nat → Int32) × (Nat → Int32) × (Nat → Int32)) (h : f_X4_restore hask wk rot arv dep pos wkK rotK arvK depK posK = some u) : MetI l yX4_restore wsX4_restore { frames := 2, cells := 0, slots := 0, locals := 61 } D [(cI, .int), (cD, .double)] [.ref (ad 0)] (w_X4_restore ad cI cD hask wk rot arv dep pos wkK rotK arvK depK posK) u.1 (w_X4_restore ad cI cD hask u.2.1 u.2.2.1 u.2.2.2.1 u.2.2.2.2.1 u.2.2.2.2.2 wkK rotK arvK depK posK) := by
  refine MetI.of (own := RX4) (cc := cX4_restore) (nL := 1) (ret := (some .int)) (by decide) rfl rfl (Nat.le_of_ble_eq_true rfl) rfl ?_
  intro p e s m args below meth c A hA C hr hlk
  unfold f_X4_restore at h
  refine wd_aload_n (j := 1) C 0 dX4_restore_0 rfl rfl rfl ?_
  refine wd_get (j := 4) (q0 := 0) (f := 4) (ci := 4) (v := .int hask) C inX4_restore_X4 kX4_restore_1 rfl (by decide) rfl rfl dX4_restore_1 rfl ?_
  refine wd_if_ne (j := 7) (t := 10) C dX4_restore_4 (by decide) rfl (fun c1 => ?_) (fun c1 => ?_)
  · replace h := (if_neg c1).symm.trans h
    refine wd_aload_n (j := 11) C 0 dX4_restore_10 rfl rfl rfl ?_
    refine wd_get (j := 14) (q0 := 0) (f := 2) (ci := 4) (v := .ref (ad 6)) C inX4_restore_X4 kX4_restore_2 rfl (by decide) rfl rfl dX4_restore_11 rfl ?_
    refine wd_aload_n (j := 15) C 0 dX4_restore_14 rfl rfl rfl ?_
    refine wd_get (j := 18) (q0 := 0) (f := 3) (ci := 4) (v := .ref (ad 11)) C inX4_restore_X4 kX4_restore_3 rfl (by decide) rfl rfl dX4_restore_15 rfl ?_
    obtain ⟨u2, hu2, h⟩ := bnd_some h
    refine wd_callVv (j := 21) (q0 := 0) (ci := 3) (As := [.ref (ad 11)]) (rest := []) (ws' := (w_X4_restore ad cI cD hask u2.1 u2.2.1 u2.2.2.1 u2.2.2.2.1 u2.2.2.2.2 wkK rotK arvK depK posK)) C (c_X3_copyFrom l D cI cD (ad 6) (ad 7) (ad 8) (ad 9) (ad 10) (ad 11) (ad 12) (ad 13) (ad 14) (ad 15) wk rot arv dep pos wkK rotK arvK depK posK u2 hu2) (cwV 1 C.1.2.2.2.2 gX4_restore_X3_copyFrom rfl rfl rfl (by decide +kernel) ⟨Nat.le_of_ble_eq_true rfl, Nat.le_of_ble_eq_true rfl⟩) rfl rfl [1, 2, 3, 4, 5, 6, 7, 8, 9, 10] [0] rfl rfl rfl rfl (by decide) [0, 1, 2, 3, 4, 5, 6, 7, 8, 9, 10] rfl rfl rfl (Nat.le_of_ble_eq_true rfl) (Nat.le_of_ble_eq_true rfl) (Nat.le_of_ble_eq_true rfl) dX4_restore_18 rfl ?_
    refine wd_aload_n (j := 22) C 0 dX4_restore_21 rfl rfl rfl ?_
    refine wd_get (j := 25) (q0 := 0) (f := 2) (ci := 4) (v := .ref (ad 6)) C inX4_restore_X4 kX4_restore_2 rfl (by decide) rfl rfl dX4_restore_22 rfl ?_
    refine wd_get (j := 28) (q0 := 1) (f := 4) (ci := 3) (v := .int u2.1) C inX4_restore_X3 kX4_restore_4 rfl (by decide) rfl rfl dX4_restore_25 rfl ?_
    obtain rfl := Option.some.inj h
    exact wd_iret C hA hr hlk rfl rfl rfl dX4_restore_28
  · replace h := (if_pos c1).symm.trans h
    refine wd_bipush (j := 9) (v := -9) C dX4_restore_7 (by decide) rfl ?_
    obtain rfl := Option.some.inj h
    exact wd_iret C hA hr hlk rfl rfl rfl dX4_restore_9
abbrev w_X4_walkerCount (ad : Nat → Nat) (cI cD : ClassId) (hask : Int32) (wk : Int32) : va_W := [((ad 0), .inr (4, [.ref (ad 1), .ref (ad 3), .ref (ad 6), .ref (ad 11), .int hask, .ref (ad 16), .ref (ad 18), .ref (ad 20), .ref (ad 21), .ref (ad 22), .ref (ad 23)])), ((ad 6), .inr (3, [.ref (ad 7), .ref (ad 8), .ref (ad 9), .ref (ad 10), .int wk]))]
theorem kX4_walkerCount_1 : Cond.fieldLink "RotorRouter" 26 "RotorRouter" "current" "LRotorRouter$State;" ∈ wsX4_walkerCount := List.mem_of_getElem? (i := 1) rfl
theorem kX4_walkerCount_2 : Cond.fieldLink "RotorRouter" 109 "RotorRouter$State" "walkers" "I" ∈ wsX4_walkerCount := List.mem_of_getElem? (i := 2) rfl
theorem inX4_walkerCount_X4 : ∀ w ∈ wsX40, w ∈ wsX4_walkerCount := fun _ h => List.mem_cons_of_mem _ (List.mem_append_left _ (List.mem_append_right _ h))
theorem inX4_walkerCount_X3 : ∀ w ∈ wsX30, w ∈ wsX4_walkerCount := fun _ h => List.mem_cons_of_mem _ (List.mem_append_right _ h)
set_option maxRecDepth 100000 in
set_option maxHeartbeats 4000000 in
theorem c_X4_walkerCount (l : Launch) (D : va_G) (cI cD : ClassId) (ad : Nat → Nat) (hask : Int32) (wk : Int32)  (u : Int32) (h : f_X4_walkerCount wk = some u) : MetI l yX4_walkerCount wsX4_walkerCount { frames := 0, cells := 0, slots := 0, locals := 0 } D [(cI, .int), (cD, .double)] [.ref (ad 0)] (w_X4_walkerCount ad cI cD hask wk) u (w_X4_walkerCount ad cI cD hask wk) := by
  refine MetI.of (own := RX4) (cc := cX4_walkerCount) (nL := 1) (ret := (some .int)) (by decide) rfl rfl (Nat.le_of_ble_eq_true rfl) rfl ?_
  intro p e s m args below meth c A hA C hr hlk
  unfold f_X4_walkerCount at h
  refine wd_aload_n (j := 1) C 0 dX4_walkerCount_0 rfl rfl rfl ?_
  refine wd_get (j := 4) (q0 := 0) (f := 2) (ci := 4) (v := .ref (ad 6)) C inX4_walkerCount_X4 kX4_walkerCount_1 rfl (by decide) rfl rfl dX4_walkerCount_1 rfl ?_
  refine wd_get (j := 7) (q0 := 1) (f := 4) (ci := 3) (v := .int wk) C inX4_walkerCount_X3 kX4_walkerCount_2 rfl (by decide) rfl rfl dX4_walkerCount_4 rfl ?_
  obtain rfl := Option.some.inj h
  exact wd_iret C hA hr hlk rfl rfl rfl dX4_walkerCount_7
abbrev w_X4_linkCount (ad : Nat → Nat) (cI cD : ClassId) (hask : Int32) (nodes : Int32) (links : Int32) : va_W := [((ad 0), .inr (4, [.ref (ad 1), .ref (ad 3), .ref (ad 6), .ref (ad 11), .int hask, .ref (ad 16), .ref (ad 18), .ref (ad 20), .ref (ad 21), .ref (ad 22), .ref (ad 23)])), ((ad 3), .inr (0, [.ref (ad 4), .ref (ad 5), .int nodes, .int links]))]
theorem kX4_linkCount_1 : Cond.fieldLink "RotorRouter" 19 "RotorRouter" "graph" "LRotorRouter$Graph;" ∈ wsX4_linkCount := List.mem_of_getElem? (i := 1) rfl
theorem kX4_linkCount_2 : Cond.fieldLink "RotorRouter" 135 "RotorRouter$Graph" "links" "I" ∈ wsX4_linkCount := List.mem_of_getElem? (i := 2) rfl
theorem inX4_linkCount_X4 : ∀ w ∈ wsX40, w ∈ wsX4_linkCount := fun _ h => List.mem_cons_of_mem _ (List.mem_append_left _ (List.mem_append_right _ h))
theorem inX4_linkCount_X0 : ∀ w ∈ wsX00, w ∈ wsX4_linkCount := fun _ h => List.mem_cons_of_mem _ (List.mem_append_right _ h)
set_option maxRecDepth 100000 in
set_option maxHeartbeats 4000000 in
theorem c_X4_linkCount (l : Launch) (D : va_G) (cI cD : ClassId) (ad : Nat → Nat) (hask : Int32) (nodes : Int32) (links : Int32)  (u : Int32) (h : f_X4_linkCount links = some u) : MetI l yX4_linkCount wsX4_linkCount { frames := 0, cells := 0, slots := 0, locals := 0 } D [(cI, .int), (cD, .double)] [.ref (ad 0)] (w_X4_linkCount ad cI cD hask nodes links) u (w_X4_linkCount ad cI cD hask nodes links) := by
  refine MetI.of (own := RX4) (cc := cX4_linkCount) (nL := 1) (ret := (some .int)) (by decide) rfl rfl (Nat.le_of_ble_eq_true rfl) rfl ?_
  intro p e s m args below meth c A hA C hr hlk
  unfold f_X4_linkCount at h
  refine wd_aload_n (j := 1) C 0 dX4_linkCount_0 rfl rfl rfl ?_
  refine wd_get (j := 4) (q0 := 0) (f := 1) (ci := 4) (v := .ref (ad 3)) C inX4_linkCount_X4 kX4_linkCount_1 rfl (by decide) rfl rfl dX4_linkCount_1 rfl ?_
  refine wd_get (j := 7) (q0 := 1) (f := 3) (ci := 0) (v := .int links) C inX4_linkCount_X0 kX4_linkCount_2 rfl (by decide) rfl rfl dX4_linkCount_4 rfl ?_
  obtain rfl := Option.some.inj h
  exact wd_iret C hA hr hlk rfl rfl rfl dX4_linkCount_7
abbrev w_X4_hashed (ad : Nat → Nat) (cI cD : ClassId)  : va_W := []
theorem kX4_hashed_1 : Cond.constantLong "RotorRouter" 222 31 ∈ wsX4_hashed := List.mem_of_getElem? (i := 1) rfl
set_option maxRecDepth 100000 in
set_option maxHeartbeats 4000000 in
theorem c_X4_hashed (l : Launch) (D : va_G) (cI cD : ClassId) (ad : Nat → Nat)  (p0 : Int64) (p2 : Int64) (u : Int64) (h : f_X4_hashed p0 p2 = some u) : MetL l yX4_hashed wsX4_hashed { frames := 0, cells := 0, slots := 0, locals := 0 } D [(cI, .int), (cD, .double)] [.long p0, .long p2] (w_X4_hashed ad cI cD) u (w_X4_hashed ad cI cD) := by
  refine MetL.of (own := RX4) (cc := cX4_hashed) (nL := 4) (ret := (some .long)) (by decide) rfl rfl (Nat.le_of_ble_eq_true rfl) rfl ?_
  intro p e s m args below meth c A hA C hr hlk
  unfold f_X4_hashed at h
  refine wd_ldc2 (j := 3) C dX4_hashed_0 kX4_hashed_1 rfl ?_
  refine wd_lload_n (j := 4) C 0 dX4_hashed_3 rfl rfl rfl ?_
  refine wd_lmul (j := 5) C dX4_hashed_4 rfl ?_
  refine wd_lload_n (j := 6) C 1 dX4_hashed_5 rfl rfl rfl ?_
  refine wd_ladd (j := 7) C dX4_hashed_6 rfl ?_
  obtain rfl := Option.some.inj h
  exact wd_lret C hA hr hlk rfl rfl dX4_hashed_7
abbrev w_X4_hashedNode (ad : Nat → Nat) (cI cD : ClassId) (hask : Int32) (nodes : Int32) (links : Int32) (deg : Nat → Int32) (nbr : Nat → Int32) (wk : Int32) (rot : Nat → Int32) (arv : Nat → Int32) (dep : Nat → Int32) : va_W := [((ad 0), .inr (4, [.ref (ad 1), .ref (ad 3), .ref (ad 6), .ref (ad 11), .int hask, .ref (ad 16), .ref (ad 18), .ref (ad 20), .ref (ad 21), .ref (ad 22), .ref (ad 23)])), ((ad 3), .inr (0, [.ref (ad 4), .ref (ad 5), .int nodes, .int links])), ((ad 4), .inl (cI, 8, .inl deg)), ((ad 5), .inl (cI, 56, .inl nbr)), ((ad 6), .inr (3, [.ref (ad 7), .ref (ad 8), .ref (ad 9), .ref (ad 10), .int wk])), ((ad 7), .inl (cI, 8, .inl rot)), ((ad 8), .inl (cI, 8, .inl arv)), ((ad 9), .inl (cI, 56, .inl dep))]
theorem kX4_hashedNode_1 : Cond.fieldLink "RotorRouter" 19 "RotorRouter" "graph" "LRotorRouter$Graph;" ∈ wsX4_hashedNode := List.mem_of_getElem? (i := 1) rfl
theorem kX4_hashedNode_2 : Cond.fieldLink "RotorRouter" 93 "RotorRouter$Graph" "degrees" "[I" ∈ wsX4_hashedNode := List.mem_of_getElem? (i := 2) rfl
theorem kX4_hashedNode_3 : Cond.fieldLink "RotorRouter" 26 "RotorRouter" "current" "LRotorRouter$State;" ∈ wsX4_hashedNode := List.mem_of_getElem? (i := 3) rfl
theorem kX4_hashedNode_4 : Cond.fieldLink "RotorRouter" 106 "RotorRouter$State" "rotors" "[I" ∈ wsX4_hashedNode := List.mem_of_getElem? (i := 4) rfl
theorem kX4_hashedNode_5 : Cond.fieldLink "RotorRouter" 129 "RotorRouter$State" "arrived" "[I" ∈ wsX4_hashedNode := List.mem_of_getElem? (i := 5) rfl
theorem kX4_hashedNode_6 : Cond.fieldLink "RotorRouter" 100 "RotorRouter$Graph" "neighbors" "[I" ∈ wsX4_hashedNode := List.mem_of_getElem? (i := 6) rfl
theorem kX4_hashedNode_7 : Cond.fieldLink "RotorRouter" 132 "RotorRouter$State" "departed" "[I" ∈ wsX4_hashedNode := List.mem_of_getElem? (i := 7) rfl
theorem inX4_hashedNode_X4 : ∀ w ∈ wsX40, w ∈ wsX4_hashedNode := fun _ h => List.mem_cons_of_mem _ (List.mem_append_left _ (List.mem_append_left _ (List.mem_append_right _ h)))
theorem inX4_hashedNode_X0 : ∀ w ∈ wsX00, w ∈ wsX4_hashedNode := fun _ h => List.mem_cons_of_mem _ (List.mem_append_left _ (List.mem_append_right _ h))
theorem inX4_hashedNode_X3 : ∀ w ∈ wsX30, w ∈ wsX4_hashedNode := fun _ h => List.mem_cons_of_mem _ (List.mem_append_right _ h)
set_option maxRecDepth 100000 in
set_option maxHeartbeats 4000000 in
theorem lw_X4_hashedNode_53 (l : Launch) (D : va_G) (cI cD : ClassId) (ad : Nat → Nat) (N : Nat) (hask : Int32) (nodes : Int32) (links : Int32) (wk : Int32) (rot : Nat → Int32) (arv : Nat → Int32) (deg : Nat → Int32) (nbr : Nat → Int32) (dep : Nat → Int32) (p3 : Int32) {p : Program} {e : Env} {s : State} {m : MethodId} {args : Array Value} {below : List Frame} {meth : Method} {c : Code} {A : Nat → Prop} {Q : State → Prop} (C : wd_C p m c cX4_hashedNode 8 s args wsX4_hashedNode RX4 D [(cI, .int), (cD, .double)] A) : ∀ (n : Nat) (st : Int64 × Int32) (E : Int64), iter (b_X4_hashedNode_53 deg nbr dep p3) n st = some E → (Wd p l e { frames := 1, cells := 0, slots := 0, locals := 23 } s m args below meth c 8 D A 0 0 Q 117 [(4, .long E)] [] (w_X4_hashedNode ad cI cD hask nodes links deg nbr wk rot arv dep)) → Wd p l e { frames := 1, cells := 0, slots := 0, locals := 23 } s m args below meth c 8 D A 0 0 Q 53 [(0, .ref (ad 0)), (3, .int p3), (4, .long st.1), (6, .int st.2)] [] (w_X4_hashedNode ad cI cD hask nodes links deg nbr wk rot arv dep) := by
  intro n
  induction n with
  | zero => intro st E h; cases h
  | succ n ih =>
    intro st E h kx
    obtain ⟨b, h, hk⟩ := iter_step h
    unfold b_X4_hashedNode_53 at h
    refine wd_iload (j := 55) C 3 dX4_hashedNode_53 rfl rfl ?_
    refine wd_aload_n (j := 56) C 0 dX4_hashedNode_55 rfl rfl rfl ?_
    refine wd_get (j := 59) (q0 := 0) (f := 1) (ci := 4) (v := .ref (ad 3)) C inX4_hashedNode_X4 kX4_hashedNode_1 rfl (by decide) rfl rfl dX4_hashedNode_56 rfl ?_
    refine wd_get (j := 62) (q0 := 1) (f := 0) (ci := 0) (v := .ref (ad 4)) C inX4_hashedNode_X0 kX4_hashedNode_2 rfl (by decide) rfl rfl dX4_hashedNode_59 rfl ?_
    refine wd_iload_n (j := 63) C 1 dX4_hashedNode_62 rfl rfl rfl ?_
    obtain ⟨g1, h⟩ := grd_some h
    refine wd_iald (j := 64) (q0 := 2) (t0 := 0) C rfl rfl (inB_in g1) dX4_hashedNode_63 rfl ?_
    refine wd_icmp_ge (j := 67) (t := 117) C dX4_hashedNode_64 (by decide) rfl (fun c2 => ?_) (fun c2 => ?_)
    · replace h := (if_pos c2).symm.trans h
      obtain rfl := Option.some.inj h
      obtain rfl := hk
      refine wd_lv (lv' := [(4, .long st.1)]) [2] rfl ?_
      exact kx
    · replace h := (if_neg c2).symm.trans h
      refine wd_iload_n (j := 68) C 1 dX4_hashedNode_67 rfl rfl rfl ?_
      refine wd_iload (j := 70) C 3 dX4_hashedNode_68 rfl rfl ?_
      obtain ⟨u3, hu3, h⟩ := bnd_some h
      refine wd_callSi (j := 73) (As := [.int p3, .int st.2]) (rest := []) (ws' := (w_X4_hashedNode ad cI cD hask nodes links deg nbr wk rot arv dep)) C (c_X0_slot l D cI cD p3 st.2 u3 hu3) (va_cwS 2 C.1.2.2.2.2 gX4_hashedNode_X0_slot rfl rfl rfl (by decide +kernel) ⟨Nat.le_of_ble_eq_true rfl, Nat.le_of_ble_eq_true rfl⟩) [] [0, 1, 2, 3, 4, 5, 6, 7] rfl rfl rfl rfl (by decide) [0, 1, 2, 3, 4, 5, 6, 7] rfl rfl rfl (Nat.le_of_ble_eq_true rfl) (Nat.le_of_ble_eq_true rfl) (Nat.le_of_ble_eq_true rfl) dX4_hashedNode_70 rfl ?_
      refine wd_istore (j := 75) (lv' := [(7, .int u3), (0, .ref (ad 0)), (3, .int p3), (4, .long st.1), (6, .int st.2)]) C dX4_hashedNode_73 (by decide) rfl rfl ?_
      refine wd_lload (j := 77) C 3 dX4_hashedNode_75 rfl rfl ?_
      refine wd_aload_n (j := 78) C 1 dX4_hashedNode_77 rfl rfl rfl ?_
      refine wd_get (j := 81) (q0 := 0) (f := 1) (ci := 4) (v := .ref (ad 3)) C inX4_hashedNode_X4 kX4_hashedNode_1 rfl (by decide) rfl rfl dX4_hashedNode_78 rfl ?_
      refine wd_get (j := 84) (q0 := 1) (f := 1) (ci := 0) (v := .ref (ad 5)) C inX4_hashedNode_X0 kX4_hashedNode_6 rfl (by decide) rfl rfl dX4_hashedNode_81 rfl ?_
      refine wd_iload (j := 86) C 0 dX4_hashedNode_84 rfl rfl ?_
      obtain ⟨g4, h⟩ := grd_some h
      refine wd_iald (j := 87) (q0 := 3) (t0 := 0) C rfl rfl (inB_in g4) dX4_hashedNode_86 rfl ?_
      refine wd_i2l (j := 88) C dX4_hashedNode_87 rfl ?_
      obtain ⟨u5, hu5, h⟩ := bnd_some h
      refine wd_callSl (j := 91) (As := [.long st.1, .long ((nbr u3.toNatClampNeg).toInt64)]) (rest := []) (ws' := (w_X4_hashedNode ad cI cD hask nodes links deg nbr wk rot arv dep)) C (c_X4_hashed l D cI cD ad st.1 ((nbr u3.toNatClampNeg).toInt64) u5 hu5) (va_cwS 2 C.1.2.2.2.2 gX4_hashedNode_X4_hashed rfl rfl rfl (by decide +kernel) ⟨Nat.le_of_ble_eq_true rfl, Nat.le_of_ble_eq_true rfl⟩) [] [0, 1, 2, 3, 4, 5, 6, 7] rfl rfl rfl rfl (by decide) [0, 1, 2, 3, 4, 5, 6, 7] rfl rfl rfl (Nat.le_of_ble_eq_true rfl) (Nat.le_of_ble_eq_true rfl) (Nat.le_of_ble_eq_true rfl) dX4_hashedNode_88 rfl ?_
      refine wd_lstore (j := 93) (lv' := [(4, .long u5), (7, .int u3), (0, .ref (ad 0)), (3, .int p3), (6, .int st.2)]) C dX4_hashedNode_91 (by decide) rfl rfl ?_
      refine wd_lload (j := 95) C 0 dX4_hashedNode_93 rfl rfl ?_
      refine wd_aload_n (j := 96) C 2 dX4_hashedNode_95 rfl rfl rfl ?_
      refine wd_get (j := 99) (q0 := 0) (f := 2) (ci := 4) (v := .ref (ad 6)) C inX4_hashedNode_X4 kX4_hashedNode_3 rfl (by decide) rfl rfl dX4_hashedNode_96 rfl ?_
      refine wd_get (j := 102) (q0 := 4) (f := 2) (ci := 3) (v := .ref (ad 9)) C inX4_hashedNode_X3 kX4_hashedNode_7 rfl (by decide) rfl rfl dX4_hashedNode_99 rfl ?_
      refine wd_iload (j := 104) C 1 dX4_hashedNode_102 rfl rfl ?_
      obtain ⟨g6, h⟩ := grd_some h
      refine wd_iald (j := 105) (q0 := 7) (t0 := 0) C rfl rfl (inB_in g6) dX4_hashedNode_104 rfl ?_
      refine wd_i2l (j := 106) C dX4_hashedNode_105 rfl ?_
      obtain ⟨u7, hu7, h⟩ := bnd_some h
      refine wd_callSl (j := 109) (As := [.long u5, .long ((dep u3.toNatClampNeg).toInt64)]) (rest := []) (ws' := (w_X4_hashedNode ad cI cD hask nodes links deg nbr wk rot arv dep)) C (c_X4_hashed l D cI cD ad u5 ((dep u3.toNatClampNeg).toInt64) u7 hu7) (va_cwS 2 C.1.2.2.2.2 gX4_hashedNode_X4_hashed rfl rfl rfl (by decide +kernel) ⟨Nat.le_of_ble_eq_true rfl, Nat.le_of_ble_eq_true rfl⟩) [] [0, 1, 2, 3, 4, 5, 6, 7] rfl rfl rfl rfl (by decide) [0, 1, 2, 3, 4, 5, 6, 7] rfl rfl rfl (Nat.le_of_ble_eq_true rfl) (Nat.le_of_ble_eq_true rfl) (Nat.le_of_ble_eq_true rfl) dX4_hashedNode_106 rfl ?_
      refine wd_lstore (j := 111) (lv' := [(4, .long u7), (7, .int u3), (0, .ref (ad 0)), (3, .int p3), (6, .int st.2)]) C dX4_hashedNode_109 (by decide) rfl rfl ?_
      refine wd_iinc (j := 114) (lv' := [(6, .int (st.2 + 1)), (4, .long u7), (7, .int u3), (0, .ref (ad 0)), (3, .int p3)]) C 4 dX4_hashedNode_111 rfl rfl (by decide) rfl rfl ?_
      refine wd_goto (t := 53) C dX4_hashedNode_114 (by decide) ?_
      obtain rfl := Option.some.inj h
      refine wd_lv (lv' := [(0, .ref (ad 0)), (3, .int p3), (4, .long u7), (6, .int (st.2 + 1))]) [3, 4, 1, 0] rfl ?_
      exact ih (u7, (st.2 + 1)) E hk kx
set_option maxRecDepth 100000 in
set_option maxHeartbeats 4000000 in
theorem c_X4_hashedNode (l : Launch) (D : va_G) (cI cD : ClassId) (ad : Nat → Nat) (N : Nat) (hask : Int32) (nodes : Int32) (links : Int32) (deg : Nat → Int32) (nbr : Nat → Int32) (wk : Int32) (rot : Nat → Int32) (arv : Nat → Int32) (dep : Nat → Int32) (p1 : Int64) (p3 : Int32) (u : Int64) (h : f_X4_hashedNode N deg nbr rot arv dep p1 p3 = some u) : MetL l yX4_hashedNode wsX4_hashedNode { frames := 1, cells := 0, slots := 0, locals := 23 } D [(cI, .int), (cD, .double)] [.ref (ad 0), .long p1, .int p3] (w_X4_hashedNode ad cI cD hask nodes links deg nbr wk rot arv dep) u (w_X4_hashedNode ad cI cD hask nodes links deg nbr wk rot arv dep) := by
  refine MetL.of (own := RX4) (cc := cX4_hashedNode) (nL := 8) (ret := (some .long)) (by decide) rfl rfl (Nat.le_of_ble_eq_true rfl) rfl ?_
  intro p e s m args below meth c A hA C hr hlk
  unfold f_X4_hashedNode at h
  refine wd_lload_n (j := 1) C 1 dX4_hashedNode_0 rfl rfl rfl ?_
  refine wd_aload_n (j := 2) C 0 dX4_hashedNode_1 rfl rfl rfl ?_
  refine wd_get (j := 5) (q0 := 0) (f := 1) (ci := 4) (v := .ref (ad 3)) C inX4_hashedNode_X4 kX4_hashedNode_1 rfl (by decide) rfl rfl dX4_hashedNode_2 rfl ?_
  refine wd_get (j := 8) (q0 := 1) (f := 0) (ci := 0) (v := .ref (ad 4)) C inX4_hashedNode_X0 kX4_hashedNode_2 rfl (by decide) rfl rfl dX4_hashedNode_5 rfl ?_
  refine wd_iload_n (j := 9) C 2 dX4_hashedNode_8 rfl rfl rfl ?_
  obtain ⟨g8, h⟩ := grd_some h
  refine wd_iald (j := 10) (q0 := 2) (t0 := 0) C rfl rfl (inB_in g8) dX4_hashedNode_9 rfl ?_
  refine wd_i2l (j := 11) C dX4_hashedNode_10 rfl ?_
  obtain ⟨u9, hu9, h⟩ := bnd_some h
  refine wd_callSl (j := 14) (As := [.long p1, .long ((deg p3.toNatClampNeg).toInt64)]) (rest := []) (ws' := (w_X4_hashedNode ad cI cD hask nodes links deg nbr wk rot arv dep)) C (c_X4_hashed l D cI cD ad p1 ((deg p3.toNatClampNeg).toInt64) u9 hu9) (va_cwS 2 C.1.2.2.2.2 gX4_hashedNode_X4_hashed rfl rfl rfl (by decide +kernel) ⟨Nat.le_of_ble_eq_true rfl, Nat.le_of_ble_eq_true rfl⟩) [] [0, 1, 2, 3, 4, 5, 6, 7] rfl rfl rfl rfl (by decide) [0, 1, 2, 3, 4, 5, 6, 7] rfl rfl rfl (Nat.le_of_ble_eq_true rfl) (Nat.le_of_ble_eq_true rfl) (Nat.le_of_ble_eq_true rfl) dX4_hashedNode_11 rfl ?_
  refine wd_lstore (j := 16) (lv' := [(4, .long u9), (0, .ref (ad 0)), (1, .long p1), (3, .int p3)]) C dX4_hashedNode_14 (by decide) rfl rfl ?_
  refine wd_lload (j := 18) C 0 dX4_hashedNode_16 rfl rfl ?_
  refine wd_aload_n (j := 19) C 1 dX4_hashedNode_18 rfl rfl rfl ?_
  refine wd_get (j := 22) (q0 := 0) (f := 2) (ci := 4) (v := .ref (ad 6)) C inX4_hashedNode_X4 kX4_hashedNode_3 rfl (by decide) rfl rfl dX4_hashedNode_19 rfl ?_
  refine wd_get (j := 25) (q0 := 4) (f := 0) (ci := 3) (v := .ref (ad 7)) C inX4_hashedNode_X3 kX4_hashedNode_4 rfl (by decide) rfl rfl dX4_hashedNode_22 rfl ?_
  refine wd_iload_n (j := 26) C 3 dX4_hashedNode_25 rfl rfl rfl ?_
  obtain ⟨g10, h⟩ := grd_some h
  refine wd_iald (j := 27) (q0 := 5) (t0 := 0) C rfl rfl (inB_in g10) dX4_hashedNode_26 rfl ?_
  refine wd_i2l (j := 28) C dX4_hashedNode_27 rfl ?_
  obtain ⟨u11, hu11, h⟩ := bnd_some h
  refine wd_callSl (j := 31) (As := [.long u9, .long ((rot p3.toNatClampNeg).toInt64)]) (rest := []) (ws' := (w_X4_hashedNode ad cI cD hask nodes links deg nbr wk rot arv dep)) C (c_X4_hashed l D cI cD ad u9 ((rot p3.toNatClampNeg).toInt64) u11 hu11) (va_cwS 2 C.1.2.2.2.2 gX4_hashedNode_X4_hashed rfl rfl rfl (by decide +kernel) ⟨Nat.le_of_ble_eq_true rfl, Nat.le_of_ble_eq_true rfl⟩) [] [0, 1, 2, 3, 4, 5, 6, 7] rfl rfl rfl rfl (by decide) [0, 1, 2, 3, 4, 5, 6, 7] rfl rfl rfl (Nat.le_of_ble_eq_true rfl) (Nat.le_of_ble_eq_true rfl) (Nat.le_of_ble_eq_true rfl) dX4_hashedNode_28 rfl ?_
  refine wd_lstore (j := 33) (lv' := [(4, .long u11), (0, .ref (ad 0)), (1, .long p1), (3, .int p3)]) C dX4_hashedNode_31 (by decide) rfl rfl ?_
  refine wd_lload (j := 35) C 0 dX4_hashedNode_33 rfl rfl ?_
  refine wd_aload_n (j := 36) C 1 dX4_hashedNode_35 rfl rfl rfl ?_
  refine wd_get (j := 39) (q0 := 0) (f := 2) (ci := 4) (v := .ref (ad 6)) C inX4_hashedNode_X4 kX4_hashedNode_3 rfl (by decide) rfl rfl dX4_hashedNode_36 rfl ?_
  refine wd_get (j := 42) (q0 := 4) (f := 1) (ci := 3) (v := .ref (ad 8)) C inX4_hashedNode_X3 kX4_hashedNode_5 rfl (by decide) rfl rfl dX4_hashedNode_39 rfl ?_
  refine wd_iload_n (j := 43) C 3 dX4_hashedNode_42 rfl rfl rfl ?_
  obtain ⟨g12, h⟩ := grd_some h
  refine wd_iald (j := 44) (q0 := 6) (t0 := 0) C rfl rfl (inB_in g12) dX4_hashedNode_43 rfl ?_
  refine wd_i2l (j := 45) C dX4_hashedNode_44 rfl ?_
  obtain ⟨u13, hu13, h⟩ := bnd_some h
  refine wd_callSl (j := 48) (As := [.long u11, .long ((arv p3.toNatClampNeg).toInt64)]) (rest := []) (ws' := (w_X4_hashedNode ad cI cD hask nodes links deg nbr wk rot arv dep)) C (c_X4_hashed l D cI cD ad u11 ((arv p3.toNatClampNeg).toInt64) u13 hu13) (va_cwS 2 C.1.2.2.2.2 gX4_hashedNode_X4_hashed rfl rfl rfl (by decide +kernel) ⟨Nat.le_of_ble_eq_true rfl, Nat.le_of_ble_eq_true rfl⟩) [] [0, 1, 2, 3, 4, 5, 6, 7] rfl rfl rfl rfl (by decide) [0, 1, 2, 3, 4, 5, 6, 7] rfl rfl rfl (Nat.le_of_ble_eq_true rfl) (Nat.le_of_ble_eq_true rfl) (Nat.le_of_ble_eq_true rfl) dX4_hashedNode_45 rfl ?_
  refine wd_lstore (j := 50) (lv' := [(4, .long u13), (0, .ref (ad 0)), (1, .long p1), (3, .int p3)]) C dX4_hashedNode_48 (by decide) rfl rfl ?_
  refine wd_iconst (j := 51) (v := 0) C dX4_hashedNode_50 (by decide) rfl ?_
  refine wd_istore (j := 53) (lv' := [(6, .int (0 : Int32)), (4, .long u13), (0, .ref (ad 0)), (1, .long p1), (3, .int p3)]) C dX4_hashedNode_51 (by decide) rfl rfl ?_
  refine wd_lv (lv' := [(0, .ref (ad 0)), (3, .int p3), (4, .long u13), (6, .int (0 : Int32))]) [2, 4, 1, 0] rfl ?_
  obtain ⟨u14, hu14, h⟩ := bnd_some h
  refine lw_X4_hashedNode_53 l D cI cD ad N hask nodes links wk rot arv deg nbr dep p3 C N (u13, (0 : Int32)) u14 hu14 ?_
  refine wd_lload (j := 119) C 0 dX4_hashedNode_117 rfl rfl ?_
  obtain rfl := Option.some.inj h
  exact wd_lret C hA hr hlk rfl rfl dX4_hashedNode_119
abbrev w_X4_hashedAnalysis (ad : Nat → Nat) (cI cD : ClassId) (hask : Int32) (nodes : Int32) (links : Int32) (deg : Nat → Int32) (nbr : Nat → Int32) (node : Int32) (prot : Nat → Int32) (tri : Nat → Int32) (bst : Nat → Int32) (chs : Nat → UInt64) (nxt : Nat → UInt64) : va_W := [((ad 0), .inr (4, [.ref (ad 1), .ref (ad 3), .ref (ad 6), .ref (ad 11), .int hask, .ref (ad 16), .ref (ad 18), .ref (ad 20), .ref (ad 21), .ref (ad 22), .ref (ad 23)])), ((ad 3), .inr (0, [.ref (ad 4), .ref (ad 5), .int nodes, .int links])), ((ad 4), .inl (cI, 8, .inl deg)), ((ad 5), .inl (cI, 56, .inl nbr)), ((ad 16), .inr (2, [.ref (ad 17), .int node])), ((ad 17), .inl (cI, 8, .inl prot)), ((ad 20), .inl (cI, 8, .inl tri)), ((ad 21), .inl (cI, 8, .inl bst)), ((ad 22), .inl (cD, 8, .inr (.inr (.inr (.inl chs))))), ((ad 23), .inl (cD, 8, .inr (.inr (.inr (.inl nxt)))))]
theorem kX4_hashedAnalysis_1 : Cond.fieldLink "RotorRouter" 19 "RotorRouter" "graph" "LRotorRouter$Graph;" ∈ wsX4_hashedAnalysis := List.mem_of_getElem? (i := 1) rfl
theorem inX4_hashedAnalysis_X4 : ∀ w ∈ wsX40, w ∈ wsX4_hashedAnalysis := fun _ h => List.mem_cons_of_mem _ (List.mem_append_left _ (List.mem_append_left _ (List.mem_append_right _ h)))
set_option maxRecDepth 100000 in
set_option maxHeartbeats 4000000 in
theorem c_X4_hashedAnalysis (l : Launch) (D : va_G) (cI cD : ClassId) (ad : Nat → Nat) (N : Nat) (hask : Int32) (nodes : Int32) (links : Int32) (deg : Nat → Int32) (nbr : Nat → Int32) (node : Int32) (prot : Nat → Int32) (tri : Nat → Int32) (bst : Nat → Int32) (chs : Nat → UInt64) (nxt : Nat → UInt64) (p1 : Int64) (u : Int64 × Int32 × (Nat → Int32) × (Nat → Int32) × (Nat → Int32) × (Nat → UInt64) × (Nat → UInt64)) (h : f_X4_hashedAnalysis N nodes deg nbr node prot tri bst chs nxt p1 = some u) : MetL l yX4_hashedAnalysis wsX4_hashedAnalysis { frames := 4, cells := 0, slots := 0, locals := 114 } D [(cI, .int), (cD, .double)] [.ref (ad 0), .long p1] (w_X4_hashedAnalysis ad cI cD hask nodes links deg nbr node prot tri bst chs nxt) u.1 (w_X4_hashedAnalysis ad cI cD hask nodes links deg nbr u.2.1 u.2.2.1 u.2.2.2.1 u.2.2.2.2.1 u.2.2.2.2.2.1 u.2.2.2.2.2.2) := by
  refine MetL.of (own := RX4) (cc := cX4_hashedAnalysis) (nL := 5) (ret := (some .long)) (by decide) rfl rfl (Nat.le_of_ble_eq_true rfl) rfl ?_
  intro p e s m args below meth c A hA C hr hlk
  unfold f_X4_hashedAnalysis at h
  refine wd_lload_n (j := 1) C 1 dX4_hashedAnalysis_0 rfl rfl rfl ?_
  refine wd_lstore_n (j := 2) (lv' := [(3, .long p1), (0, .ref (ad 0)), (1, .long p1)]) C dX4_hashedAnalysis_1 rfl (by decide) rfl rfl ?_
  refine wd_aload_n (j := 3) C 1 dX4_hashedAnalysis_2 rfl rfl rfl ?_
  refine wd_get (j := 6) (q0 := 0) (f := 1) (ci := 4) (v := .ref (ad 3)) C inX4_hashedAnalysis_X4 kX4_hashedAnalysis_1 rfl (by decide) rfl rfl dX4_hashedAnalysis_3 rfl ?_
  obtain ⟨u1, hu1, h⟩ := bnd_some h
  refine wd_callVi (j := 9) (q0 := 0) (ci := 0) (As := []) (rest := []) (ws' := (w_X4_hashedAnalysis ad cI cD hask nodes links deg nbr node prot tri bst chs nxt)) C (c_X0_assignments l D cI cD (ad 3) (ad 4) (ad 5) N nodes links deg u1 hu1) (cwV 0 C.1.2.2.2.2 gX4_hashedAnalysis_X0_assignments rfl rfl rfl (by decide +kernel) ⟨Nat.le_of_ble_eq_true rfl, Nat.le_of_ble_eq_true rfl⟩) rfl rfl [1, 2] [0, 3, 4, 5, 6, 7, 8, 9] rfl rfl rfl rfl (by decide) [0, 8, 9, 1, 2, 3, 4, 5, 6, 7] rfl rfl rfl (Nat.le_of_ble_eq_true rfl) (Nat.le_of_ble_eq_true rfl) (Nat.le_of_ble_eq_true rfl) dX4_hashedAnalysis_6 rfl ?_
  refine wd_sipush (j := 12) (v := 2000) C dX4_hashedAnalysis_9 (by decide) rfl ?_
  refine wd_icmp_gt (j := 15) (t := 26) C dX4_hashedAnalysis_12 (by decide) rfl (fun c2 => ?_) (fun c2 => ?_)
  · replace h := (if_pos c2).symm.trans h
    refine wd_lload_n (j := 27) C 0 dX4_hashedAnalysis_26 rfl rfl rfl ?_
    refine wd_aload_n (j := 28) C 1 dX4_hashedAnalysis_27 rfl rfl rfl ?_
    refine wd_iconst (j := 29) (v := 0) C dX4_hashedAnalysis_28 (by decide) rfl ?_
    refine wd_bipush (j := 31) (v := 7) C dX4_hashedAnalysis_29 (by decide) rfl ?_
    refine wd_iconst (j := 32) (v := 1) C dX4_hashedAnalysis_31 (by decide) rfl ?_
    obtain ⟨u3, hu3, h⟩ := bnd_some h
    refine wd_callVl (j := 35) (q0 := 0) (ci := 4) (As := [.int (0 : Int32), .int (7 : Int32), .int (1 : Int32)]) (rest := [.long p1]) (ws' := (w_X4_hashedAnalysis ad cI cD hask nodes links deg nbr node prot tri bst u3.2.1 u3.2.2)) C (c_X4_expectedArrivals l D cI cD ad N hask nodes links deg nbr chs nxt (0 : Int32) (7 : Int32) (1 : Int32) u3 hu3) (cwV 3 C.1.2.2.2.2 gX4_hashedAnalysis_X4_expectedArrivals rfl rfl rfl (by decide +kernel) ⟨Nat.le_of_ble_eq_true rfl, Nat.le_of_ble_eq_true rfl⟩) rfl rfl [0, 1, 2, 3, 8, 9] [4, 5, 6, 7] rfl rfl rfl rfl (by decide) [4, 5, 6, 7, 0, 1, 2, 3, 8, 9] rfl rfl rfl (Nat.le_of_ble_eq_true rfl) (Nat.le_of_ble_eq_true rfl) (Nat.le_of_ble_eq_true rfl) dX4_hashedAnalysis_32 rfl ?_
    obtain ⟨u4, hu4, h⟩ := bnd_some h
    refine wd_callSl (j := 38) (As := [.long p1, .long u3.1]) (rest := []) (ws' := (w_X4_hashedAnalysis ad cI cD hask nodes links deg nbr node prot tri bst u3.2.1 u3.2.2)) C (c_X4_hashed l D cI cD ad p1 u3.1 u4 hu4) (va_cwS 2 C.1.2.2.2.2 gX4_hashedAnalysis_X4_hashed rfl rfl rfl (by decide +kernel) ⟨Nat.le_of_ble_eq_true rfl, Nat.le_of_ble_eq_true rfl⟩) [] [0, 1, 2, 3, 4, 5, 6, 7, 8, 9] rfl rfl rfl rfl (by decide) [0, 1, 2, 3, 4, 5, 6, 7, 8, 9] rfl rfl rfl (Nat.le_of_ble_eq_true rfl) (Nat.le_of_ble_eq_true rfl) (Nat.le_of_ble_eq_true rfl) dX4_hashedAnalysis_35 rfl ?_
    obtain rfl := Option.some.inj h
    exact wd_lret C hA hr hlk rfl rfl dX4_hashedAnalysis_38
  · replace h := (if_neg c2).symm.trans h
    refine wd_lload_n (j := 16) C 0 dX4_hashedAnalysis_15 rfl rfl rfl ?_
    refine wd_aload_n (j := 17) C 1 dX4_hashedAnalysis_16 rfl rfl rfl ?_
    refine wd_iconst (j := 18) (v := 0) C dX4_hashedAnalysis_17 (by decide) rfl ?_
    obtain ⟨u5, hu5, h⟩ := bnd_some h
    refine wd_callVi (j := 21) (q0 := 0) (ci := 4) (As := [.int (0 : Int32)]) (rest := [.long p1]) (ws' := (w_X4_hashedAnalysis ad cI cD hask nodes links deg nbr u5.2.1 u5.2.2.1 u5.2.2.2.1 u5.2.2.2.2 chs nxt)) C (c_X4_searchAssignments l D cI cD ad N hask nodes links deg nbr node prot tri bst (0 : Int32) u5 hu5) (cwV 1 C.1.2.2.2.2 gX4_hashedAnalysis_X4_searchAssignments rfl rfl rfl (by decide +kernel) ⟨Nat.le_of_ble_eq_true rfl, Nat.le_of_ble_eq_true rfl⟩) rfl rfl [0, 1, 2, 3, 4, 5, 6, 7] [8, 9] rfl rfl rfl rfl (by decide) [2, 3, 4, 5, 6, 7, 8, 9, 0, 1] rfl rfl rfl (Nat.le_of_ble_eq_true rfl) (Nat.le_of_ble_eq_true rfl) (Nat.le_of_ble_eq_true rfl) dX4_hashedAnalysis_18 rfl ?_
    refine wd_i2l (j := 22) C dX4_hashedAnalysis_21 rfl ?_
    obtain ⟨u6, hu6, h⟩ := bnd_some h
    refine wd_callSl (j := 25) (As := [.long p1, .long u5.1.toInt64]) (rest := []) (ws' := (w_X4_hashedAnalysis ad cI cD hask nodes links deg nbr u5.2.1 u5.2.2.1 u5.2.2.2.1 u5.2.2.2.2 chs nxt)) C (c_X4_hashed l D cI cD ad p1 u5.1.toInt64 u6 hu6) (va_cwS 2 C.1.2.2.2.2 gX4_hashedAnalysis_X4_hashed rfl rfl rfl (by decide +kernel) ⟨Nat.le_of_ble_eq_true rfl, Nat.le_of_ble_eq_true rfl⟩) [] [0, 1, 2, 3, 4, 5, 6, 7, 8, 9] rfl rfl rfl rfl (by decide) [0, 1, 2, 3, 4, 5, 6, 7, 8, 9] rfl rfl rfl (Nat.le_of_ble_eq_true rfl) (Nat.le_of_ble_eq_true rfl) (Nat.le_of_ble_eq_true rfl) dX4_hashedAnalysis_22 rfl ?_
    refine wd_lstore_n (j := 26) (lv' := [(3, .long u6), (0, .ref (ad 0)), (1, .long p1)]) C dX4_hashedAnalysis_25 rfl (by decide) rfl rfl ?_
    refine wd_lload_n (j := 27) C 0 dX4_hashedAnalysis_26 rfl rfl rfl ?_
    refine wd_aload_n (j := 28) C 1 dX4_hashedAnalysis_27 rfl rfl rfl ?_
    refine wd_iconst (j := 29) (v := 0) C dX4_hashedAnalysis_28 (by decide) rfl ?_
    refine wd_bipush (j := 31) (v := 7) C dX4_hashedAnalysis_29 (by decide) rfl ?_
    refine wd_iconst (j := 32) (v := 1) C dX4_hashedAnalysis_31 (by decide) rfl ?_
    obtain ⟨u7, hu7, h⟩ := bnd_some h
    refine wd_callVl (j := 35) (q0 := 0) (ci := 4) (As := [.int (0 : Int32), .int (7 : Int32), .int (1 : Int32)]) (rest := [.long u6]) (ws' := (w_X4_hashedAnalysis ad cI cD hask nodes links deg nbr u5.2.1 u5.2.2.1 u5.2.2.2.1 u5.2.2.2.2 u7.2.1 u7.2.2)) C (c_X4_expectedArrivals l D cI cD ad N hask nodes links deg nbr chs nxt (0 : Int32) (7 : Int32) (1 : Int32) u7 hu7) (cwV 3 C.1.2.2.2.2 gX4_hashedAnalysis_X4_expectedArrivals rfl rfl rfl (by decide +kernel) ⟨Nat.le_of_ble_eq_true rfl, Nat.le_of_ble_eq_true rfl⟩) rfl rfl [0, 1, 2, 3, 8, 9] [4, 5, 6, 7] rfl rfl rfl rfl (by decide) [4, 5, 6, 7, 0, 1, 2, 3, 8, 9] rfl rfl rfl (Nat.le_of_ble_eq_true rfl) (Nat.le_of_ble_eq_true rfl) (Nat.le_of_ble_eq_true rfl) dX4_hashedAnalysis_32 rfl ?_
    obtain ⟨u8, hu8, h⟩ := bnd_some h
    refine wd_callSl (j := 38) (As := [.long u6, .long u7.1]) (rest := []) (ws' := (w_X4_hashedAnalysis ad cI cD hask nodes links deg nbr u5.2.1 u5.2.2.1 u5.2.2.2.1 u5.2.2.2.2 u7.2.1 u7.2.2)) C (c_X4_hashed l D cI cD ad u6 u7.1 u8 hu8) (va_cwS 2 C.1.2.2.2.2 gX4_hashedAnalysis_X4_hashed rfl rfl rfl (by decide +kernel) ⟨Nat.le_of_ble_eq_true rfl, Nat.le_of_ble_eq_true rfl⟩) [] [0, 1, 2, 3, 4, 5, 6, 7, 8, 9] rfl rfl rfl rfl (by decide) [0, 1, 2, 3, 4, 5, 6, 7, 8, 9] rfl rfl rfl (Nat.le_of_ble_eq_true rfl) (Nat.le_of_ble_eq_true rfl) (Nat.le_of_ble_eq_true rfl) dX4_hashedAnalysis_35 rfl ?_
    obtain rfl := Option.some.inj h
    exact wd_lret C hA hr hlk rfl rfl dX4_hashedAnalysis_38
abbrev w_X4_hashedInput (ad : Nat → Nat) (cI cD : ClassId) (hask : Int32) (len : Int32) (codes : Nat → Int32) : va_W := [((ad 0), .inr (4, [.ref (ad 1), .ref (ad 3), .ref (ad 6), .ref (ad 11), .int hask, .ref (ad 16), .ref (ad 18), .ref (ad 20), .ref (ad 21), .ref (ad 22), .ref (ad 23)])), ((ad 1), .inr (1, [.ref (ad 2), .int len])), ((ad 2), .inl (cI, 40, .inl codes))]
theorem kX4_hashedInput_1 : Cond.fieldLink "RotorRouter" 12 "RotorRouter" "input" "LRotorRouter$InputText;" ∈ wsX4_hashedInput := List.mem_of_getElem? (i := 1) rfl
theorem kX4_hashedInput_2 : Cond.fieldLink "RotorRouter" 61 "RotorRouter$InputText" "length" "I" ∈ wsX4_hashedInput := List.mem_of_getElem? (i := 2) rfl
theorem kX4_hashedInput_3 : Cond.fieldLink "RotorRouter" 65 "RotorRouter$InputText" "codes" "[I" ∈ wsX4_hashedInput := List.mem_of_getElem? (i := 3) rfl
theorem inX4_hashedInput_X4 : ∀ w ∈ wsX40, w ∈ wsX4_hashedInput := fun _ h => List.mem_cons_of_mem _ (List.mem_append_left _ (List.mem_append_right _ h))
theorem inX4_hashedInput_X1 : ∀ w ∈ wsX10, w ∈ wsX4_hashedInput := fun _ h => List.mem_cons_of_mem _ (List.mem_append_right _ h)
set_option maxRecDepth 100000 in
set_option maxHeartbeats 4000000 in
theorem lw_X4_hashedInput_16 (l : Launch) (D : va_G) (cI cD : ClassId) (ad : Nat → Nat) (N : Nat) (hask : Int32) (len : Int32) (codes : Nat → Int32)  {p : Program} {e : Env} {s : State} {m : MethodId} {args : Array Value} {below : List Frame} {meth : Method} {c : Code} {A : Nat → Prop} {Q : State → Prop} (C : wd_C p m c cX4_hashedInput 6 s args wsX4_hashedInput RX4 D [(cI, .int), (cD, .double)] A) : ∀ (n : Nat) (st : Int64 × Int32) (E : Int64), iter (b_X4_hashedInput_16 len codes) n st = some E → (Wd p l e { frames := 1, cells := 0, slots := 0, locals := 23 } s m args below meth c 6 D A 0 0 Q 50 [(3, .long E)] [] (w_X4_hashedInput ad cI cD hask len codes)) → Wd p l e { frames := 1, cells := 0, slots := 0, locals := 23 } s m args below meth c 6 D A 0 0 Q 16 [(0, .ref (ad 0)), (3, .long st.1), (5, .int st.2)] [] (w_X4_hashedInput ad cI cD hask len codes) := by
  intro n
  induction n with
  | zero => intro st E h; cases h
  | succ n ih =>
    intro st E h kx
    obtain ⟨b, h, hk⟩ := iter_step h
    unfold b_X4_hashedInput_16 at h
    refine wd_iload (j := 18) C 2 dX4_hashedInput_16 rfl rfl ?_
    refine wd_aload_n (j := 19) C 0 dX4_hashedInput_18 rfl rfl rfl ?_
    refine wd_get (j := 22) (q0 := 0) (f := 0) (ci := 4) (v := .ref (ad 1)) C inX4_hashedInput_X4 kX4_hashedInput_1 rfl (by decide) rfl rfl dX4_hashedInput_19 rfl ?_
    refine wd_get (j := 25) (q0 := 1) (f := 1) (ci := 1) (v := .int len) C inX4_hashedInput_X1 kX4_hashedInput_2 rfl (by decide) rfl rfl dX4_hashedInput_22 rfl ?_
    refine wd_icmp_ge (j := 28) (t := 50) C dX4_hashedInput_25 (by decide) rfl (fun c1 => ?_) (fun c1 => ?_)
    · replace h := (if_pos c1).symm.trans h
      obtain rfl := Option.some.inj h
      obtain rfl := hk
      refine wd_lv (lv' := [(3, .long st.1)]) [1] rfl ?_
      exact kx
    · replace h := (if_neg c1).symm.trans h
      refine wd_lload_n (j := 29) C 1 dX4_hashedInput_28 rfl rfl rfl ?_
      refine wd_aload_n (j := 30) C 0 dX4_hashedInput_29 rfl rfl rfl ?_
      refine wd_get (j := 33) (q0 := 0) (f := 0) (ci := 4) (v := .ref (ad 1)) C inX4_hashedInput_X4 kX4_hashedInput_1 rfl (by decide) rfl rfl dX4_hashedInput_30 rfl ?_
      refine wd_get (j := 36) (q0 := 1) (f := 0) (ci := 1) (v := .ref (ad 2)) C inX4_hashedInput_X1 kX4_hashedInput_3 rfl (by decide) rfl rfl dX4_hashedInput_33 rfl ?_
      refine wd_iload (j := 38) C 2 dX4_hashedInput_36 rfl rfl ?_
      obtain ⟨g2, h⟩ := grd_some h
      refine wd_iald (j := 39) (q0 := 2) (t0 := 0) C rfl rfl (inB_in g2) dX4_hashedInput_38 rfl ?_
      refine wd_i2l (j := 40) C dX4_hashedInput_39 rfl ?_
      obtain ⟨u3, hu3, h⟩ := bnd_some h
      refine wd_callSl (j := 43) (As := [.long st.1, .long ((codes st.2.toNatClampNeg).toInt64)]) (rest := []) (ws' := (w_X4_hashedInput ad cI cD hask len codes)) C (c_X4_hashed l D cI cD ad st.1 ((codes st.2.toNatClampNeg).toInt64) u3 hu3) (va_cwS 2 C.1.2.2.2.2 gX4_hashedInput_X4_hashed rfl rfl rfl (by decide +kernel) ⟨Nat.le_of_ble_eq_true rfl, Nat.le_of_ble_eq_true rfl⟩) [] [0, 1, 2] rfl rfl rfl rfl (by decide) [0, 1, 2] rfl rfl rfl (Nat.le_of_ble_eq_true rfl) (Nat.le_of_ble_eq_true rfl) (Nat.le_of_ble_eq_true rfl) dX4_hashedInput_40 rfl ?_
      refine wd_lstore_n (j := 44) (lv' := [(3, .long u3), (0, .ref (ad 0)), (5, .int st.2)]) C dX4_hashedInput_43 rfl (by decide) rfl rfl ?_
      refine wd_iinc (j := 47) (lv' := [(5, .int (st.2 + 1)), (3, .long u3), (0, .ref (ad 0))]) C 2 dX4_hashedInput_44 rfl rfl (by decide) rfl rfl ?_
      refine wd_goto (t := 16) C dX4_hashedInput_47 (by decide) ?_
      obtain rfl := Option.some.inj h
      refine wd_lv (lv' := [(0, .ref (ad 0)), (3, .long u3), (5, .int (st.2 + 1))]) [2, 1, 0] rfl ?_
      exact ih (u3, (st.2 + 1)) E hk kx
set_option maxRecDepth 100000 in
set_option maxHeartbeats 4000000 in
theorem c_X4_hashedInput (l : Launch) (D : va_G) (cI cD : ClassId) (ad : Nat → Nat) (N : Nat) (hask : Int32) (len : Int32) (codes : Nat → Int32) (p1 : Int64) (u : Int64) (h : f_X4_hashedInput N len codes p1 = some u) : MetL l yX4_hashedInput wsX4_hashedInput { frames := 1, cells := 0, slots := 0, locals := 23 } D [(cI, .int), (cD, .double)] [.ref (ad 0), .long p1] (w_X4_hashedInput ad cI cD hask len codes) u (w_X4_hashedInput ad cI cD hask len codes) := by
  refine MetL.of (own := RX4) (cc := cX4_hashedInput) (nL := 6) (ret := (some .long)) (by decide) rfl rfl (Nat.le_of_ble_eq_true rfl) rfl ?_
  intro p e s m args below meth c A hA C hr hlk
  unfold f_X4_hashedInput at h
  refine wd_lload_n (j := 1) C 1 dX4_hashedInput_0 rfl rfl rfl ?_
  refine wd_aload_n (j := 2) C 0 dX4_hashedInput_1 rfl rfl rfl ?_
  refine wd_get (j := 5) (q0 := 0) (f := 0) (ci := 4) (v := .ref (ad 1)) C inX4_hashedInput_X4 kX4_hashedInput_1 rfl (by decide) rfl rfl dX4_hashedInput_2 rfl ?_
  refine wd_get (j := 8) (q0 := 1) (f := 1) (ci := 1) (v := .int len) C inX4_hashedInput_X1 kX4_hashedInput_2 rfl (by decide) rfl rfl dX4_hashedInput_5 rfl ?_
  refine wd_i2l (j := 9) C dX4_hashedInput_8 rfl ?_
  obtain ⟨u4, hu4, h⟩ := bnd_some h
  refine wd_callSl (j := 12) (As := [.long p1, .long len.toInt64]) (rest := []) (ws' := (w_X4_hashedInput ad cI cD hask len codes)) C (c_X4_hashed l D cI cD ad p1 len.toInt64 u4 hu4) (va_cwS 2 C.1.2.2.2.2 gX4_hashedInput_X4_hashed rfl rfl rfl (by decide +kernel) ⟨Nat.le_of_ble_eq_true rfl, Nat.le_of_ble_eq_true rfl⟩) [] [0, 1, 2] rfl rfl rfl rfl (by decide) [0, 1, 2] rfl rfl rfl (Nat.le_of_ble_eq_true rfl) (Nat.le_of_ble_eq_true rfl) (Nat.le_of_ble_eq_true rfl) dX4_hashedInput_9 rfl ?_
  refine wd_lstore_n (j := 13) (lv' := [(3, .long u4), (0, .ref (ad 0)), (1, .long p1)]) C dX4_hashedInput_12 rfl (by decide) rfl rfl ?_
  refine wd_iconst (j := 14) (v := 0) C dX4_hashedInput_13 (by decide) rfl ?_
  refine wd_istore (j := 16) (lv' := [(5, .int (0 : Int32)), (3, .long u4), (0, .ref (ad 0)), (1, .long p1)]) C dX4_hashedInput_14 (by decide) rfl rfl ?_
  refine wd_lv (lv' := [(0, .ref (ad 0)), (3, .long u4), (5, .int (0 : Int32))]) [2, 1, 0] rfl ?_
  obtain ⟨u5, hu5, h⟩ := bnd_some h
  refine lw_X4_hashedInput_16 l D cI cD ad N hask len codes C N (u4, (0 : Int32)) u5 hu5 ?_
  refine wd_lload_n (j := 51) C 0 dX4_hashedInput_50 rfl rfl rfl ?_
  obtain rfl := Option.some.inj h
  exact wd_lret C hA hr hlk rfl rfl dX4_hashedInput_51
abbrev w_X4_digest (ad : Nat → Nat) (cI cD : ClassId) (hask : Int32) (len : Int32) (codes : Nat → Int32) (nodes : Int32) (links : Int32) (deg : Nat → Int32) (nbr : Nat → Int32) (wk : Int32) (rot : Nat → Int32) (arv : Nat → Int32) (dep : Nat → Int32) (pos : Nat → Int32) (node : Int32) (prot : Nat → Int32) (nodeA : Int32) (protA : Nat → Int32) (tri : Nat → Int32) (bst : Nat → Int32) (chs : Nat → UInt64) (nxt : Nat → UInt64) : va_W := [((ad 0), .inr (4, [.ref (ad 1), .ref (ad 3), .ref (ad 6), .ref (ad 11), .int hask, .ref (ad 16), .ref (ad 18), .ref (ad 20), .ref (ad 21), .ref (ad 22), .ref (ad 23)])), ((ad 1), .inr (1, [.ref (ad 2), .int len])), ((ad 2), .inl (cI, 40, .inl codes)), ((ad 3), .inr (0, [.ref (ad 4), .ref (ad 5), .int nodes, .int links])), ((ad 4), .inl (cI, 8, .inl deg)), ((ad 5), .inl (cI, 56, .inl nbr)), ((ad 6), .inr (3, [.ref (ad 7), .ref (ad 8), .ref (ad 9), .ref (ad 10), .int wk])), ((ad 7), .inl (cI, 8, .inl rot)), ((ad 8), .inl (cI, 8, .inl arv)), ((ad 9), .inl (cI, 56, .inl dep)), ((ad 10), .inl (cI, 4, .inl pos)), ((ad 16), .inr (2, [.ref (ad 17), .int node])), ((ad 17), .inl (cI, 8, .inl prot)), ((ad 18), .inr (2, [.ref (ad 19), .int nodeA])), ((ad 19), .inl (cI, 8, .inl protA)), ((ad 20), .inl (cI, 8, .inl tri)), ((ad 21), .inl (cI, 8, .inl bst)), ((ad 22), .inl (cD, 8, .inr (.inr (.inr (.inl chs))))), ((ad 23), .inl (cD, 8, .inr (.inr (.inr (.inl nxt)))))]
theorem kX4_digest_1 : Cond.constantLong "RotorRouter" 175 1753 ∈ wsX4_digest := List.mem_of_getElem? (i := 1) rfl
theorem kX4_digest_2 : Cond.fieldLink "RotorRouter" 19 "RotorRouter" "graph" "LRotorRouter$Graph;" ∈ wsX4_digest := List.mem_of_getElem? (i := 2) rfl
theorem kX4_digest_3 : Cond.fieldLink "RotorRouter" 86 "RotorRouter$Graph" "nodes" "I" ∈ wsX4_digest := List.mem_of_getElem? (i := 3) rfl
theorem kX4_digest_4 : Cond.fieldLink "RotorRouter" 135 "RotorRouter$Graph" "links" "I" ∈ wsX4_digest := List.mem_of_getElem? (i := 4) rfl
theorem kX4_digest_5 : Cond.fieldLink "RotorRouter" 26 "RotorRouter" "current" "LRotorRouter$State;" ∈ wsX4_digest := List.mem_of_getElem? (i := 5) rfl
theorem kX4_digest_6 : Cond.fieldLink "RotorRouter" 109 "RotorRouter$State" "walkers" "I" ∈ wsX4_digest := List.mem_of_getElem? (i := 6) rfl
theorem kX4_digest_7 : Cond.fieldLink "RotorRouter" 112 "RotorRouter$State" "positions" "[I" ∈ wsX4_digest := List.mem_of_getElem? (i := 7) rfl
theorem inX4_digest_X4 : ∀ w ∈ wsX40, w ∈ wsX4_digest := fun _ h => List.mem_cons_of_mem _ (List.mem_append_left _ (List.mem_append_left _ (List.mem_append_left _ (List.mem_append_left _ (List.mem_append_right _ h)))))
theorem inX4_digest_X0 : ∀ w ∈ wsX00, w ∈ wsX4_digest := fun _ h => List.mem_cons_of_mem _ (List.mem_append_left _ (List.mem_append_left _ (List.mem_append_left _ (List.mem_append_right _ h))))
theorem inX4_digest_X3 : ∀ w ∈ wsX30, w ∈ wsX4_digest := fun _ h => List.mem_cons_of_mem _ (List.mem_append_left _ (List.mem_append_left _ (List.mem_append_right _ h)))
set_option maxRecDepth 100000 in
set_option maxHeartbeats 4000000 in
theorem lw_X4_digest_30 (l : Launch) (D : va_G) (cI cD : ClassId) (ad : Nat → Nat) (N : Nat) (hask : Int32) (len : Int32) (codes : Nat → Int32) (links : Int32) (wk : Int32) (pos : Nat → Int32) (node : Int32) (prot : Nat → Int32) (nodeA : Int32) (protA : Nat → Int32) (tri : Nat → Int32) (bst : Nat → Int32) (chs : Nat → UInt64) (nxt : Nat → UInt64) (nodes : Int32) (deg : Nat → Int32) (nbr : Nat → Int32) (rot : Nat → Int32) (arv : Nat → Int32) (dep : Nat → Int32)  {p : Program} {e : Env} {s : State} {m : MethodId} {args : Array Value} {below : List Frame} {meth : Method} {c : Code} {A : Nat → Prop} {Q : State → Prop} (C : wd_C p m c cX4_digest 4 s args wsX4_digest RX4 D [(cI, .int), (cD, .double)] A) : ∀ (n : Nat) (st : Int64 × Int32) (E : Int64), iter (b_X4_digest_30 N nodes deg nbr rot arv dep) n st = some E → (Wd p l e { frames := 5, cells := 0, slots := 0, locals := 138 } s m args below meth c 4 D A 0 0 Q 54 [(0, .ref (ad 0)), (1, .long E)] [] (w_X4_digest ad cI cD hask len codes nodes links deg nbr wk rot arv dep pos node prot nodeA protA tri bst chs nxt)) → Wd p l e { frames := 5, cells := 0, slots := 0, locals := 138 } s m args below meth c 4 D A 0 0 Q 30 [(0, .ref (ad 0)), (1, .long st.1), (3, .int st.2)] [] (w_X4_digest ad cI cD hask len codes nodes links deg nbr wk rot arv dep pos node prot nodeA protA tri bst chs nxt) := by
  intro n
  induction n with
  | zero => intro st E h; cases h
  | succ n ih =>
    intro st E h kx
    obtain ⟨b, h, hk⟩ := iter_step h
    unfold b_X4_digest_30 at h
    refine wd_iload_n (j := 31) C 2 dX4_digest_30 rfl rfl rfl ?_
    refine wd_aload_n (j := 32) C 0 dX4_digest_31 rfl rfl rfl ?_
    refine wd_get (j := 35) (q0 := 0) (f := 1) (ci := 4) (v := .ref (ad 3)) C inX4_digest_X4 kX4_digest_2 rfl (by decide) rfl rfl dX4_digest_32 rfl ?_
    refine wd_get (j := 38) (q0 := 3) (f := 2) (ci := 0) (v := .int nodes) C inX4_digest_X0 kX4_digest_3 rfl (by decide) rfl rfl dX4_digest_35 rfl ?_
    refine wd_icmp_ge (j := 41) (t := 54) C dX4_digest_38 (by decide) rfl (fun c1 => ?_) (fun c1 => ?_)
    · replace h := (if_pos c1).symm.trans h
      obtain rfl := Option.some.inj h
      obtain rfl := hk
      refine wd_lv (lv' := [(0, .ref (ad 0)), (1, .long st.1)]) [0, 1] rfl ?_
      exact kx
    · replace h := (if_neg c1).symm.trans h
      refine wd_aload_n (j := 42) C 0 dX4_digest_41 rfl rfl rfl ?_
      refine wd_lload_n (j := 43) C 1 dX4_digest_42 rfl rfl rfl ?_
      refine wd_iload_n (j := 44) C 2 dX4_digest_43 rfl rfl rfl ?_
      obtain ⟨u2, hu2, h⟩ := bnd_some h
      refine wd_callVl (j := 47) (q0 := 0) (ci := 4) (As := [.long st.1, .int st.2]) (rest := []) (ws' := (w_X4_digest ad cI cD hask len codes nodes links deg nbr wk rot arv dep pos node prot nodeA protA tri bst chs nxt)) C (c_X4_hashedNode l D cI cD ad N hask nodes links deg nbr wk rot arv dep st.1 st.2 u2 hu2) (cwV 2 C.1.2.2.2.2 gX4_digest_X4_hashedNode rfl rfl rfl (by decide +kernel) ⟨Nat.le_of_ble_eq_true rfl, Nat.le_of_ble_eq_true rfl⟩) rfl rfl [0, 3, 4, 5, 6, 7, 8, 9] [1, 2, 10, 11, 12, 13, 14, 15, 16, 17, 18] rfl rfl rfl rfl (by decide) [11, 0, 1, 12, 13, 14, 15, 16, 17, 18, 2, 3, 4, 5, 6, 7, 8, 9, 10] rfl rfl rfl (Nat.le_of_ble_eq_true rfl) (Nat.le_of_ble_eq_true rfl) (Nat.le_of_ble_eq_true rfl) dX4_digest_44 rfl ?_
      refine wd_lstore_n (j := 48) (lv' := [(1, .long u2), (0, .ref (ad 0)), (3, .int st.2)]) C dX4_digest_47 rfl (by decide) rfl rfl ?_
      refine wd_iinc (j := 51) (lv' := [(3, .int (st.2 + 1)), (1, .long u2), (0, .ref (ad 0))]) C 2 dX4_digest_48 rfl rfl (by decide) rfl rfl ?_
      refine wd_goto (t := 30) C dX4_digest_51 (by decide) ?_
      obtain rfl := Option.some.inj h
      refine wd_lv (lv' := [(0, .ref (ad 0)), (1, .long u2), (3, .int (st.2 + 1))]) [2, 1, 0] rfl ?_
      exact ih (u2, (st.2 + 1)) E hk kx
set_option maxRecDepth 100000 in
set_option maxHeartbeats 4000000 in
theorem lw_X4_digest_69 (l : Launch) (D : va_G) (cI cD : ClassId) (ad : Nat → Nat) (N : Nat) (hask : Int32) (len : Int32) (codes : Nat → Int32) (arv : Nat → Int32) (dep : Nat → Int32) (tri : Nat → Int32) (bst : Nat → Int32) (chs : Nat → UInt64) (nxt : Nat → UInt64) (nodes : Int32) (links : Int32) (deg : Nat → Int32) (nbr : Nat → Int32) (wk : Int32) (rot : Nat → Int32) (pos : Nat → Int32)  {p : Program} {e : Env} {s : State} {m : MethodId} {args : Array Value} {below : List Frame} {meth : Method} {c : Code} {A : Nat → Prop} {Q : State → Prop} (C : wd_C p m c cX4_digest 4 s args wsX4_digest RX4 D [(cI, .int), (cD, .double)] A) : ∀ (n : Nat) (st : Int64 × Int32 × Int32 × (Nat → Int32) × Int32 × (Nat → Int32)) (E : Int64 × Int32 × (Nat → Int32) × Int32 × (Nat → Int32)), iter (b_X4_digest_69 N nodes links deg nbr wk rot pos) n st = some E → (Wd p l e { frames := 5, cells := 0, slots := 0, locals := 138 } s m args below meth c 4 D A 0 0 Q 123 [(0, .ref (ad 0)), (1, .long E.1)] [] (w_X4_digest ad cI cD hask len codes nodes links deg nbr wk rot arv dep pos E.2.1 E.2.2.1 E.2.2.2.1 E.2.2.2.2 tri bst chs nxt)) → Wd p l e { frames := 5, cells := 0, slots := 0, locals := 138 } s m args below meth c 4 D A 0 0 Q 69 [(0, .ref (ad 0)), (1, .long st.1), (3, .int st.2.1)] [] (w_X4_digest ad cI cD hask len codes nodes links deg nbr wk rot arv dep pos st.2.2.1 st.2.2.2.1 st.2.2.2.2.1 st.2.2.2.2.2 tri bst chs nxt) := by
  intro n
  induction n with
  | zero => intro st E h; cases h
  | succ n ih =>
    intro st E h kx
    obtain ⟨b, h, hk⟩ := iter_step h
    unfold b_X4_digest_69 at h
    refine wd_iload_n (j := 70) C 2 dX4_digest_69 rfl rfl rfl ?_
    refine wd_aload_n (j := 71) C 0 dX4_digest_70 rfl rfl rfl ?_
    refine wd_get (j := 74) (q0 := 0) (f := 2) (ci := 4) (v := .ref (ad 6)) C inX4_digest_X4 kX4_digest_5 rfl (by decide) rfl rfl dX4_digest_71 rfl ?_
    refine wd_get (j := 77) (q0 := 6) (f := 4) (ci := 3) (v := .int wk) C inX4_digest_X3 kX4_digest_6 rfl (by decide) rfl rfl dX4_digest_74 rfl ?_
    refine wd_icmp_ge (j := 80) (t := 123) C dX4_digest_77 (by decide) rfl (fun c3 => ?_) (fun c3 => ?_)
    · replace h := (if_pos c3).symm.trans h
      obtain rfl := Option.some.inj h
      obtain rfl := hk
      refine wd_lv (lv' := [(0, .ref (ad 0)), (1, .long st.1)]) [0, 1] rfl ?_
      exact kx
    · replace h := (if_neg c3).symm.trans h
      refine wd_lload_n (j := 81) C 1 dX4_digest_80 rfl rfl rfl ?_
      refine wd_aload_n (j := 82) C 0 dX4_digest_81 rfl rfl rfl ?_
      refine wd_get (j := 85) (q0 := 0) (f := 2) (ci := 4) (v := .ref (ad 6)) C inX4_digest_X4 kX4_digest_5 rfl (by decide) rfl rfl dX4_digest_82 rfl ?_
      refine wd_get (j := 88) (q0 := 6) (f := 3) (ci := 3) (v := .ref (ad 10)) C inX4_digest_X3 kX4_digest_7 rfl (by decide) rfl rfl dX4_digest_85 rfl ?_
      refine wd_iload_n (j := 89) C 2 dX4_digest_88 rfl rfl rfl ?_
      obtain ⟨g4, h⟩ := grd_some h
      refine wd_iald (j := 90) (q0 := 10) (t0 := 0) C rfl rfl (inB_in g4) dX4_digest_89 rfl ?_
      refine wd_i2l (j := 91) C dX4_digest_90 rfl ?_
      obtain ⟨u5, hu5, h⟩ := bnd_some h
      refine wd_callSl (j := 94) (As := [.long st.1, .long ((pos st.2.1.toNatClampNeg).toInt64)]) (rest := []) (ws' := (w_X4_digest ad cI cD hask len codes nodes links deg nbr wk rot arv dep pos st.2.2.1 st.2.2.2.1 st.2.2.2.2.1 st.2.2.2.2.2 tri bst chs nxt)) C (c_X4_hashed l D cI cD ad st.1 ((pos st.2.1.toNatClampNeg).toInt64) u5 hu5) (va_cwS 2 C.1.2.2.2.2 gX4_digest_X4_hashed rfl rfl rfl (by decide +kernel) ⟨Nat.le_of_ble_eq_true rfl, Nat.le_of_ble_eq_true rfl⟩) [] [0, 1, 2, 3, 4, 5, 6, 7, 8, 9, 10, 11, 12, 13, 14, 15, 16, 17, 18] rfl rfl rfl rfl (by decide) [0, 1, 2, 3, 4, 5, 6, 7, 8, 9, 10, 11, 12, 13, 14, 15, 16, 17, 18] rfl rfl rfl (Nat.le_of_ble_eq_true rfl) (Nat.le_of_ble_eq_true rfl) (Nat.le_of_ble_eq_true rfl) dX4_digest_91 rfl ?_
      refine wd_lstore_n (j := 95) (lv' := [(1, .long u5), (0, .ref (ad 0)), (3, .int st.2.1)]) C dX4_digest_94 rfl (by decide) rfl rfl ?_
      refine wd_lload_n (j := 96) C 0 dX4_digest_95 rfl rfl rfl ?_
      refine wd_aload_n (j := 97) C 1 dX4_digest_96 rfl rfl rfl ?_
      refine wd_iload_n (j := 98) C 2 dX4_digest_97 rfl rfl rfl ?_
      obtain ⟨u6, hu6, h⟩ := bnd_some h
      refine wd_callVi (j := 101) (q0 := 0) (ci := 4) (As := [.int st.2.1]) (rest := [.long u5]) (ws' := (w_X4_digest ad cI cD hask len codes nodes links deg nbr wk rot arv dep pos u6.2.1 u6.2.2.1 u6.2.2.2.1 u6.2.2.2.2 tri bst chs nxt)) C (c_X4_stepsToCycle l D cI cD ad N hask nodes links deg nbr wk rot pos st.2.2.1 st.2.2.2.1 st.2.2.2.2.1 st.2.2.2.2.2 st.2.1 u6 hu6) (cwV 1 C.1.2.2.2.2 gX4_digest_X4_stepsToCycle rfl rfl rfl (by decide +kernel) ⟨Nat.le_of_ble_eq_true rfl, Nat.le_of_ble_eq_true rfl⟩) rfl rfl [0, 3, 4, 5, 6, 7, 10, 11, 12, 13, 14] [1, 2, 8, 9, 15, 16, 17, 18] rfl rfl rfl rfl (by decide) [8, 0, 1, 9, 10, 11, 12, 13, 2, 3, 14, 15, 16, 17, 18, 4, 5, 6, 7] rfl rfl rfl (Nat.le_of_ble_eq_true rfl) (Nat.le_of_ble_eq_true rfl) (Nat.le_of_ble_eq_true rfl) dX4_digest_98 rfl ?_
      refine wd_i2l (j := 102) C dX4_digest_101 rfl ?_
      obtain ⟨u7, hu7, h⟩ := bnd_some h
      refine wd_callSl (j := 105) (As := [.long u5, .long u6.1.toInt64]) (rest := []) (ws' := (w_X4_digest ad cI cD hask len codes nodes links deg nbr wk rot arv dep pos u6.2.1 u6.2.2.1 u6.2.2.2.1 u6.2.2.2.2 tri bst chs nxt)) C (c_X4_hashed l D cI cD ad u5 u6.1.toInt64 u7 hu7) (va_cwS 2 C.1.2.2.2.2 gX4_digest_X4_hashed rfl rfl rfl (by decide +kernel) ⟨Nat.le_of_ble_eq_true rfl, Nat.le_of_ble_eq_true rfl⟩) [] [0, 1, 2, 3, 4, 5, 6, 7, 8, 9, 10, 11, 12, 13, 14, 15, 16, 17, 18] rfl rfl rfl rfl (by decide) [0, 1, 2, 3, 4, 5, 6, 7, 8, 9, 10, 11, 12, 13, 14, 15, 16, 17, 18] rfl rfl rfl (Nat.le_of_ble_eq_true rfl) (Nat.le_of_ble_eq_true rfl) (Nat.le_of_ble_eq_true rfl) dX4_digest_102 rfl ?_
      refine wd_lstore_n (j := 106) (lv' := [(1, .long u7), (0, .ref (ad 0)), (3, .int st.2.1)]) C dX4_digest_105 rfl (by decide) rfl rfl ?_
      refine wd_lload_n (j := 107) C 0 dX4_digest_106 rfl rfl rfl ?_
      refine wd_aload_n (j := 108) C 1 dX4_digest_107 rfl rfl rfl ?_
      refine wd_iload_n (j := 109) C 2 dX4_digest_108 rfl rfl rfl ?_
      obtain ⟨u8, hu8, h⟩ := bnd_some h
      refine wd_callVi (j := 112) (q0 := 0) (ci := 4) (As := [.int st.2.1]) (rest := [.long u7]) (ws' := (w_X4_digest ad cI cD hask len codes nodes links deg nbr wk rot arv dep pos u8.2.1 u8.2.2 u6.2.2.2.1 u6.2.2.2.2 tri bst chs nxt)) C (c_X4_coverTime l D cI cD ad N hask nodes links deg nbr wk rot pos u6.2.1 u6.2.2.1 st.2.1 u8 hu8) (cwV 1 C.1.2.2.2.2 gX4_digest_X4_coverTime rfl rfl rfl (by decide +kernel) ⟨Nat.le_of_ble_eq_true rfl, Nat.le_of_ble_eq_true rfl⟩) rfl rfl [0, 3, 4, 5, 6, 7, 10, 11, 12] [1, 2, 8, 9, 13, 14, 15, 16, 17, 18] rfl rfl rfl rfl (by decide) [10, 0, 1, 11, 12, 13, 14, 15, 2, 3, 16, 17, 18, 4, 5, 6, 7, 8, 9] rfl rfl rfl (Nat.le_of_ble_eq_true rfl) (Nat.le_of_ble_eq_true rfl) (Nat.le_of_ble_eq_true rfl) dX4_digest_109 rfl ?_
      refine wd_i2l (j := 113) C dX4_digest_112 rfl ?_
      obtain ⟨u9, hu9, h⟩ := bnd_some h
      refine wd_callSl (j := 116) (As := [.long u7, .long u8.1.toInt64]) (rest := []) (ws' := (w_X4_digest ad cI cD hask len codes nodes links deg nbr wk rot arv dep pos u8.2.1 u8.2.2 u6.2.2.2.1 u6.2.2.2.2 tri bst chs nxt)) C (c_X4_hashed l D cI cD ad u7 u8.1.toInt64 u9 hu9) (va_cwS 2 C.1.2.2.2.2 gX4_digest_X4_hashed rfl rfl rfl (by decide +kernel) ⟨Nat.le_of_ble_eq_true rfl, Nat.le_of_ble_eq_true rfl⟩) [] [0, 1, 2, 3, 4, 5, 6, 7, 8, 9, 10, 11, 12, 13, 14, 15, 16, 17, 18] rfl rfl rfl rfl (by decide) [0, 1, 2, 3, 4, 5, 6, 7, 8, 9, 10, 11, 12, 13, 14, 15, 16, 17, 18] rfl rfl rfl (Nat.le_of_ble_eq_true rfl) (Nat.le_of_ble_eq_true rfl) (Nat.le_of_ble_eq_true rfl) dX4_digest_113 rfl ?_
      refine wd_lstore_n (j := 117) (lv' := [(1, .long u9), (0, .ref (ad 0)), (3, .int st.2.1)]) C dX4_digest_116 rfl (by decide) rfl rfl ?_
      refine wd_iinc (j := 120) (lv' := [(3, .int (st.2.1 + 1)), (1, .long u9), (0, .ref (ad 0))]) C 2 dX4_digest_117 rfl rfl (by decide) rfl rfl ?_
      refine wd_goto (t := 69) C dX4_digest_120 (by decide) ?_
      obtain rfl := Option.some.inj h
      refine wd_lv (lv' := [(0, .ref (ad 0)), (1, .long u9), (3, .int (st.2.1 + 1))]) [2, 1, 0] rfl ?_
      exact ih (u9, (st.2.1 + 1), u8.2.1, u8.2.2, u6.2.2.2.1, u6.2.2.2.2) E hk kx
set_option maxRecDepth 100000 in
set_option maxHeartbeats 4000000 in
theorem c_X4_digest (l : Launch) (D : va_G) (cI cD : ClassId) (ad : Nat → Nat) (N : Nat) (hask : Int32) (len : Int32) (codes : Nat → Int32) (nodes : Int32) (links : Int32) (deg : Nat → Int32) (nbr : Nat → Int32) (wk : Int32) (rot : Nat → Int32) (arv : Nat → Int32) (dep : Nat → Int32) (pos : Nat → Int32) (node : Int32) (prot : Nat → Int32) (nodeA : Int32) (protA : Nat → Int32) (tri : Nat → Int32) (bst : Nat → Int32) (chs : Nat → UInt64) (nxt : Nat → UInt64)  (u : Int64 × Int32 × (Nat → Int32) × Int32 × (Nat → Int32) × (Nat → Int32) × (Nat → Int32) × (Nat → UInt64) × (Nat → UInt64)) (h : f_X4_digest N len codes nodes links deg nbr wk rot arv dep pos node prot nodeA protA tri bst chs nxt = some u) : MetL l yX4_digest wsX4_digest { frames := 5, cells := 0, slots := 0, locals := 138 } D [(cI, .int), (cD, .double)] [.ref (ad 0)] (w_X4_digest ad cI cD hask len codes nodes links deg nbr wk rot arv dep pos node prot nodeA protA tri bst chs nxt) u.1 (w_X4_digest ad cI cD hask len codes nodes links deg nbr wk rot arv dep pos u.2.1 u.2.2.1 u.2.2.2.1 u.2.2.2.2.1 u.2.2.2.2.2.1 u.2.2.2.2.2.2.1 u.2.2.2.2.2.2.2.1 u.2.2.2.2.2.2.2.2) := by
  refine MetL.of (own := RX4) (cc := cX4_digest) (nL := 4) (ret := (some .long)) (by decide) rfl rfl (Nat.le_of_ble_eq_true rfl) rfl ?_
  intro p e s m args below meth c A hA C hr hlk
  unfold f_X4_digest at h
  refine wd_ldc2 (j := 3) C dX4_digest_0 kX4_digest_1 rfl ?_
  refine wd_aload_n (j := 4) C 0 dX4_digest_3 rfl rfl rfl ?_
  refine wd_get (j := 7) (q0 := 0) (f := 1) (ci := 4) (v := .ref (ad 3)) C inX4_digest_X4 kX4_digest_2 rfl (by decide) rfl rfl dX4_digest_4 rfl ?_
  refine wd_get (j := 10) (q0 := 3) (f := 2) (ci := 0) (v := .int nodes) C inX4_digest_X0 kX4_digest_3 rfl (by decide) rfl rfl dX4_digest_7 rfl ?_
  refine wd_i2l (j := 11) C dX4_digest_10 rfl ?_
  obtain ⟨u10, hu10, h⟩ := bnd_some h
  refine wd_callSl (j := 14) (As := [.long (1753 : Int64), .long nodes.toInt64]) (rest := []) (ws' := (w_X4_digest ad cI cD hask len codes nodes links deg nbr wk rot arv dep pos node prot nodeA protA tri bst chs nxt)) C (c_X4_hashed l D cI cD ad (1753 : Int64) nodes.toInt64 u10 hu10) (va_cwS 2 C.1.2.2.2.2 gX4_digest_X4_hashed rfl rfl rfl (by decide +kernel) ⟨Nat.le_of_ble_eq_true rfl, Nat.le_of_ble_eq_true rfl⟩) [] [0, 1, 2, 3, 4, 5, 6, 7, 8, 9, 10, 11, 12, 13, 14, 15, 16, 17, 18] rfl rfl rfl rfl (by decide) [0, 1, 2, 3, 4, 5, 6, 7, 8, 9, 10, 11, 12, 13, 14, 15, 16, 17, 18] rfl rfl rfl (Nat.le_of_ble_eq_true rfl) (Nat.le_of_ble_eq_true rfl) (Nat.le_of_ble_eq_true rfl) dX4_digest_11 rfl ?_
  refine wd_lstore_n (j := 15) (lv' := [(1, .long u10), (0, .ref (ad 0))]) C dX4_digest_14 rfl (by decide) rfl rfl ?_
  refine wd_lload_n (j := 16) C 0 dX4_digest_15 rfl rfl rfl ?_
  refine wd_aload_n (j := 17) C 1 dX4_digest_16 rfl rfl rfl ?_
  refine wd_get (j := 20) (q0 := 0) (f := 1) (ci := 4) (v := .ref (ad 3)) C inX4_digest_X4 kX4_digest_2 rfl (by decide) rfl rfl dX4_digest_17 rfl ?_
  refine wd_get (j := 23) (q0 := 3) (f := 3) (ci := 0) (v := .int links) C inX4_digest_X0 kX4_digest_4 rfl (by decide) rfl rfl dX4_digest_20 rfl ?_
  refine wd_i2l (j := 24) C dX4_digest_23 rfl ?_
  obtain ⟨u11, hu11, h⟩ := bnd_some h
  refine wd_callSl (j := 27) (As := [.long u10, .long links.toInt64]) (rest := []) (ws' := (w_X4_digest ad cI cD hask len codes nodes links deg nbr wk rot arv dep pos node prot nodeA protA tri bst chs nxt)) C (c_X4_hashed l D cI cD ad u10 links.toInt64 u11 hu11) (va_cwS 2 C.1.2.2.2.2 gX4_digest_X4_hashed rfl rfl rfl (by decide +kernel) ⟨Nat.le_of_ble_eq_true rfl, Nat.le_of_ble_eq_true rfl⟩) [] [0, 1, 2, 3, 4, 5, 6, 7, 8, 9, 10, 11, 12, 13, 14, 15, 16, 17, 18] rfl rfl rfl rfl (by decide) [0, 1, 2, 3, 4, 5, 6, 7, 8, 9, 10, 11, 12, 13, 14, 15, 16, 17, 18] rfl rfl rfl (Nat.le_of_ble_eq_true rfl) (Nat.le_of_ble_eq_true rfl) (Nat.le_of_ble_eq_true rfl) dX4_digest_24 rfl ?_
  refine wd_lstore_n (j := 28) (lv' := [(1, .long u11), (0, .ref (ad 0))]) C dX4_digest_27 rfl (by decide) rfl rfl ?_
  refine wd_iconst (j := 29) (v := 0) C dX4_digest_28 (by decide) rfl ?_
  refine wd_istore_n (j := 30) (lv' := [(3, .int (0 : Int32)), (1, .long u11), (0, .ref (ad 0))]) C dX4_digest_29 rfl (by decide) rfl rfl ?_
  refine wd_lv (lv' := [(0, .ref (ad 0)), (1, .long u11), (3, .int (0 : Int32))]) [2, 1, 0] rfl ?_
  obtain ⟨u12, hu12, h⟩ := bnd_some h
  refine lw_X4_digest_30 l D cI cD ad N hask len codes links wk pos node prot nodeA protA tri bst chs nxt nodes deg nbr rot arv dep C N (u11, (0 : Int32)) u12 hu12 ?_
  refine wd_lload_n (j := 55) C 1 dX4_digest_54 rfl rfl rfl ?_
  refine wd_aload_n (j := 56) C 0 dX4_digest_55 rfl rfl rfl ?_
  refine wd_get (j := 59) (q0 := 0) (f := 2) (ci := 4) (v := .ref (ad 6)) C inX4_digest_X4 kX4_digest_5 rfl (by decide) rfl rfl dX4_digest_56 rfl ?_
  refine wd_get (j := 62) (q0 := 6) (f := 4) (ci := 3) (v := .int wk) C inX4_digest_X3 kX4_digest_6 rfl (by decide) rfl rfl dX4_digest_59 rfl ?_
  refine wd_i2l (j := 63) C dX4_digest_62 rfl ?_
  obtain ⟨u13, hu13, h⟩ := bnd_some h
  refine wd_callSl (j := 66) (As := [.long u12, .long wk.toInt64]) (rest := []) (ws' := (w_X4_digest ad cI cD hask len codes nodes links deg nbr wk rot arv dep pos node prot nodeA protA tri bst chs nxt)) C (c_X4_hashed l D cI cD ad u12 wk.toInt64 u13 hu13) (va_cwS 2 C.1.2.2.2.2 gX4_digest_X4_hashed rfl rfl rfl (by decide +kernel) ⟨Nat.le_of_ble_eq_true rfl, Nat.le_of_ble_eq_true rfl⟩) [] [0, 1, 2, 3, 4, 5, 6, 7, 8, 9, 10, 11, 12, 13, 14, 15, 16, 17, 18] rfl rfl rfl rfl (by decide) [0, 1, 2, 3, 4, 5, 6, 7, 8, 9, 10, 11, 12, 13, 14, 15, 16, 17, 18] rfl rfl rfl (Nat.le_of_ble_eq_true rfl) (Nat.le_of_ble_eq_true rfl) (Nat.le_of_ble_eq_true rfl) dX4_digest_63 rfl ?_
  refine wd_lstore_n (j := 67) (lv' := [(1, .long u13), (0, .ref (ad 0))]) C dX4_digest_66 rfl (by decide) rfl rfl ?_
  refine wd_iconst (j := 68) (v := 0) C dX4_digest_67 (by decide) rfl ?_
  refine wd_istore_n (j := 69) (lv' := [(3, .int (0 : Int32)), (1, .long u13), (0, .ref (ad 0))]) C dX4_digest_68 rfl (by decide) rfl rfl ?_
  refine wd_lv (lv' := [(0, .ref (ad 0)), (1, .long u13), (3, .int (0 : Int32))]) [2, 1, 0] rfl ?_
  obtain ⟨u14, hu14, h⟩ := bnd_some h
  refine lw_X4_digest_69 l D cI cD ad N hask len codes arv dep tri bst chs nxt nodes links deg nbr wk rot pos C N (u13, (0 : Int32), node, prot, nodeA, protA) u14 hu14 ?_
  refine wd_aload_n (j := 124) C 0 dX4_digest_123 rfl rfl rfl ?_
  refine wd_get (j := 127) (q0 := 0) (f := 1) (ci := 4) (v := .ref (ad 3)) C inX4_digest_X4 kX4_digest_2 rfl (by decide) rfl rfl dX4_digest_124 rfl ?_
  refine wd_get (j := 130) (q0 := 3) (f := 2) (ci := 0) (v := .int nodes) C inX4_digest_X0 kX4_digest_3 rfl (by decide) rfl rfl dX4_digest_127 rfl ?_
  refine wd_if_le (j := 133) (t := 139) C dX4_digest_130 (by decide) rfl (fun c15 => ?_) (fun c15 => ?_)
  · replace h := (if_pos c15).symm.trans h
    refine wd_aload_n (j := 140) C 0 dX4_digest_139 rfl rfl rfl ?_
    refine wd_lload_n (j := 141) C 1 dX4_digest_140 rfl rfl rfl ?_
    obtain ⟨u16, hu16, h⟩ := bnd_some h
    refine wd_callVl (j := 144) (q0 := 0) (ci := 4) (As := [.long u14.1]) (rest := []) (ws' := (w_X4_digest ad cI cD hask len codes nodes links deg nbr wk rot arv dep pos u14.2.1 u14.2.2.1 u14.2.2.2.1 u14.2.2.2.2 tri bst chs nxt)) C (c_X4_hashedInput l D cI cD ad N hask len codes u14.1 u16 hu16) (cwV 1 C.1.2.2.2.2 gX4_digest_X4_hashedInput rfl rfl rfl (by decide +kernel) ⟨Nat.le_of_ble_eq_true rfl, Nat.le_of_ble_eq_true rfl⟩) rfl rfl [0, 1, 2] [3, 4, 5, 6, 7, 8, 9, 10, 11, 12, 13, 14, 15, 16, 17, 18] rfl rfl rfl rfl (by decide) [16, 17, 18, 0, 1, 2, 3, 4, 5, 6, 7, 8, 9, 10, 11, 12, 13, 14, 15] rfl rfl rfl (Nat.le_of_ble_eq_true rfl) (Nat.le_of_ble_eq_true rfl) (Nat.le_of_ble_eq_true rfl) dX4_digest_141 rfl ?_
    obtain rfl := Option.some.inj h
    exact wd_lret C hA hr hlk rfl rfl dX4_digest_144
  · replace h := (if_neg c15).symm.trans h
    refine wd_aload_n (j := 134) C 0 dX4_digest_133 rfl rfl rfl ?_
    refine wd_lload_n (j := 135) C 1 dX4_digest_134 rfl rfl rfl ?_
    obtain ⟨u17, hu17, h⟩ := bnd_some h
    refine wd_callVl (j := 138) (q0 := 0) (ci := 4) (As := [.long u14.1]) (rest := []) (ws' := (w_X4_digest ad cI cD hask len codes nodes links deg nbr wk rot arv dep pos u17.2.1 u17.2.2.1 u14.2.2.2.1 u14.2.2.2.2 u17.2.2.2.1 u17.2.2.2.2.1 u17.2.2.2.2.2.1 u17.2.2.2.2.2.2)) C (c_X4_hashedAnalysis l D cI cD ad N hask nodes links deg nbr u14.2.1 u14.2.2.1 tri bst chs nxt u14.1 u17 hu17) (cwV 1 C.1.2.2.2.2 gX4_digest_X4_hashedAnalysis rfl rfl rfl (by decide +kernel) ⟨Nat.le_of_ble_eq_true rfl, Nat.le_of_ble_eq_true rfl⟩) rfl rfl [0, 3, 4, 5, 11, 12, 15, 16, 17, 18] [1, 2, 6, 7, 8, 9, 10, 13, 14] rfl rfl rfl rfl (by decide) [9, 0, 1, 10, 11, 12, 2, 3, 4, 5, 6, 13, 14, 7, 8, 15, 16, 17, 18] rfl rfl rfl (Nat.le_of_ble_eq_true rfl) (Nat.le_of_ble_eq_true rfl) (Nat.le_of_ble_eq_true rfl) dX4_digest_135 rfl ?_
    refine wd_lstore_n (j := 139) (lv' := [(1, .long u17.1), (0, .ref (ad 0))]) C dX4_digest_138 rfl (by decide) rfl rfl ?_
    refine wd_aload_n (j := 140) C 1 dX4_digest_139 rfl rfl rfl ?_
    refine wd_lload_n (j := 141) C 0 dX4_digest_140 rfl rfl rfl ?_
    obtain ⟨u18, hu18, h⟩ := bnd_some h
    refine wd_callVl (j := 144) (q0 := 0) (ci := 4) (As := [.long u17.1]) (rest := []) (ws' := (w_X4_digest ad cI cD hask len codes nodes links deg nbr wk rot arv dep pos u17.2.1 u17.2.2.1 u14.2.2.2.1 u14.2.2.2.2 u17.2.2.2.1 u17.2.2.2.2.1 u17.2.2.2.2.2.1 u17.2.2.2.2.2.2)) C (c_X4_hashedInput l D cI cD ad N hask len codes u17.1 u18 hu18) (cwV 1 C.1.2.2.2.2 gX4_digest_X4_hashedInput rfl rfl rfl (by decide +kernel) ⟨Nat.le_of_ble_eq_true rfl, Nat.le_of_ble_eq_true rfl⟩) rfl rfl [0, 1, 2] [3, 4, 5, 6, 7, 8, 9, 10, 11, 12, 13, 14, 15, 16, 17, 18] rfl rfl rfl rfl (by decide) [16, 17, 18, 0, 1, 2, 3, 4, 5, 6, 7, 8, 9, 10, 11, 12, 13, 14, 15] rfl rfl rfl (Nat.le_of_ble_eq_true rfl) (Nat.le_of_ble_eq_true rfl) (Nat.le_of_ble_eq_true rfl) dX4_digest_141 rfl ?_
    obtain rfl := Option.some.inj h
    exact wd_lret C hA hr hlk rfl rfl dX4_digest_144
