abbrev w_X5_within (ad : Nat → Nat) (cI cD : ClassId)  : va_W := []
set_option maxRecDepth 100000 in
set_option maxHeartbeats 4000000 in
theorem c_X5_within (l : Launch) (D : va_G) (cI cD : ClassId) (ad : Nat → Nat)  (p0 : Int32) (p1 : Int32) (p2 : Int32) (u : Int32) (h : f_X5_within p0 p1 p2 = some u) : MetI l yX5_within wsX5_within { frames := 0, cells := 0, slots := 0, locals := 0 } D [(cI, .int), (cD, .double)] [.int p0, .int p1, .int p2] (w_X5_within ad cI cD) u (w_X5_within ad cI cD) := by
  refine MetI.of (own := RX5) (cc := cX5_within) (nL := 3) (ret := (some .boolean)) (by decide) rfl rfl (Nat.le_of_ble_eq_true rfl) rfl ?_
  intro p e s m args below meth c A hA C hr hlk
  unfold f_X5_within at h
  refine wd_iload_n (j := 1) C 0 dX5_within_0 rfl rfl rfl ?_
  refine wd_iload_n (j := 2) C 1 dX5_within_1 rfl rfl rfl ?_
  refine wd_icmp_lt (j := 5) (t := 14) C dX5_within_2 (by decide) rfl (fun c1 => ?_) (fun c1 => ?_)
  · replace h := (if_pos c1).symm.trans h
    refine wd_iconst (j := 15) (v := 0) C dX5_within_14 (by decide) rfl ?_
    obtain rfl := Option.some.inj h
    exact wd_iret C hA hr hlk rfl rfl rfl dX5_within_15
  · replace h := (if_neg c1).symm.trans h
    refine wd_iload_n (j := 6) C 0 dX5_within_5 rfl rfl rfl ?_
    refine wd_iload_n (j := 7) C 2 dX5_within_6 rfl rfl rfl ?_
    refine wd_icmp_gt (j := 10) (t := 14) C dX5_within_7 (by decide) rfl (fun c2 => ?_) (fun c2 => ?_)
    · replace h := (if_pos c2).symm.trans h
      refine wd_iconst (j := 15) (v := 0) C dX5_within_14 (by decide) rfl ?_
      obtain rfl := Option.some.inj h
      exact wd_iret C hA hr hlk rfl rfl rfl dX5_within_15
    · replace h := (if_neg c2).symm.trans h
      refine wd_iconst (j := 11) (v := 1) C dX5_within_10 (by decide) rfl ?_
      refine wd_goto (t := 15) C dX5_within_11 (by decide) ?_
      obtain rfl := Option.some.inj h
      exact wd_iret C hA hr hlk rfl rfl rfl dX5_within_15
abbrev w_X5_append (ad : Nat → Nat) (cI cD : ClassId) (mlen : Int32) (mnodes : Int32) (mlinks : Int32) (mwk : Int32) (bcode : Int32) (hass : Int32) (kwk : Int32) (hsh : Int64) (buf : Nat → Int32) : va_W := [((ad 0), .inr (5, [.int mlen, .ref (ad 1), .int mnodes, .int mlinks, .ref (ad 2), .ref (ad 3), .ref (ad 4), .int mwk, .ref (ad 5), .ref (ad 6), .ref (ad 7), .ref (ad 8), .ref (ad 9), .int bcode, .ref (ad 10), .ref (ad 11), .int hass, .int kwk, .ref (ad 12), .ref (ad 13), .ref (ad 14), .ref (ad 15), .long hsh])), ((ad 1), .inl (cI, 40, .inl buf))]
theorem kX5_append_1 : Cond.fieldLink "RotorRouterModel" 60 "RotorRouterModel" "length" "I" ∈ wsX5_append := List.mem_of_getElem? (i := 1) rfl
theorem kX5_append_2 : Cond.fieldLink "RotorRouterModel" 7 "RotorRouterModel" "buffer" "[I" ∈ wsX5_append := List.mem_of_getElem? (i := 2) rfl
theorem inX5_append_X5 : ∀ w ∈ wsX50, w ∈ wsX5_append := fun _ h => List.mem_cons_of_mem _ (List.mem_append_right _ h)
set_option maxRecDepth 100000 in
set_option maxHeartbeats 4000000 in
theorem c_X5_append (l : Launch) (D : va_G) (cI cD : ClassId) (ad : Nat → Nat) (mlen : Int32) (mnodes : Int32) (mlinks : Int32) (mwk : Int32) (bcode : Int32) (hass : Int32) (kwk : Int32) (hsh : Int64) (buf : Nat → Int32) (p1 : Int32) (u : Int32 × Int32 × (Nat → Int32)) (h : f_X5_append mlen buf p1 = some u) : MetI l yX5_append wsX5_append { frames := 1, cells := 0, slots := 0, locals := 22 } D [(cI, .int), (cD, .double)] [.ref (ad 0), .int p1] (w_X5_append ad cI cD mlen mnodes mlinks mwk bcode hass kwk hsh buf) u.1 (w_X5_append ad cI cD u.2.1 mnodes mlinks mwk bcode hass kwk hsh u.2.2) := by
  refine MetI.of (own := RX5) (cc := cX5_append) (nL := 2) (ret := (some .int)) (by decide) rfl rfl (Nat.le_of_ble_eq_true rfl) rfl ?_
  intro p e s m args below meth c A hA C hr hlk
  unfold f_X5_append at h
  refine wd_iload_n (j := 1) C 1 dX5_append_0 rfl rfl rfl ?_
  refine wd_bipush (j := 3) (v := 32) C dX5_append_1 (by decide) rfl ?_
  refine wd_bipush (j := 5) (v := 126) C dX5_append_3 (by decide) rfl ?_
  obtain ⟨u1, hu1, h⟩ := bnd_some h
  refine wd_callSi (j := 8) (As := [.int p1, .int (32 : Int32), .int (126 : Int32)]) (rest := []) (ws' := (w_X5_append ad cI cD mlen mnodes mlinks mwk bcode hass kwk hsh buf)) C (c_X5_within l D cI cD ad p1 (32 : Int32) (126 : Int32) u1 hu1) (va_cwS 3 C.1.2.2.2.2 gX5_append_X5_within rfl rfl rfl (by decide +kernel) ⟨Nat.le_of_ble_eq_true rfl, Nat.le_of_ble_eq_true rfl⟩) [] [0, 1] rfl rfl rfl rfl (by decide) [0, 1] rfl rfl rfl (Nat.le_of_ble_eq_true rfl) (Nat.le_of_ble_eq_true rfl) (Nat.le_of_ble_eq_true rfl) dX5_append_5 rfl ?_
  refine wd_if_ne (j := 11) (t := 13) C dX5_append_8 (by decide) rfl (fun c2 => ?_) (fun c2 => ?_)
  · replace h := (if_neg c2).symm.trans h
    refine wd_aload_n (j := 14) C 0 dX5_append_13 rfl rfl rfl ?_
    refine wd_get (j := 17) (q0 := 0) (f := 0) (ci := 5) (v := .int mlen) C inX5_append_X5 kX5_append_1 rfl (by decide) rfl rfl dX5_append_14 rfl ?_
    refine wd_bipush (j := 19) (v := 40) C dX5_append_17 (by decide) rfl ?_
    refine wd_icmp_ne (j := 22) (t := 25) C dX5_append_19 (by decide) rfl (fun c3 => ?_) (fun c3 => ?_)
    · replace h := (if_neg c3).symm.trans h
      refine wd_aload_n (j := 26) C 0 dX5_append_25 rfl rfl rfl ?_
      refine wd_get (j := 29) (q0 := 0) (f := 1) (ci := 5) (v := .ref (ad 1)) C inX5_append_X5 kX5_append_2 rfl (by decide) rfl rfl dX5_append_26 rfl ?_
      refine wd_aload_n (j := 30) C 0 dX5_append_29 rfl rfl rfl ?_
      refine wd_get (j := 33) (q0 := 0) (f := 0) (ci := 5) (v := .int mlen) C inX5_append_X5 kX5_append_1 rfl (by decide) rfl rfl dX5_append_30 rfl ?_
      refine wd_iload_n (j := 34) C 1 dX5_append_33 rfl rfl rfl ?_
      obtain ⟨g4, h⟩ := grd_some h
      refine wd_iast (j := 35) (q0 := 1) (t0 := 0) (ws' := (w_X5_append ad cI cD mlen mnodes mlinks mwk bcode hass kwk hsh (upd buf mlen.toNatClampNeg p1))) C rfl rfl (inB_in g4) rfl dX5_append_34 rfl ?_
      refine wd_aload_n (j := 36) C 0 dX5_append_35 rfl rfl rfl ?_
      refine wd_dup (j := 37) C dX5_append_36 rfl rfl ?_
      refine wd_get (j := 40) (q0 := 0) (f := 0) (ci := 5) (v := .int mlen) C inX5_append_X5 kX5_append_1 rfl (by decide) rfl rfl dX5_append_37 rfl ?_
      refine wd_iconst (j := 41) (v := 1) C dX5_append_40 (by decide) rfl ?_
      refine wd_iadd (j := 42) C dX5_append_41 rfl ?_
      refine wd_put (j := 45) (q0 := 0) (f := 0) (ci := 5) (ws' := (w_X5_append ad cI cD (mlen + (1 : Int32)) mnodes mlinks mwk bcode hass kwk hsh (upd buf mlen.toNatClampNeg p1))) C inX5_append_X5 tyX5 tyX5_ok nmX5 kX5_append_1 rfl (by decide) rfl rfl rfl rfl (Nat.le_of_ble_eq_true rfl) rfl dX5_append_42 rfl ?_
      refine wd_aload_n (j := 46) C 0 dX5_append_45 rfl rfl rfl ?_
      refine wd_get (j := 49) (q0 := 0) (f := 0) (ci := 5) (v := .int (mlen + (1 : Int32))) C inX5_append_X5 kX5_append_1 rfl (by decide) rfl rfl dX5_append_46 rfl ?_
      obtain rfl := Option.some.inj h
      exact wd_iret C hA hr hlk rfl rfl rfl dX5_append_49
    · replace h := (if_pos c3).symm.trans h
      refine wd_bipush (j := 24) (v := -2) C dX5_append_22 (by decide) rfl ?_
      obtain rfl := Option.some.inj h
      exact wd_iret C hA hr hlk rfl rfl rfl dX5_append_24
  · replace h := (if_pos c2).symm.trans h
    refine wd_iconst (j := 12) (v := -1) C dX5_append_11 (by decide) rfl ?_
    obtain rfl := Option.some.inj h
    exact wd_iret C hA hr hlk rfl rfl rfl dX5_append_12
abbrev w_X5_clearInput (ad : Nat → Nat) (cI cD : ClassId) (mlen : Int32) (mnodes : Int32) (mlinks : Int32) (mwk : Int32) (bcode : Int32) (hass : Int32) (kwk : Int32) (hsh : Int64) : va_W := [((ad 0), .inr (5, [.int mlen, .ref (ad 1), .int mnodes, .int mlinks, .ref (ad 2), .ref (ad 3), .ref (ad 4), .int mwk, .ref (ad 5), .ref (ad 6), .ref (ad 7), .ref (ad 8), .ref (ad 9), .int bcode, .ref (ad 10), .ref (ad 11), .int hass, .int kwk, .ref (ad 12), .ref (ad 13), .ref (ad 14), .ref (ad 15), .long hsh]))]
theorem kX5_clearInput_1 : Cond.fieldLink "RotorRouterModel" 60 "RotorRouterModel" "length" "I" ∈ wsX5_clearInput := List.mem_of_getElem? (i := 1) rfl
theorem inX5_clearInput_X5 : ∀ w ∈ wsX50, w ∈ wsX5_clearInput := fun _ h => List.mem_cons_of_mem _ (List.mem_append_right _ h)
set_option maxRecDepth 100000 in
set_option maxHeartbeats 4000000 in
theorem c_X5_clearInput (l : Launch) (D : va_G) (cI cD : ClassId) (ad : Nat → Nat) (mlen : Int32) (mnodes : Int32) (mlinks : Int32) (mwk : Int32) (bcode : Int32) (hass : Int32) (kwk : Int32) (hsh : Int64)  (u : Int32 × Int32) (h : f_X5_clearInput mlen = some u) : MetI l yX5_clearInput wsX5_clearInput { frames := 0, cells := 0, slots := 0, locals := 0 } D [(cI, .int), (cD, .double)] [.ref (ad 0)] (w_X5_clearInput ad cI cD mlen mnodes mlinks mwk bcode hass kwk hsh) u.1 (w_X5_clearInput ad cI cD u.2 mnodes mlinks mwk bcode hass kwk hsh) := by
  refine MetI.of (own := RX5) (cc := cX5_clearInput) (nL := 2) (ret := (some .int)) (by decide) rfl rfl (Nat.le_of_ble_eq_true rfl) rfl ?_
  intro p e s m args below meth c A hA C hr hlk
  unfold f_X5_clearInput at h
  refine wd_aload_n (j := 1) C 0 dX5_clearInput_0 rfl rfl rfl ?_
  refine wd_get (j := 4) (q0 := 0) (f := 0) (ci := 5) (v := .int mlen) C inX5_clearInput_X5 kX5_clearInput_1 rfl (by decide) rfl rfl dX5_clearInput_1 rfl ?_
  refine wd_istore_n (j := 5) (lv' := [(1, .int mlen), (0, .ref (ad 0))]) C dX5_clearInput_4 rfl (by decide) rfl rfl ?_
  refine wd_aload_n (j := 6) C 1 dX5_clearInput_5 rfl rfl rfl ?_
  refine wd_iconst (j := 7) (v := 0) C dX5_clearInput_6 (by decide) rfl ?_
  refine wd_put (j := 10) (q0 := 0) (f := 0) (ci := 5) (ws' := (w_X5_clearInput ad cI cD (0 : Int32) mnodes mlinks mwk bcode hass kwk hsh)) C inX5_clearInput_X5 tyX5 tyX5_ok nmX5 kX5_clearInput_1 rfl (by decide) rfl rfl rfl rfl (Nat.le_of_ble_eq_true rfl) rfl dX5_clearInput_7 rfl ?_
  refine wd_iload_n (j := 11) C 0 dX5_clearInput_10 rfl rfl rfl ?_
  obtain rfl := Option.some.inj h
  exact wd_iret C hA hr hlk rfl rfl rfl dX5_clearInput_11
abbrev w_X5_isNodeDigit (ad : Nat → Nat) (cI cD : ClassId) (mlen : Int32) (mnodes : Int32) (mlinks : Int32) (mwk : Int32) (bcode : Int32) (hass : Int32) (kwk : Int32) (hsh : Int64) (buf : Nat → Int32) : va_W := [((ad 0), .inr (5, [.int mlen, .ref (ad 1), .int mnodes, .int mlinks, .ref (ad 2), .ref (ad 3), .ref (ad 4), .int mwk, .ref (ad 5), .ref (ad 6), .ref (ad 7), .ref (ad 8), .ref (ad 9), .int bcode, .ref (ad 10), .ref (ad 11), .int hass, .int kwk, .ref (ad 12), .ref (ad 13), .ref (ad 14), .ref (ad 15), .long hsh])), ((ad 1), .inl (cI, 40, .inl buf))]
theorem kX5_isNodeDigit_1 : Cond.fieldLink "RotorRouterModel" 7 "RotorRouterModel" "buffer" "[I" ∈ wsX5_isNodeDigit := List.mem_of_getElem? (i := 1) rfl
theorem inX5_isNodeDigit_X5 : ∀ w ∈ wsX50, w ∈ wsX5_isNodeDigit := fun _ h => List.mem_cons_of_mem _ (List.mem_append_right _ h)
set_option maxRecDepth 100000 in
set_option maxHeartbeats 4000000 in
theorem c_X5_isNodeDigit (l : Launch) (D : va_G) (cI cD : ClassId) (ad : Nat → Nat) (mlen : Int32) (mnodes : Int32) (mlinks : Int32) (mwk : Int32) (bcode : Int32) (hass : Int32) (kwk : Int32) (hsh : Int64) (buf : Nat → Int32) (p1 : Int32) (u : Int32) (h : f_X5_isNodeDigit buf p1 = some u) : MetI l yX5_isNodeDigit wsX5_isNodeDigit { frames := 0, cells := 0, slots := 0, locals := 0 } D [(cI, .int), (cD, .double)] [.ref (ad 0), .int p1] (w_X5_isNodeDigit ad cI cD mlen mnodes mlinks mwk bcode hass kwk hsh buf) u (w_X5_isNodeDigit ad cI cD mlen mnodes mlinks mwk bcode hass kwk hsh buf) := by
  refine MetI.of (own := RX5) (cc := cX5_isNodeDigit) (nL := 2) (ret := (some .boolean)) (by decide) rfl rfl (Nat.le_of_ble_eq_true rfl) rfl ?_
  intro p e s m args below meth c A hA C hr hlk
  unfold f_X5_isNodeDigit at h
  refine wd_aload_n (j := 1) C 0 dX5_isNodeDigit_0 rfl rfl rfl ?_
  refine wd_get (j := 4) (q0 := 0) (f := 1) (ci := 5) (v := .ref (ad 1)) C inX5_isNodeDigit_X5 kX5_isNodeDigit_1 rfl (by decide) rfl rfl dX5_isNodeDigit_1 rfl ?_
  refine wd_iload_n (j := 5) C 1 dX5_isNodeDigit_4 rfl rfl rfl ?_
  obtain ⟨g1, h⟩ := grd_some h
  refine wd_iald (j := 6) (q0 := 1) (t0 := 0) C rfl rfl (inB_in g1) dX5_isNodeDigit_5 rfl ?_
  refine wd_bipush (j := 8) (v := 48) C dX5_isNodeDigit_6 (by decide) rfl ?_
  refine wd_icmp_lt (j := 11) (t := 30) C dX5_isNodeDigit_8 (by decide) rfl (fun c2 => ?_) (fun c2 => ?_)
  · replace h := (if_pos c2).symm.trans h
    refine wd_iconst (j := 31) (v := 0) C dX5_isNodeDigit_30 (by decide) rfl ?_
    obtain rfl := Option.some.inj h
    exact wd_iret C hA hr hlk rfl rfl rfl dX5_isNodeDigit_31
  · replace h := (if_neg c2).symm.trans h
    refine wd_aload_n (j := 12) C 0 dX5_isNodeDigit_11 rfl rfl rfl ?_
    refine wd_get (j := 15) (q0 := 0) (f := 1) (ci := 5) (v := .ref (ad 1)) C inX5_isNodeDigit_X5 kX5_isNodeDigit_1 rfl (by decide) rfl rfl dX5_isNodeDigit_12 rfl ?_
    refine wd_iload_n (j := 16) C 1 dX5_isNodeDigit_15 rfl rfl rfl ?_
    obtain ⟨g3, h⟩ := grd_some h
    refine wd_iald (j := 17) (q0 := 1) (t0 := 0) C rfl rfl (inB_in g3) dX5_isNodeDigit_16 rfl ?_
    refine wd_aload_n (j := 18) C 0 dX5_isNodeDigit_17 rfl rfl rfl ?_
    refine wd_get (j := 21) (q0 := 0) (f := 1) (ci := 5) (v := .ref (ad 1)) C inX5_isNodeDigit_X5 kX5_isNodeDigit_1 rfl (by decide) rfl rfl dX5_isNodeDigit_18 rfl ?_
    refine wd_iconst (j := 22) (v := 0) C dX5_isNodeDigit_21 (by decide) rfl ?_
    refine wd_iald (j := 23) (q0 := 1) (t0 := 0) C rfl rfl (inB_in (by decide)) dX5_isNodeDigit_22 rfl ?_
    refine wd_icmp_ge (j := 26) (t := 30) C dX5_isNodeDigit_23 (by decide) rfl (fun c4 => ?_) (fun c4 => ?_)
    · replace h := (if_pos c4).symm.trans h
      refine wd_iconst (j := 31) (v := 0) C dX5_isNodeDigit_30 (by decide) rfl ?_
      obtain rfl := Option.some.inj h
      exact wd_iret C hA hr hlk rfl rfl rfl dX5_isNodeDigit_31
    · replace h := (if_neg c4).symm.trans h
      refine wd_iconst (j := 27) (v := 1) C dX5_isNodeDigit_26 (by decide) rfl ?_
      refine wd_goto (t := 31) C dX5_isNodeDigit_27 (by decide) ?_
      obtain rfl := Option.some.inj h
      exact wd_iret C hA hr hlk rfl rfl rfl dX5_isNodeDigit_31
abbrev w_X5_isSecondNode (ad : Nat → Nat) (cI cD : ClassId) (mlen : Int32) (mnodes : Int32) (mlinks : Int32) (mwk : Int32) (bcode : Int32) (hass : Int32) (kwk : Int32) (hsh : Int64) (buf : Nat → Int32) : va_W := [((ad 0), .inr (5, [.int mlen, .ref (ad 1), .int mnodes, .int mlinks, .ref (ad 2), .ref (ad 3), .ref (ad 4), .int mwk, .ref (ad 5), .ref (ad 6), .ref (ad 7), .ref (ad 8), .ref (ad 9), .int bcode, .ref (ad 10), .ref (ad 11), .int hass, .int kwk, .ref (ad 12), .ref (ad 13), .ref (ad 14), .ref (ad 15), .long hsh])), ((ad 1), .inl (cI, 40, .inl buf))]
theorem kX5_isSecondNode_1 : Cond.fieldLink "RotorRouterModel" 7 "RotorRouterModel" "buffer" "[I" ∈ wsX5_isSecondNode := List.mem_of_getElem? (i := 1) rfl
theorem inX5_isSecondNode_X5 : ∀ w ∈ wsX50, w ∈ wsX5_isSecondNode := fun _ h => List.mem_cons_of_mem _ (List.mem_append_right _ h)
set_option maxRecDepth 100000 in
set_option maxHeartbeats 4000000 in
theorem lw_X5_isSecondNode_39 (l : Launch) (D : va_G) (cI cD : ClassId) (ad : Nat → Nat) (N : Nat) (mlen : Int32) (mnodes : Int32) (mlinks : Int32) (mwk : Int32) (bcode : Int32) (hass : Int32) (kwk : Int32) (hsh : Int64) (buf : Nat → Int32) (p1 : Int32) (p2 : Int32) (p3 : Int32) {p : Program} {e : Env} {s : State} {m : MethodId} {args : Array Value} {below : List Frame} {meth : Method} {c : Code} {A : Nat → Prop} {Q : State → Prop} (C : wd_C p m c cX5_isSecondNode 7 s args wsX5_isSecondNode RX5 D [(cI, .int), (cD, .double)] A) : ∀ (n : Nat) (st : Int32 × Int32) (E : Int32), iter (b_X5_isSecondNode_39 buf p1 p2 p3) n st = some E → (Wd p l e { frames := 1, cells := 0, slots := 0, locals := 21 } s m args below meth c 7 D A 0 0 Q 127 [(4, .int E)] [] (w_X5_isSecondNode ad cI cD mlen mnodes mlinks mwk bcode hass kwk hsh buf)) → Wd p l e { frames := 1, cells := 0, slots := 0, locals := 21 } s m args below meth c 7 D A 0 0 Q 39 [(0, .ref (ad 0)), (1, .int p1), (2, .int p2), (3, .int p3), (4, .int st.1), (5, .int st.2)] [] (w_X5_isSecondNode ad cI cD mlen mnodes mlinks mwk bcode hass kwk hsh buf) := by
  intro n
  induction n with
  | zero => intro st E h; cases h
  | succ n ih =>
    intro st E h kx
    obtain ⟨b, h, hk⟩ := iter_step h
    unfold b_X5_isSecondNode_39 at h
    refine wd_iload (j := 41) C 5 dX5_isSecondNode_39 rfl rfl ?_
    refine wd_iconst (j := 42) (v := 1) C dX5_isSecondNode_41 (by decide) rfl ?_
    refine wd_iadd (j := 43) C dX5_isSecondNode_42 rfl ?_
    refine wd_iload_n (j := 44) C 1 dX5_isSecondNode_43 rfl rfl rfl ?_
    refine wd_iconst (j := 45) (v := 1) C dX5_isSecondNode_44 (by decide) rfl ?_
    refine wd_isub (j := 46) C dX5_isSecondNode_45 rfl ?_
    refine wd_icmp_ge (j := 49) (t := 127) C dX5_isSecondNode_46 (by decide) rfl (fun c1 => ?_) (fun c1 => ?_)
    · replace h := (if_pos c1).symm.trans h
      obtain rfl := Option.some.inj h
      obtain rfl := hk
      refine wd_lv (lv' := [(4, .int st.1)]) [4] rfl ?_
      exact kx
    · replace h := (if_neg c1).symm.trans h
      refine wd_aload_n (j := 50) C 0 dX5_isSecondNode_49 rfl rfl rfl ?_
      refine wd_get (j := 53) (q0 := 0) (f := 1) (ci := 5) (v := .ref (ad 1)) C inX5_isSecondNode_X5 kX5_isSecondNode_1 rfl (by decide) rfl rfl dX5_isSecondNode_50 rfl ?_
      refine wd_iload (j := 55) C 5 dX5_isSecondNode_53 rfl rfl ?_
      obtain ⟨g2, h⟩ := grd_some h
      refine wd_iald (j := 56) (q0 := 1) (t0 := 0) C rfl rfl (inB_in g2) dX5_isSecondNode_55 rfl ?_
      refine wd_iload_n (j := 57) C 2 dX5_isSecondNode_56 rfl rfl rfl ?_
      refine wd_icmp_ne (j := 60) (t := 73) C dX5_isSecondNode_57 (by decide) rfl (fun c3 => ?_) (fun c3 => ?_)
      · replace h := (if_neg c3).symm.trans h
        refine wd_aload_n (j := 74) C 0 dX5_isSecondNode_73 rfl rfl rfl ?_
        refine wd_get (j := 77) (q0 := 0) (f := 1) (ci := 5) (v := .ref (ad 1)) C inX5_isSecondNode_X5 kX5_isSecondNode_1 rfl (by decide) rfl rfl dX5_isSecondNode_74 rfl ?_
        refine wd_iload (j := 79) C 5 dX5_isSecondNode_77 rfl rfl ?_
        obtain ⟨g4, h⟩ := grd_some h
        refine wd_iald (j := 80) (q0 := 1) (t0 := 0) C rfl rfl (inB_in g4) dX5_isSecondNode_79 rfl ?_
        refine wd_iload_n (j := 81) C 3 dX5_isSecondNode_80 rfl rfl rfl ?_
        refine wd_icmp_ne (j := 84) (t := 101) C dX5_isSecondNode_81 (by decide) rfl (fun c5 => ?_) (fun c5 => ?_)
        · replace h := (if_neg c5).symm.trans h
          refine wd_iconst (j := 102) (v := 0) C dX5_isSecondNode_101 (by decide) rfl ?_
          refine wd_istore (j := 104) (lv' := [(6, .int (0 : Int32)), (0, .ref (ad 0)), (1, .int p1), (2, .int p2), (3, .int p3), (4, .int st.1), (5, .int st.2)]) C dX5_isSecondNode_102 (by decide) rfl rfl ?_
          refine wd_iload (j := 106) C 5 dX5_isSecondNode_104 rfl rfl ?_
          refine wd_if_eq (j := 109) (t := 118) C dX5_isSecondNode_106 (by decide) rfl (fun c6 => ?_) (fun c6 => ?_)
          · replace h := (if_pos c6).symm.trans h
            refine wd_iconst (j := 119) (v := 0) C dX5_isSecondNode_118 (by decide) rfl ?_
            refine wd_istore (j := 121) (lv' := [(4, .int (0 : Int32)), (6, .int (0 : Int32)), (0, .ref (ad 0)), (1, .int p1), (2, .int p2), (3, .int p3), (5, .int st.2)]) C dX5_isSecondNode_119 (by decide) rfl rfl ?_
            refine wd_iinc (j := 124) (lv' := [(5, .int (st.2 + 3)), (4, .int (0 : Int32)), (6, .int (0 : Int32)), (0, .ref (ad 0)), (1, .int p1), (2, .int p2), (3, .int p3)]) C 6 dX5_isSecondNode_121 rfl rfl (by decide) rfl rfl ?_
            refine wd_goto (t := 39) C dX5_isSecondNode_124 (by decide) ?_
            obtain rfl := Option.some.inj h
            refine wd_lv (lv' := [(0, .ref (ad 0)), (1, .int p1), (2, .int p2), (3, .int p3), (4, .int (0 : Int32)), (5, .int (st.2 + 3))]) [3, 4, 5, 6, 1, 0] rfl ?_
            exact ih ((0 : Int32), (st.2 + 3)) E hk kx
          · replace h := (if_neg c6).symm.trans h
            refine wd_iload (j := 111) C 0 dX5_isSecondNode_109 rfl rfl ?_
            refine wd_if_ne (j := 114) (t := 118) C dX5_isSecondNode_111 (by decide) rfl (fun hc => absurd hc (by decide)) (fun _ => ?_)
            refine wd_iconst (j := 115) (v := 1) C dX5_isSecondNode_114 (by decide) rfl ?_
            refine wd_goto (t := 119) C dX5_isSecondNode_115 (by decide) ?_
            refine wd_istore (j := 121) (lv' := [(4, .int (1 : Int32)), (6, .int (0 : Int32)), (0, .ref (ad 0)), (1, .int p1), (2, .int p2), (3, .int p3), (5, .int st.2)]) C dX5_isSecondNode_119 (by decide) rfl rfl ?_
            refine wd_iinc (j := 124) (lv' := [(5, .int (st.2 + 3)), (4, .int (1 : Int32)), (6, .int (0 : Int32)), (0, .ref (ad 0)), (1, .int p1), (2, .int p2), (3, .int p3)]) C 6 dX5_isSecondNode_121 rfl rfl (by decide) rfl rfl ?_
            refine wd_goto (t := 39) C dX5_isSecondNode_124 (by decide) ?_
            obtain rfl := Option.some.inj h
            refine wd_lv (lv' := [(0, .ref (ad 0)), (1, .int p1), (2, .int p2), (3, .int p3), (4, .int (1 : Int32)), (5, .int (st.2 + 3))]) [3, 4, 5, 6, 1, 0] rfl ?_
            exact ih ((1 : Int32), (st.2 + 3)) E hk kx
        · replace h := (if_pos c5).symm.trans h
          refine wd_aload_n (j := 85) C 0 dX5_isSecondNode_84 rfl rfl rfl ?_
          refine wd_get (j := 88) (q0 := 0) (f := 1) (ci := 5) (v := .ref (ad 1)) C inX5_isSecondNode_X5 kX5_isSecondNode_1 rfl (by decide) rfl rfl dX5_isSecondNode_85 rfl ?_
          refine wd_iload (j := 90) C 5 dX5_isSecondNode_88 rfl rfl ?_
          refine wd_iconst (j := 91) (v := 1) C dX5_isSecondNode_90 (by decide) rfl ?_
          refine wd_iadd (j := 92) C dX5_isSecondNode_91 rfl ?_
          obtain ⟨g7, h⟩ := grd_some h
          refine wd_iald (j := 93) (q0 := 1) (t0 := 0) C rfl rfl (inB_in g7) dX5_isSecondNode_92 rfl ?_
          refine wd_iload_n (j := 94) C 2 dX5_isSecondNode_93 rfl rfl rfl ?_
          refine wd_icmp_ne (j := 97) (t := 101) C dX5_isSecondNode_94 (by decide) rfl (fun c8 => ?_) (fun c8 => ?_)
          · replace h := (if_neg c8).symm.trans h
            refine wd_iconst (j := 102) (v := 0) C dX5_isSecondNode_101 (by decide) rfl ?_
            refine wd_istore (j := 104) (lv' := [(6, .int (0 : Int32)), (0, .ref (ad 0)), (1, .int p1), (2, .int p2), (3, .int p3), (4, .int st.1), (5, .int st.2)]) C dX5_isSecondNode_102 (by decide) rfl rfl ?_
            refine wd_iload (j := 106) C 5 dX5_isSecondNode_104 rfl rfl ?_
            refine wd_if_eq (j := 109) (t := 118) C dX5_isSecondNode_106 (by decide) rfl (fun c9 => ?_) (fun c9 => ?_)
            · replace h := (if_pos c9).symm.trans h
              refine wd_iconst (j := 119) (v := 0) C dX5_isSecondNode_118 (by decide) rfl ?_
              refine wd_istore (j := 121) (lv' := [(4, .int (0 : Int32)), (6, .int (0 : Int32)), (0, .ref (ad 0)), (1, .int p1), (2, .int p2), (3, .int p3), (5, .int st.2)]) C dX5_isSecondNode_119 (by decide) rfl rfl ?_
              refine wd_iinc (j := 124) (lv' := [(5, .int (st.2 + 3)), (4, .int (0 : Int32)), (6, .int (0 : Int32)), (0, .ref (ad 0)), (1, .int p1), (2, .int p2), (3, .int p3)]) C 6 dX5_isSecondNode_121 rfl rfl (by decide) rfl rfl ?_
              refine wd_goto (t := 39) C dX5_isSecondNode_124 (by decide) ?_
              obtain rfl := Option.some.inj h
              refine wd_lv (lv' := [(0, .ref (ad 0)), (1, .int p1), (2, .int p2), (3, .int p3), (4, .int (0 : Int32)), (5, .int (st.2 + 3))]) [3, 4, 5, 6, 1, 0] rfl ?_
              exact ih ((0 : Int32), (st.2 + 3)) E hk kx
            · replace h := (if_neg c9).symm.trans h
              refine wd_iload (j := 111) C 0 dX5_isSecondNode_109 rfl rfl ?_
              refine wd_if_ne (j := 114) (t := 118) C dX5_isSecondNode_111 (by decide) rfl (fun hc => absurd hc (by decide)) (fun _ => ?_)
              refine wd_iconst (j := 115) (v := 1) C dX5_isSecondNode_114 (by decide) rfl ?_
              refine wd_goto (t := 119) C dX5_isSecondNode_115 (by decide) ?_
              refine wd_istore (j := 121) (lv' := [(4, .int (1 : Int32)), (6, .int (0 : Int32)), (0, .ref (ad 0)), (1, .int p1), (2, .int p2), (3, .int p3), (5, .int st.2)]) C dX5_isSecondNode_119 (by decide) rfl rfl ?_
              refine wd_iinc (j := 124) (lv' := [(5, .int (st.2 + 3)), (4, .int (1 : Int32)), (6, .int (0 : Int32)), (0, .ref (ad 0)), (1, .int p1), (2, .int p2), (3, .int p3)]) C 6 dX5_isSecondNode_121 rfl rfl (by decide) rfl rfl ?_
              refine wd_goto (t := 39) C dX5_isSecondNode_124 (by decide) ?_
              obtain rfl := Option.some.inj h
              refine wd_lv (lv' := [(0, .ref (ad 0)), (1, .int p1), (2, .int p2), (3, .int p3), (4, .int (1 : Int32)), (5, .int (st.2 + 3))]) [3, 4, 5, 6, 1, 0] rfl ?_
              exact ih ((1 : Int32), (st.2 + 3)) E hk kx
          · replace h := (if_pos c8).symm.trans h
            refine wd_iconst (j := 98) (v := 1) C dX5_isSecondNode_97 (by decide) rfl ?_
            refine wd_goto (t := 102) C dX5_isSecondNode_98 (by decide) ?_
            refine wd_istore (j := 104) (lv' := [(6, .int (1 : Int32)), (0, .ref (ad 0)), (1, .int p1), (2, .int p2), (3, .int p3), (4, .int st.1), (5, .int st.2)]) C dX5_isSecondNode_102 (by decide) rfl rfl ?_
            refine wd_iload (j := 106) C 5 dX5_isSecondNode_104 rfl rfl ?_
            refine wd_if_eq (j := 109) (t := 118) C dX5_isSecondNode_106 (by decide) rfl (fun c10 => ?_) (fun c10 => ?_)
            · replace h := (if_pos c10).symm.trans h
              refine wd_iconst (j := 119) (v := 0) C dX5_isSecondNode_118 (by decide) rfl ?_
              refine wd_istore (j := 121) (lv' := [(4, .int (0 : Int32)), (6, .int (1 : Int32)), (0, .ref (ad 0)), (1, .int p1), (2, .int p2), (3, .int p3), (5, .int st.2)]) C dX5_isSecondNode_119 (by decide) rfl rfl ?_
              refine wd_iinc (j := 124) (lv' := [(5, .int (st.2 + 3)), (4, .int (0 : Int32)), (6, .int (1 : Int32)), (0, .ref (ad 0)), (1, .int p1), (2, .int p2), (3, .int p3)]) C 6 dX5_isSecondNode_121 rfl rfl (by decide) rfl rfl ?_
              refine wd_goto (t := 39) C dX5_isSecondNode_124 (by decide) ?_
              obtain rfl := Option.some.inj h
              refine wd_lv (lv' := [(0, .ref (ad 0)), (1, .int p1), (2, .int p2), (3, .int p3), (4, .int (0 : Int32)), (5, .int (st.2 + 3))]) [3, 4, 5, 6, 1, 0] rfl ?_
              exact ih ((0 : Int32), (st.2 + 3)) E hk kx
            · replace h := (if_neg c10).symm.trans h
              refine wd_iload (j := 111) C 0 dX5_isSecondNode_109 rfl rfl ?_
              refine wd_if_ne (j := 114) (t := 118) C dX5_isSecondNode_111 (by decide) rfl (fun _ => ?_) (fun hc => absurd hc (by decide))
              refine wd_iconst (j := 119) (v := 0) C dX5_isSecondNode_118 (by decide) rfl ?_
              refine wd_istore (j := 121) (lv' := [(4, .int (0 : Int32)), (6, .int (1 : Int32)), (0, .ref (ad 0)), (1, .int p1), (2, .int p2), (3, .int p3), (5, .int st.2)]) C dX5_isSecondNode_119 (by decide) rfl rfl ?_
              refine wd_iinc (j := 124) (lv' := [(5, .int (st.2 + 3)), (4, .int (0 : Int32)), (6, .int (1 : Int32)), (0, .ref (ad 0)), (1, .int p1), (2, .int p2), (3, .int p3)]) C 6 dX5_isSecondNode_121 rfl rfl (by decide) rfl rfl ?_
              refine wd_goto (t := 39) C dX5_isSecondNode_124 (by decide) ?_
              obtain rfl := Option.some.inj h
              refine wd_lv (lv' := [(0, .ref (ad 0)), (1, .int p1), (2, .int p2), (3, .int p3), (4, .int (0 : Int32)), (5, .int (st.2 + 3))]) [3, 4, 5, 6, 1, 0] rfl ?_
              exact ih ((0 : Int32), (st.2 + 3)) E hk kx
      · replace h := (if_pos c3).symm.trans h
        refine wd_aload_n (j := 61) C 0 dX5_isSecondNode_60 rfl rfl rfl ?_
        refine wd_get (j := 64) (q0 := 0) (f := 1) (ci := 5) (v := .ref (ad 1)) C inX5_isSecondNode_X5 kX5_isSecondNode_1 rfl (by decide) rfl rfl dX5_isSecondNode_61 rfl ?_
        refine wd_iload (j := 66) C 5 dX5_isSecondNode_64 rfl rfl ?_
        refine wd_iconst (j := 67) (v := 1) C dX5_isSecondNode_66 (by decide) rfl ?_
        refine wd_iadd (j := 68) C dX5_isSecondNode_67 rfl ?_
        obtain ⟨g11, h⟩ := grd_some h
        refine wd_iald (j := 69) (q0 := 1) (t0 := 0) C rfl rfl (inB_in g11) dX5_isSecondNode_68 rfl ?_
        refine wd_iload_n (j := 70) C 3 dX5_isSecondNode_69 rfl rfl rfl ?_
        refine wd_icmp_eq (j := 73) (t := 97) C dX5_isSecondNode_70 (by decide) rfl (fun c12 => ?_) (fun c12 => ?_)
        · replace h := (if_pos c12).symm.trans h
          refine wd_iconst (j := 98) (v := 1) C dX5_isSecondNode_97 (by decide) rfl ?_
          refine wd_goto (t := 102) C dX5_isSecondNode_98 (by decide) ?_
          refine wd_istore (j := 104) (lv' := [(6, .int (1 : Int32)), (0, .ref (ad 0)), (1, .int p1), (2, .int p2), (3, .int p3), (4, .int st.1), (5, .int st.2)]) C dX5_isSecondNode_102 (by decide) rfl rfl ?_
          refine wd_iload (j := 106) C 5 dX5_isSecondNode_104 rfl rfl ?_
          refine wd_if_eq (j := 109) (t := 118) C dX5_isSecondNode_106 (by decide) rfl (fun c13 => ?_) (fun c13 => ?_)
          · replace h := (if_pos c13).symm.trans h
            refine wd_iconst (j := 119) (v := 0) C dX5_isSecondNode_118 (by decide) rfl ?_
            refine wd_istore (j := 121) (lv' := [(4, .int (0 : Int32)), (6, .int (1 : Int32)), (0, .ref (ad 0)), (1, .int p1), (2, .int p2), (3, .int p3), (5, .int st.2)]) C dX5_isSecondNode_119 (by decide) rfl rfl ?_
            refine wd_iinc (j := 124) (lv' := [(5, .int (st.2 + 3)), (4, .int (0 : Int32)), (6, .int (1 : Int32)), (0, .ref (ad 0)), (1, .int p1), (2, .int p2), (3, .int p3)]) C 6 dX5_isSecondNode_121 rfl rfl (by decide) rfl rfl ?_
            refine wd_goto (t := 39) C dX5_isSecondNode_124 (by decide) ?_
            obtain rfl := Option.some.inj h
            refine wd_lv (lv' := [(0, .ref (ad 0)), (1, .int p1), (2, .int p2), (3, .int p3), (4, .int (0 : Int32)), (5, .int (st.2 + 3))]) [3, 4, 5, 6, 1, 0] rfl ?_
            exact ih ((0 : Int32), (st.2 + 3)) E hk kx
          · replace h := (if_neg c13).symm.trans h
            refine wd_iload (j := 111) C 0 dX5_isSecondNode_109 rfl rfl ?_
            refine wd_if_ne (j := 114) (t := 118) C dX5_isSecondNode_111 (by decide) rfl (fun _ => ?_) (fun hc => absurd hc (by decide))
            refine wd_iconst (j := 119) (v := 0) C dX5_isSecondNode_118 (by decide) rfl ?_
            refine wd_istore (j := 121) (lv' := [(4, .int (0 : Int32)), (6, .int (1 : Int32)), (0, .ref (ad 0)), (1, .int p1), (2, .int p2), (3, .int p3), (5, .int st.2)]) C dX5_isSecondNode_119 (by decide) rfl rfl ?_
            refine wd_iinc (j := 124) (lv' := [(5, .int (st.2 + 3)), (4, .int (0 : Int32)), (6, .int (1 : Int32)), (0, .ref (ad 0)), (1, .int p1), (2, .int p2), (3, .int p3)]) C 6 dX5_isSecondNode_121 rfl rfl (by decide) rfl rfl ?_
            refine wd_goto (t := 39) C dX5_isSecondNode_124 (by decide) ?_
            obtain rfl := Option.some.inj h
            refine wd_lv (lv' := [(0, .ref (ad 0)), (1, .int p1), (2, .int p2), (3, .int p3), (4, .int (0 : Int32)), (5, .int (st.2 + 3))]) [3, 4, 5, 6, 1, 0] rfl ?_
            exact ih ((0 : Int32), (st.2 + 3)) E hk kx
        · replace h := (if_neg c12).symm.trans h
          refine wd_aload_n (j := 74) C 0 dX5_isSecondNode_73 rfl rfl rfl ?_
          refine wd_get (j := 77) (q0 := 0) (f := 1) (ci := 5) (v := .ref (ad 1)) C inX5_isSecondNode_X5 kX5_isSecondNode_1 rfl (by decide) rfl rfl dX5_isSecondNode_74 rfl ?_
          refine wd_iload (j := 79) C 5 dX5_isSecondNode_77 rfl rfl ?_
          obtain ⟨g14, h⟩ := grd_some h
          refine wd_iald (j := 80) (q0 := 1) (t0 := 0) C rfl rfl (inB_in g14) dX5_isSecondNode_79 rfl ?_
          refine wd_iload_n (j := 81) C 3 dX5_isSecondNode_80 rfl rfl rfl ?_
          refine wd_icmp_ne (j := 84) (t := 101) C dX5_isSecondNode_81 (by decide) rfl (fun c15 => ?_) (fun c15 => ?_)
          · replace h := (if_neg c15).symm.trans h
            refine wd_iconst (j := 102) (v := 0) C dX5_isSecondNode_101 (by decide) rfl ?_
            refine wd_istore (j := 104) (lv' := [(6, .int (0 : Int32)), (0, .ref (ad 0)), (1, .int p1), (2, .int p2), (3, .int p3), (4, .int st.1), (5, .int st.2)]) C dX5_isSecondNode_102 (by decide) rfl rfl ?_
            refine wd_iload (j := 106) C 5 dX5_isSecondNode_104 rfl rfl ?_
            refine wd_if_eq (j := 109) (t := 118) C dX5_isSecondNode_106 (by decide) rfl (fun c16 => ?_) (fun c16 => ?_)
            · replace h := (if_pos c16).symm.trans h
              refine wd_iconst (j := 119) (v := 0) C dX5_isSecondNode_118 (by decide) rfl ?_
              refine wd_istore (j := 121) (lv' := [(4, .int (0 : Int32)), (6, .int (0 : Int32)), (0, .ref (ad 0)), (1, .int p1), (2, .int p2), (3, .int p3), (5, .int st.2)]) C dX5_isSecondNode_119 (by decide) rfl rfl ?_
              refine wd_iinc (j := 124) (lv' := [(5, .int (st.2 + 3)), (4, .int (0 : Int32)), (6, .int (0 : Int32)), (0, .ref (ad 0)), (1, .int p1), (2, .int p2), (3, .int p3)]) C 6 dX5_isSecondNode_121 rfl rfl (by decide) rfl rfl ?_
              refine wd_goto (t := 39) C dX5_isSecondNode_124 (by decide) ?_
              obtain rfl := Option.some.inj h
              refine wd_lv (lv' := [(0, .ref (ad 0)), (1, .int p1), (2, .int p2), (3, .int p3), (4, .int (0 : Int32)), (5, .int (st.2 + 3))]) [3, 4, 5, 6, 1, 0] rfl ?_
              exact ih ((0 : Int32), (st.2 + 3)) E hk kx
            · replace h := (if_neg c16).symm.trans h
              refine wd_iload (j := 111) C 0 dX5_isSecondNode_109 rfl rfl ?_
              refine wd_if_ne (j := 114) (t := 118) C dX5_isSecondNode_111 (by decide) rfl (fun hc => absurd hc (by decide)) (fun _ => ?_)
              refine wd_iconst (j := 115) (v := 1) C dX5_isSecondNode_114 (by decide) rfl ?_
              refine wd_goto (t := 119) C dX5_isSecondNode_115 (by decide) ?_
              refine wd_istore (j := 121) (lv' := [(4, .int (1 : Int32)), (6, .int (0 : Int32)), (0, .ref (ad 0)), (1, .int p1), (2, .int p2), (3, .int p3), (5, .int st.2)]) C dX5_isSecondNode_119 (by decide) rfl rfl ?_
              refine wd_iinc (j := 124) (lv' := [(5, .int (st.2 + 3)), (4, .int (1 : Int32)), (6, .int (0 : Int32)), (0, .ref (ad 0)), (1, .int p1), (2, .int p2), (3, .int p3)]) C 6 dX5_isSecondNode_121 rfl rfl (by decide) rfl rfl ?_
              refine wd_goto (t := 39) C dX5_isSecondNode_124 (by decide) ?_
              obtain rfl := Option.some.inj h
              refine wd_lv (lv' := [(0, .ref (ad 0)), (1, .int p1), (2, .int p2), (3, .int p3), (4, .int (1 : Int32)), (5, .int (st.2 + 3))]) [3, 4, 5, 6, 1, 0] rfl ?_
              exact ih ((1 : Int32), (st.2 + 3)) E hk kx
          · replace h := (if_pos c15).symm.trans h
            refine wd_aload_n (j := 85) C 0 dX5_isSecondNode_84 rfl rfl rfl ?_
            refine wd_get (j := 88) (q0 := 0) (f := 1) (ci := 5) (v := .ref (ad 1)) C inX5_isSecondNode_X5 kX5_isSecondNode_1 rfl (by decide) rfl rfl dX5_isSecondNode_85 rfl ?_
            refine wd_iload (j := 90) C 5 dX5_isSecondNode_88 rfl rfl ?_
            refine wd_iconst (j := 91) (v := 1) C dX5_isSecondNode_90 (by decide) rfl ?_
            refine wd_iadd (j := 92) C dX5_isSecondNode_91 rfl ?_
            obtain ⟨g17, h⟩ := grd_some h
            refine wd_iald (j := 93) (q0 := 1) (t0 := 0) C rfl rfl (inB_in g17) dX5_isSecondNode_92 rfl ?_
            refine wd_iload_n (j := 94) C 2 dX5_isSecondNode_93 rfl rfl rfl ?_
            refine wd_icmp_ne (j := 97) (t := 101) C dX5_isSecondNode_94 (by decide) rfl (fun c18 => ?_) (fun c18 => ?_)
            · replace h := (if_neg c18).symm.trans h
              refine wd_iconst (j := 102) (v := 0) C dX5_isSecondNode_101 (by decide) rfl ?_
              refine wd_istore (j := 104) (lv' := [(6, .int (0 : Int32)), (0, .ref (ad 0)), (1, .int p1), (2, .int p2), (3, .int p3), (4, .int st.1), (5, .int st.2)]) C dX5_isSecondNode_102 (by decide) rfl rfl ?_
              refine wd_iload (j := 106) C 5 dX5_isSecondNode_104 rfl rfl ?_
              refine wd_if_eq (j := 109) (t := 118) C dX5_isSecondNode_106 (by decide) rfl (fun c19 => ?_) (fun c19 => ?_)
              · replace h := (if_pos c19).symm.trans h
                refine wd_iconst (j := 119) (v := 0) C dX5_isSecondNode_118 (by decide) rfl ?_
                refine wd_istore (j := 121) (lv' := [(4, .int (0 : Int32)), (6, .int (0 : Int32)), (0, .ref (ad 0)), (1, .int p1), (2, .int p2), (3, .int p3), (5, .int st.2)]) C dX5_isSecondNode_119 (by decide) rfl rfl ?_
                refine wd_iinc (j := 124) (lv' := [(5, .int (st.2 + 3)), (4, .int (0 : Int32)), (6, .int (0 : Int32)), (0, .ref (ad 0)), (1, .int p1), (2, .int p2), (3, .int p3)]) C 6 dX5_isSecondNode_121 rfl rfl (by decide) rfl rfl ?_
                refine wd_goto (t := 39) C dX5_isSecondNode_124 (by decide) ?_
                obtain rfl := Option.some.inj h
                refine wd_lv (lv' := [(0, .ref (ad 0)), (1, .int p1), (2, .int p2), (3, .int p3), (4, .int (0 : Int32)), (5, .int (st.2 + 3))]) [3, 4, 5, 6, 1, 0] rfl ?_
                exact ih ((0 : Int32), (st.2 + 3)) E hk kx
              · replace h := (if_neg c19).symm.trans h
                refine wd_iload (j := 111) C 0 dX5_isSecondNode_109 rfl rfl ?_
                refine wd_if_ne (j := 114) (t := 118) C dX5_isSecondNode_111 (by decide) rfl (fun hc => absurd hc (by decide)) (fun _ => ?_)
                refine wd_iconst (j := 115) (v := 1) C dX5_isSecondNode_114 (by decide) rfl ?_
                refine wd_goto (t := 119) C dX5_isSecondNode_115 (by decide) ?_
                refine wd_istore (j := 121) (lv' := [(4, .int (1 : Int32)), (6, .int (0 : Int32)), (0, .ref (ad 0)), (1, .int p1), (2, .int p2), (3, .int p3), (5, .int st.2)]) C dX5_isSecondNode_119 (by decide) rfl rfl ?_
                refine wd_iinc (j := 124) (lv' := [(5, .int (st.2 + 3)), (4, .int (1 : Int32)), (6, .int (0 : Int32)), (0, .ref (ad 0)), (1, .int p1), (2, .int p2), (3, .int p3)]) C 6 dX5_isSecondNode_121 rfl rfl (by decide) rfl rfl ?_
                refine wd_goto (t := 39) C dX5_isSecondNode_124 (by decide) ?_
                obtain rfl := Option.some.inj h
                refine wd_lv (lv' := [(0, .ref (ad 0)), (1, .int p1), (2, .int p2), (3, .int p3), (4, .int (1 : Int32)), (5, .int (st.2 + 3))]) [3, 4, 5, 6, 1, 0] rfl ?_
                exact ih ((1 : Int32), (st.2 + 3)) E hk kx
            · replace h := (if_pos c18).symm.trans h
              refine wd_iconst (j := 98) (v := 1) C dX5_isSecondNode_97 (by decide) rfl ?_
              refine wd_goto (t := 102) C dX5_isSecondNode_98 (by decide) ?_
              refine wd_istore (j := 104) (lv' := [(6, .int (1 : Int32)), (0, .ref (ad 0)), (1, .int p1), (2, .int p2), (3, .int p3), (4, .int st.1), (5, .int st.2)]) C dX5_isSecondNode_102 (by decide) rfl rfl ?_
              refine wd_iload (j := 106) C 5 dX5_isSecondNode_104 rfl rfl ?_
              refine wd_if_eq (j := 109) (t := 118) C dX5_isSecondNode_106 (by decide) rfl (fun c20 => ?_) (fun c20 => ?_)
              · replace h := (if_pos c20).symm.trans h
                refine wd_iconst (j := 119) (v := 0) C dX5_isSecondNode_118 (by decide) rfl ?_
                refine wd_istore (j := 121) (lv' := [(4, .int (0 : Int32)), (6, .int (1 : Int32)), (0, .ref (ad 0)), (1, .int p1), (2, .int p2), (3, .int p3), (5, .int st.2)]) C dX5_isSecondNode_119 (by decide) rfl rfl ?_
                refine wd_iinc (j := 124) (lv' := [(5, .int (st.2 + 3)), (4, .int (0 : Int32)), (6, .int (1 : Int32)), (0, .ref (ad 0)), (1, .int p1), (2, .int p2), (3, .int p3)]) C 6 dX5_isSecondNode_121 rfl rfl (by decide) rfl rfl ?_
                refine wd_goto (t := 39) C dX5_isSecondNode_124 (by decide) ?_
                obtain rfl := Option.some.inj h
                refine wd_lv (lv' := [(0, .ref (ad 0)), (1, .int p1), (2, .int p2), (3, .int p3), (4, .int (0 : Int32)), (5, .int (st.2 + 3))]) [3, 4, 5, 6, 1, 0] rfl ?_
                exact ih ((0 : Int32), (st.2 + 3)) E hk kx
              · replace h := (if_neg c20).symm.trans h
                refine wd_iload (j := 111) C 0 dX5_isSecondNode_109 rfl rfl ?_
                refine wd_if_ne (j := 114) (t := 118) C dX5_isSecondNode_111 (by decide) rfl (fun _ => ?_) (fun hc => absurd hc (by decide))
                refine wd_iconst (j := 119) (v := 0) C dX5_isSecondNode_118 (by decide) rfl ?_
                refine wd_istore (j := 121) (lv' := [(4, .int (0 : Int32)), (6, .int (1 : Int32)), (0, .ref (ad 0)), (1, .int p1), (2, .int p2), (3, .int p3), (5, .int st.2)]) C dX5_isSecondNode_119 (by decide) rfl rfl ?_
                refine wd_iinc (j := 124) (lv' := [(5, .int (st.2 + 3)), (4, .int (0 : Int32)), (6, .int (1 : Int32)), (0, .ref (ad 0)), (1, .int p1), (2, .int p2), (3, .int p3)]) C 6 dX5_isSecondNode_121 rfl rfl (by decide) rfl rfl ?_
                refine wd_goto (t := 39) C dX5_isSecondNode_124 (by decide) ?_
                obtain rfl := Option.some.inj h
                refine wd_lv (lv' := [(0, .ref (ad 0)), (1, .int p1), (2, .int p2), (3, .int p3), (4, .int (0 : Int32)), (5, .int (st.2 + 3))]) [3, 4, 5, 6, 1, 0] rfl ?_
                exact ih ((0 : Int32), (st.2 + 3)) E hk kx
set_option maxRecDepth 100000 in
set_option maxHeartbeats 4000000 in
theorem c_X5_isSecondNode (l : Launch) (D : va_G) (cI cD : ClassId) (ad : Nat → Nat) (N : Nat) (mlen : Int32) (mnodes : Int32) (mlinks : Int32) (mwk : Int32) (bcode : Int32) (hass : Int32) (kwk : Int32) (hsh : Int64) (buf : Nat → Int32) (p1 : Int32) (u : Int32) (h : f_X5_isSecondNode N buf p1 = some u) : MetI l yX5_isSecondNode wsX5_isSecondNode { frames := 1, cells := 0, slots := 0, locals := 21 } D [(cI, .int), (cD, .double)] [.ref (ad 0), .int p1] (w_X5_isSecondNode ad cI cD mlen mnodes mlinks mwk bcode hass kwk hsh buf) u (w_X5_isSecondNode ad cI cD mlen mnodes mlinks mwk bcode hass kwk hsh buf) := by
  refine MetI.of (own := RX5) (cc := cX5_isSecondNode) (nL := 7) (ret := (some .boolean)) (by decide) rfl rfl (Nat.le_of_ble_eq_true rfl) rfl ?_
  intro p e s m args below meth c A hA C hr hlk
  unfold f_X5_isSecondNode at h
  refine wd_aload_n (j := 1) C 0 dX5_isSecondNode_0 rfl rfl rfl ?_
  refine wd_get (j := 4) (q0 := 0) (f := 1) (ci := 5) (v := .ref (ad 1)) C inX5_isSecondNode_X5 kX5_isSecondNode_1 rfl (by decide) rfl rfl dX5_isSecondNode_1 rfl ?_
  refine wd_iload_n (j := 5) C 1 dX5_isSecondNode_4 rfl rfl rfl ?_
  refine wd_iconst (j := 6) (v := 1) C dX5_isSecondNode_5 (by decide) rfl ?_
  refine wd_isub (j := 7) C dX5_isSecondNode_6 rfl ?_
  obtain ⟨g21, h⟩ := grd_some h
  refine wd_iald (j := 8) (q0 := 1) (t0 := 0) C rfl rfl (inB_in g21) dX5_isSecondNode_7 rfl ?_
  refine wd_istore_n (j := 9) (lv' := [(2, .int (buf (p1 - (1 : Int32)).toNatClampNeg)), (0, .ref (ad 0)), (1, .int p1)]) C dX5_isSecondNode_8 rfl (by decide) rfl rfl ?_
  refine wd_aload_n (j := 10) C 1 dX5_isSecondNode_9 rfl rfl rfl ?_
  refine wd_get (j := 13) (q0 := 0) (f := 1) (ci := 5) (v := .ref (ad 1)) C inX5_isSecondNode_X5 kX5_isSecondNode_1 rfl (by decide) rfl rfl dX5_isSecondNode_10 rfl ?_
  refine wd_iload_n (j := 14) C 2 dX5_isSecondNode_13 rfl rfl rfl ?_
  obtain ⟨g22, h⟩ := grd_some h
  refine wd_iald (j := 15) (q0 := 1) (t0 := 0) C rfl rfl (inB_in g22) dX5_isSecondNode_14 rfl ?_
  refine wd_istore_n (j := 16) (lv' := [(3, .int (buf p1.toNatClampNeg)), (2, .int (buf (p1 - (1 : Int32)).toNatClampNeg)), (0, .ref (ad 0)), (1, .int p1)]) C dX5_isSecondNode_15 rfl (by decide) rfl rfl ?_
  refine wd_aload_n (j := 17) C 2 dX5_isSecondNode_16 rfl rfl rfl ?_
  refine wd_iload_n (j := 18) C 3 dX5_isSecondNode_17 rfl rfl rfl ?_
  obtain ⟨u23, hu23, h⟩ := bnd_some h
  refine wd_callVi (j := 21) (q0 := 0) (ci := 5) (As := [.int p1]) (rest := []) (ws' := (w_X5_isSecondNode ad cI cD mlen mnodes mlinks mwk bcode hass kwk hsh buf)) C (c_X5_isNodeDigit l D cI cD ad mlen mnodes mlinks mwk bcode hass kwk hsh buf p1 u23 hu23) (cwV 1 C.1.2.2.2.2 gX5_isSecondNode_X5_isNodeDigit rfl rfl rfl (by decide +kernel) ⟨Nat.le_of_ble_eq_true rfl, Nat.le_of_ble_eq_true rfl⟩) rfl rfl [0, 1] [] rfl rfl rfl rfl (by decide) [0, 1] rfl rfl rfl (Nat.le_of_ble_eq_true rfl) (Nat.le_of_ble_eq_true rfl) (Nat.le_of_ble_eq_true rfl) dX5_isSecondNode_18 rfl ?_
  refine wd_if_eq (j := 24) (t := 33) C dX5_isSecondNode_21 (by decide) rfl (fun c24 => ?_) (fun c24 => ?_)
  · replace h := (if_pos c24).symm.trans h
    refine wd_iconst (j := 34) (v := 0) C dX5_isSecondNode_33 (by decide) rfl ?_
    refine wd_istore (j := 36) (lv' := [(4, .int (0 : Int32)), (3, .int (buf p1.toNatClampNeg)), (2, .int (buf (p1 - (1 : Int32)).toNatClampNeg)), (0, .ref (ad 0)), (1, .int p1)]) C dX5_isSecondNode_34 (by decide) rfl rfl ?_
    refine wd_iconst (j := 37) (v := 2) C dX5_isSecondNode_36 (by decide) rfl ?_
    refine wd_istore (j := 39) (lv' := [(5, .int (2 : Int32)), (4, .int (0 : Int32)), (3, .int (buf p1.toNatClampNeg)), (2, .int (buf (p1 - (1 : Int32)).toNatClampNeg)), (0, .ref (ad 0)), (1, .int p1)]) C dX5_isSecondNode_37 (by decide) rfl rfl ?_
    refine wd_lv (lv' := [(0, .ref (ad 0)), (1, .int p1), (2, .int (buf (p1 - (1 : Int32)).toNatClampNeg)), (3, .int (buf p1.toNatClampNeg)), (4, .int (0 : Int32)), (5, .int (2 : Int32))]) [4, 5, 3, 2, 1, 0] rfl ?_
    obtain ⟨u25, hu25, h⟩ := bnd_some h
    refine lw_X5_isSecondNode_39 l D cI cD ad N mlen mnodes mlinks mwk bcode hass kwk hsh buf p1 (buf (p1 - (1 : Int32)).toNatClampNeg) (buf p1.toNatClampNeg) C N ((0 : Int32), (2 : Int32)) u25 hu25 ?_
    refine wd_iload (j := 129) C 0 dX5_isSecondNode_127 rfl rfl ?_
    obtain ⟨g26, h⟩ := grd_some h
    obtain rfl := Option.some.inj h
    exact wd_iret C hA hr hlk (z01_in g26) rfl rfl dX5_isSecondNode_129
  · replace h := (if_neg c24).symm.trans h
    refine wd_iload_n (j := 25) C 1 dX5_isSecondNode_24 rfl rfl rfl ?_
    refine wd_iload_n (j := 26) C 0 dX5_isSecondNode_25 rfl rfl rfl ?_
    refine wd_icmp_eq (j := 29) (t := 33) C dX5_isSecondNode_26 (by decide) rfl (fun c27 => ?_) (fun c27 => ?_)
    · replace h := (if_pos c27).symm.trans h
      refine wd_iconst (j := 34) (v := 0) C dX5_isSecondNode_33 (by decide) rfl ?_
      refine wd_istore (j := 36) (lv' := [(4, .int (0 : Int32)), (3, .int (buf p1.toNatClampNeg)), (2, .int (buf (p1 - (1 : Int32)).toNatClampNeg)), (0, .ref (ad 0)), (1, .int p1)]) C dX5_isSecondNode_34 (by decide) rfl rfl ?_
      refine wd_iconst (j := 37) (v := 2) C dX5_isSecondNode_36 (by decide) rfl ?_
      refine wd_istore (j := 39) (lv' := [(5, .int (2 : Int32)), (4, .int (0 : Int32)), (3, .int (buf p1.toNatClampNeg)), (2, .int (buf (p1 - (1 : Int32)).toNatClampNeg)), (0, .ref (ad 0)), (1, .int p1)]) C dX5_isSecondNode_37 (by decide) rfl rfl ?_
      refine wd_lv (lv' := [(0, .ref (ad 0)), (1, .int p1), (2, .int (buf (p1 - (1 : Int32)).toNatClampNeg)), (3, .int (buf p1.toNatClampNeg)), (4, .int (0 : Int32)), (5, .int (2 : Int32))]) [4, 5, 3, 2, 1, 0] rfl ?_
      obtain ⟨u28, hu28, h⟩ := bnd_some h
      refine lw_X5_isSecondNode_39 l D cI cD ad N mlen mnodes mlinks mwk bcode hass kwk hsh buf p1 (buf (p1 - (1 : Int32)).toNatClampNeg) (buf p1.toNatClampNeg) C N ((0 : Int32), (2 : Int32)) u28 hu28 ?_
      refine wd_iload (j := 129) C 0 dX5_isSecondNode_127 rfl rfl ?_
      obtain ⟨g29, h⟩ := grd_some h
      obtain rfl := Option.some.inj h
      exact wd_iret C hA hr hlk (z01_in g29) rfl rfl dX5_isSecondNode_129
    · replace h := (if_neg c27).symm.trans h
      refine wd_iconst (j := 30) (v := 1) C dX5_isSecondNode_29 (by decide) rfl ?_
      refine wd_goto (t := 34) C dX5_isSecondNode_30 (by decide) ?_
      refine wd_istore (j := 36) (lv' := [(4, .int (1 : Int32)), (3, .int (buf p1.toNatClampNeg)), (2, .int (buf (p1 - (1 : Int32)).toNatClampNeg)), (0, .ref (ad 0)), (1, .int p1)]) C dX5_isSecondNode_34 (by decide) rfl rfl ?_
      refine wd_iconst (j := 37) (v := 2) C dX5_isSecondNode_36 (by decide) rfl ?_
      refine wd_istore (j := 39) (lv' := [(5, .int (2 : Int32)), (4, .int (1 : Int32)), (3, .int (buf p1.toNatClampNeg)), (2, .int (buf (p1 - (1 : Int32)).toNatClampNeg)), (0, .ref (ad 0)), (1, .int p1)]) C dX5_isSecondNode_37 (by decide) rfl rfl ?_
      refine wd_lv (lv' := [(0, .ref (ad 0)), (1, .int p1), (2, .int (buf (p1 - (1 : Int32)).toNatClampNeg)), (3, .int (buf p1.toNatClampNeg)), (4, .int (1 : Int32)), (5, .int (2 : Int32))]) [4, 5, 3, 2, 1, 0] rfl ?_
      obtain ⟨u30, hu30, h⟩ := bnd_some h
      refine lw_X5_isSecondNode_39 l D cI cD ad N mlen mnodes mlinks mwk bcode hass kwk hsh buf p1 (buf (p1 - (1 : Int32)).toNatClampNeg) (buf p1.toNatClampNeg) C N ((1 : Int32), (2 : Int32)) u30 hu30 ?_
      refine wd_iload (j := 129) C 0 dX5_isSecondNode_127 rfl rfl ?_
      obtain ⟨g31, h⟩ := grd_some h
      obtain rfl := Option.some.inj h
      exact wd_iret C hA hr hlk (z01_in g31) rfl rfl dX5_isSecondNode_129
abbrev w_X5_isRight (ad : Nat → Nat) (cI cD : ClassId) (mlen : Int32) (mnodes : Int32) (mlinks : Int32) (mwk : Int32) (bcode : Int32) (hass : Int32) (kwk : Int32) (hsh : Int64) (buf : Nat → Int32) : va_W := [((ad 0), .inr (5, [.int mlen, .ref (ad 1), .int mnodes, .int mlinks, .ref (ad 2), .ref (ad 3), .ref (ad 4), .int mwk, .ref (ad 5), .ref (ad 6), .ref (ad 7), .ref (ad 8), .ref (ad 9), .int bcode, .ref (ad 10), .ref (ad 11), .int hass, .int kwk, .ref (ad 12), .ref (ad 13), .ref (ad 14), .ref (ad 15), .long hsh])), ((ad 1), .inl (cI, 40, .inl buf))]
theorem kX5_isRight_1 : Cond.fieldLink "RotorRouterModel" 7 "RotorRouterModel" "buffer" "[I" ∈ wsX5_isRight := List.mem_of_getElem? (i := 1) rfl
theorem inX5_isRight_X5 : ∀ w ∈ wsX50, w ∈ wsX5_isRight := fun _ h => List.mem_cons_of_mem _ (List.mem_append_right _ h)
set_option maxRecDepth 100000 in
set_option maxHeartbeats 4000000 in
theorem c_X5_isRight (l : Launch) (D : va_G) (cI cD : ClassId) (ad : Nat → Nat) (N : Nat) (mlen : Int32) (mnodes : Int32) (mlinks : Int32) (mwk : Int32) (bcode : Int32) (hass : Int32) (kwk : Int32) (hsh : Int64) (buf : Nat → Int32) (p1 : Int32) (u : Int32) (h : f_X5_isRight N buf p1 = some u) : MetI l yX5_isRight wsX5_isRight { frames := 2, cells := 0, slots := 0, locals := 47 } D [(cI, .int), (cD, .double)] [.ref (ad 0), .int p1] (w_X5_isRight ad cI cD mlen mnodes mlinks mwk bcode hass kwk hsh buf) u (w_X5_isRight ad cI cD mlen mnodes mlinks mwk bcode hass kwk hsh buf) := by
  refine MetI.of (own := RX5) (cc := cX5_isRight) (nL := 3) (ret := (some .boolean)) (by decide) rfl rfl (Nat.le_of_ble_eq_true rfl) rfl ?_
  intro p e s m args below meth c A hA C hr hlk
  unfold f_X5_isRight at h
  refine wd_aload_n (j := 1) C 0 dX5_isRight_0 rfl rfl rfl ?_
  refine wd_get (j := 4) (q0 := 0) (f := 1) (ci := 5) (v := .ref (ad 1)) C inX5_isRight_X5 kX5_isRight_1 rfl (by decide) rfl rfl dX5_isRight_1 rfl ?_
  refine wd_iload_n (j := 5) C 1 dX5_isRight_4 rfl rfl rfl ?_
  obtain ⟨g1, h⟩ := grd_some h
  refine wd_iald (j := 6) (q0 := 1) (t0 := 0) C rfl rfl (inB_in g1) dX5_isRight_5 rfl ?_
  refine wd_istore_n (j := 7) (lv' := [(2, .int (buf p1.toNatClampNeg)), (0, .ref (ad 0)), (1, .int p1)]) C dX5_isRight_6 rfl (by decide) rfl rfl ?_
  refine wd_iload_n (j := 8) C 2 dX5_isRight_7 rfl rfl rfl ?_
  refine wd_iconst (j := 9) (v := 2) C dX5_isRight_8 (by decide) rfl ?_
  refine wd_icmp_ge (j := 12) (t := 39) C dX5_isRight_9 (by decide) rfl (fun c2 => ?_) (fun c2 => ?_)
  · replace h := (if_pos c2).symm.trans h
    refine wd_iload_n (j := 40) C 2 dX5_isRight_39 rfl rfl rfl ?_
    refine wd_iconst (j := 41) (v := 3) C dX5_isRight_40 (by decide) rfl ?_
    refine wd_irem (j := 42) C dX5_isRight_41 (by decide) rfl ?_
    by_cases c3 : (p1 - p1 / (3 : Int32) * (3 : Int32)) = 0
    · replace h := (if_pos c3).symm.trans h
      refine wd_lookup (t := 74) (off := 32) C dX5_isRight_42 (by decide) (lv_osh c3 (by decide)) (by decide) ?_
      refine wd_aload_n (j := 75) C 1 dX5_isRight_74 rfl rfl rfl ?_
      refine wd_iload_n (j := 76) C 2 dX5_isRight_75 rfl rfl rfl ?_
      obtain ⟨u4, hu4, h⟩ := bnd_some h
      refine wd_callVi (j := 79) (q0 := 0) (ci := 5) (As := [.int p1]) (rest := []) (ws' := (w_X5_isRight ad cI cD mlen mnodes mlinks mwk bcode hass kwk hsh buf)) C (c_X5_isSecondNode l D cI cD ad N mlen mnodes mlinks mwk bcode hass kwk hsh buf p1 u4 hu4) (cwV 1 C.1.2.2.2.2 gX5_isRight_X5_isSecondNode rfl rfl rfl (by decide +kernel) ⟨Nat.le_of_ble_eq_true rfl, Nat.le_of_ble_eq_true rfl⟩) rfl rfl [0, 1] [] rfl rfl rfl rfl (by decide) [0, 1] rfl rfl rfl (Nat.le_of_ble_eq_true rfl) (Nat.le_of_ble_eq_true rfl) (Nat.le_of_ble_eq_true rfl) dX5_isRight_76 rfl ?_
      obtain ⟨g5, h⟩ := grd_some h
      obtain rfl := Option.some.inj h
      exact wd_iret C hA hr hlk (z01_in g5) rfl rfl dX5_isRight_79
    · replace h := (if_neg c3).symm.trans h
      by_cases c6 : (p1 - p1 / (3 : Int32) * (3 : Int32)) = 2
      · replace h := (if_pos c6).symm.trans h
        refine wd_lookup (t := 68) (off := 26) C dX5_isRight_42 (by decide) ((lv_osw c3 (by decide)).trans <| lv_osh c6 (by decide)) (by decide) ?_
        refine wd_aload_n (j := 69) C 1 dX5_isRight_68 rfl rfl rfl ?_
        refine wd_iload_n (j := 70) C 2 dX5_isRight_69 rfl rfl rfl ?_
        obtain ⟨u7, hu7, h⟩ := bnd_some h
        refine wd_callVi (j := 73) (q0 := 0) (ci := 5) (As := [.int p1]) (rest := []) (ws' := (w_X5_isRight ad cI cD mlen mnodes mlinks mwk bcode hass kwk hsh buf)) C (c_X5_isNodeDigit l D cI cD ad mlen mnodes mlinks mwk bcode hass kwk hsh buf p1 u7 hu7) (cwV 1 C.1.2.2.2.2 gX5_isRight_X5_isNodeDigit rfl rfl rfl (by decide +kernel) ⟨Nat.le_of_ble_eq_true rfl, Nat.le_of_ble_eq_true rfl⟩) rfl rfl [0, 1] [] rfl rfl rfl rfl (by decide) [0, 1] rfl rfl rfl (Nat.le_of_ble_eq_true rfl) (Nat.le_of_ble_eq_true rfl) (Nat.le_of_ble_eq_true rfl) dX5_isRight_70 rfl ?_
        obtain ⟨g8, h⟩ := grd_some h
        obtain rfl := Option.some.inj h
        exact wd_iret C hA hr hlk (z01_in g8) rfl rfl dX5_isRight_73
      · replace h := (if_neg c6).symm.trans h
        refine wd_lookup (t := 80) (off := 38) C dX5_isRight_42 (by decide) ((lv_osw c3 (by decide)).trans <| (lv_osw c6 (by decide)).trans <| rfl) (by decide) ?_
        refine wd_iload_n (j := 81) C 0 dX5_isRight_80 rfl rfl rfl ?_
        refine wd_bipush (j := 83) (v := 44) C dX5_isRight_81 (by decide) rfl ?_
        refine wd_icmp_ne (j := 86) (t := 100) C dX5_isRight_83 (by decide) rfl (fun c9 => ?_) (fun c9 => ?_)
        · replace h := (if_neg c9).symm.trans h
          refine wd_iconst (j := 101) (v := 0) C dX5_isRight_100 (by decide) rfl ?_
          obtain rfl := Option.some.inj h
          exact wd_iret C hA hr hlk rfl rfl rfl dX5_isRight_101
        · replace h := (if_pos c9).symm.trans h
          refine wd_iload_n (j := 87) C 2 dX5_isRight_86 rfl rfl rfl ?_
          refine wd_iconst (j := 88) (v := 1) C dX5_isRight_87 (by decide) rfl ?_
          refine wd_isub (j := 89) C dX5_isRight_88 rfl ?_
          refine wd_iconst (j := 90) (v := 3) C dX5_isRight_89 (by decide) rfl ?_
          refine wd_idiv (j := 91) C dX5_isRight_90 (by decide) rfl ?_
          refine wd_bipush (j := 93) (v := 12) C dX5_isRight_91 (by decide) rfl ?_
          refine wd_icmp_ge (j := 96) (t := 100) C dX5_isRight_93 (by decide) rfl (fun c10 => ?_) (fun c10 => ?_)
          · replace h := (if_pos c10).symm.trans h
            refine wd_iconst (j := 101) (v := 0) C dX5_isRight_100 (by decide) rfl ?_
            obtain rfl := Option.some.inj h
            exact wd_iret C hA hr hlk rfl rfl rfl dX5_isRight_101
          · replace h := (if_neg c10).symm.trans h
            refine wd_iconst (j := 97) (v := 1) C dX5_isRight_96 (by decide) rfl ?_
            refine wd_goto (t := 101) C dX5_isRight_97 (by decide) ?_
            obtain rfl := Option.some.inj h
            exact wd_iret C hA hr hlk rfl rfl rfl dX5_isRight_101
  · replace h := (if_neg c2).symm.trans h
    refine wd_iload_n (j := 13) C 2 dX5_isRight_12 rfl rfl rfl ?_
    refine wd_if_ne (j := 16) (t := 27) C dX5_isRight_13 (by decide) rfl (fun c11 => ?_) (fun c11 => ?_)
    · replace h := (if_neg c11).symm.trans h
      refine wd_iload_n (j := 28) C 0 dX5_isRight_27 rfl rfl rfl ?_
      refine wd_bipush (j := 30) (v := 58) C dX5_isRight_28 (by decide) rfl ?_
      refine wd_icmp_ne (j := 33) (t := 37) C dX5_isRight_30 (by decide) rfl (fun c12 => ?_) (fun c12 => ?_)
      · replace h := (if_neg c12).symm.trans h
        refine wd_iconst (j := 38) (v := 0) C dX5_isRight_37 (by decide) rfl ?_
        obtain rfl := Option.some.inj h
        exact wd_iret C hA hr hlk rfl rfl rfl dX5_isRight_38
      · replace h := (if_pos c12).symm.trans h
        refine wd_iconst (j := 34) (v := 1) C dX5_isRight_33 (by decide) rfl ?_
        refine wd_goto (t := 38) C dX5_isRight_34 (by decide) ?_
        obtain rfl := Option.some.inj h
        exact wd_iret C hA hr hlk rfl rfl rfl dX5_isRight_38
    · replace h := (if_pos c11).symm.trans h
      refine wd_iload_n (j := 17) C 0 dX5_isRight_16 rfl rfl rfl ?_
      refine wd_bipush (j := 19) (v := 50) C dX5_isRight_17 (by decide) rfl ?_
      refine wd_bipush (j := 21) (v := 56) C dX5_isRight_19 (by decide) rfl ?_
      obtain ⟨u13, hu13, h⟩ := bnd_some h
      refine wd_callSi (j := 24) (As := [.int (buf p1.toNatClampNeg), .int (50 : Int32), .int (56 : Int32)]) (rest := []) (ws' := (w_X5_isRight ad cI cD mlen mnodes mlinks mwk bcode hass kwk hsh buf)) C (c_X5_within l D cI cD ad (buf p1.toNatClampNeg) (50 : Int32) (56 : Int32) u13 hu13) (va_cwS 3 C.1.2.2.2.2 gX5_isRight_X5_within rfl rfl rfl (by decide +kernel) ⟨Nat.le_of_ble_eq_true rfl, Nat.le_of_ble_eq_true rfl⟩) [] [0, 1] rfl rfl rfl rfl (by decide) [0, 1] rfl rfl rfl (Nat.le_of_ble_eq_true rfl) (Nat.le_of_ble_eq_true rfl) (Nat.le_of_ble_eq_true rfl) dX5_isRight_21 rfl ?_
      refine wd_goto (t := 38) C dX5_isRight_24 (by decide) ?_
      obtain ⟨g14, h⟩ := grd_some h
      obtain rfl := Option.some.inj h
      exact wd_iret C hA hr hlk (z01_in g14) rfl rfl dX5_isRight_38
abbrev w_X5_rightLength (ad : Nat → Nat) (cI cD : ClassId) (mlen : Int32) (mnodes : Int32) (mlinks : Int32) (mwk : Int32) (bcode : Int32) (hass : Int32) (kwk : Int32) (hsh : Int64) (buf : Nat → Int32) : va_W := [((ad 0), .inr (5, [.int mlen, .ref (ad 1), .int mnodes, .int mlinks, .ref (ad 2), .ref (ad 3), .ref (ad 4), .int mwk, .ref (ad 5), .ref (ad 6), .ref (ad 7), .ref (ad 8), .ref (ad 9), .int bcode, .ref (ad 10), .ref (ad 11), .int hass, .int kwk, .ref (ad 12), .ref (ad 13), .ref (ad 14), .ref (ad 15), .long hsh])), ((ad 1), .inl (cI, 40, .inl buf))]
theorem kX5_rightLength_1 : Cond.fieldLink "RotorRouterModel" 60 "RotorRouterModel" "length" "I" ∈ wsX5_rightLength := List.mem_of_getElem? (i := 1) rfl
theorem inX5_rightLength_X5 : ∀ w ∈ wsX50, w ∈ wsX5_rightLength := fun _ h => List.mem_cons_of_mem _ (List.mem_append_right _ h)
set_option maxRecDepth 100000 in
set_option maxHeartbeats 4000000 in
theorem lw_X5_rightLength_2 (l : Launch) (D : va_G) (cI cD : ClassId) (ad : Nat → Nat) (N : Nat) (mnodes : Int32) (mlinks : Int32) (mwk : Int32) (bcode : Int32) (hass : Int32) (kwk : Int32) (hsh : Int64) (mlen : Int32) (buf : Nat → Int32)  {p : Program} {e : Env} {s : State} {m : MethodId} {args : Array Value} {below : List Frame} {meth : Method} {c : Code} {A : Nat → Prop} {Q : State → Prop} (C : wd_C p m c cX5_rightLength 2 s args wsX5_rightLength RX5 D [(cI, .int), (cD, .double)] A) : ∀ (n : Nat) (st : Int32) (E : Int32), iter (b_X5_rightLength_2 N mlen buf) n st = some E → (Wd p l e { frames := 3, cells := 0, slots := 0, locals := 69 } s m args below meth c 2 D A 0 0 Q 24 [(1, .int E)] [] (w_X5_rightLength ad cI cD mlen mnodes mlinks mwk bcode hass kwk hsh buf)) → Wd p l e { frames := 3, cells := 0, slots := 0, locals := 69 } s m args below meth c 2 D A 0 0 Q 2 [(0, .ref (ad 0)), (1, .int st)] [] (w_X5_rightLength ad cI cD mlen mnodes mlinks mwk bcode hass kwk hsh buf) := by
  intro n
  induction n with
  | zero => intro st E h; cases h
  | succ n ih =>
    intro st E h kx
    obtain ⟨b, h, hk⟩ := iter_step h
    unfold b_X5_rightLength_2 at h
    refine wd_iload_n (j := 3) C 1 dX5_rightLength_2 rfl rfl rfl ?_
    refine wd_aload_n (j := 4) C 0 dX5_rightLength_3 rfl rfl rfl ?_
    refine wd_get (j := 7) (q0 := 0) (f := 0) (ci := 5) (v := .int mlen) C inX5_rightLength_X5 kX5_rightLength_1 rfl (by decide) rfl rfl dX5_rightLength_4 rfl ?_
    refine wd_icmp_ge (j := 10) (t := 24) C dX5_rightLength_7 (by decide) rfl (fun c1 => ?_) (fun c1 => ?_)
    · replace h := (if_pos c1).symm.trans h
      obtain rfl := Option.some.inj h
      obtain rfl := hk
      refine wd_lv (lv' := [(1, .int st)]) [1] rfl ?_
      exact kx
    · replace h := (if_neg c1).symm.trans h
      refine wd_aload_n (j := 11) C 0 dX5_rightLength_10 rfl rfl rfl ?_
      refine wd_iload_n (j := 12) C 1 dX5_rightLength_11 rfl rfl rfl ?_
      obtain ⟨u2, hu2, h⟩ := bnd_some h
      refine wd_callVi (j := 15) (q0 := 0) (ci := 5) (As := [.int st]) (rest := []) (ws' := (w_X5_rightLength ad cI cD mlen mnodes mlinks mwk bcode hass kwk hsh buf)) C (c_X5_isRight l D cI cD ad N mlen mnodes mlinks mwk bcode hass kwk hsh buf st u2 hu2) (cwV 1 C.1.2.2.2.2 gX5_rightLength_X5_isRight rfl rfl rfl (by decide +kernel) ⟨Nat.le_of_ble_eq_true rfl, Nat.le_of_ble_eq_true rfl⟩) rfl rfl [0, 1] [] rfl rfl rfl rfl (by decide) [0, 1] rfl rfl rfl (Nat.le_of_ble_eq_true rfl) (Nat.le_of_ble_eq_true rfl) (Nat.le_of_ble_eq_true rfl) dX5_rightLength_12 rfl ?_
      refine wd_if_eq (j := 18) (t := 24) C dX5_rightLength_15 (by decide) rfl (fun c3 => ?_) (fun c3 => ?_)
      · replace h := (if_pos c3).symm.trans h
        obtain rfl := Option.some.inj h
        obtain rfl := hk
        refine wd_lv (lv' := [(1, .int st)]) [1] rfl ?_
        exact kx
      · replace h := (if_neg c3).symm.trans h
        refine wd_iinc (j := 21) (lv' := [(1, .int (st + 1)), (0, .ref (ad 0))]) C 1 dX5_rightLength_18 rfl rfl (by decide) rfl rfl ?_
        refine wd_goto (t := 2) C dX5_rightLength_21 (by decide) ?_
        obtain rfl := Option.some.inj h
        refine wd_lv (lv' := [(0, .ref (ad 0)), (1, .int (st + 1))]) [1, 0] rfl ?_
        exact ih (st + 1) E hk kx
set_option maxRecDepth 100000 in
set_option maxHeartbeats 4000000 in
theorem c_X5_rightLength (l : Launch) (D : va_G) (cI cD : ClassId) (ad : Nat → Nat) (N : Nat) (mlen : Int32) (mnodes : Int32) (mlinks : Int32) (mwk : Int32) (bcode : Int32) (hass : Int32) (kwk : Int32) (hsh : Int64) (buf : Nat → Int32)  (u : Int32) (h : f_X5_rightLength N mlen buf = some u) : MetI l yX5_rightLength wsX5_rightLength { frames := 3, cells := 0, slots := 0, locals := 69 } D [(cI, .int), (cD, .double)] [.ref (ad 0)] (w_X5_rightLength ad cI cD mlen mnodes mlinks mwk bcode hass kwk hsh buf) u (w_X5_rightLength ad cI cD mlen mnodes mlinks mwk bcode hass kwk hsh buf) := by
  refine MetI.of (own := RX5) (cc := cX5_rightLength) (nL := 2) (ret := (some .int)) (by decide) rfl rfl (Nat.le_of_ble_eq_true rfl) rfl ?_
  intro p e s m args below meth c A hA C hr hlk
  unfold f_X5_rightLength at h
  refine wd_iconst (j := 1) (v := 0) C dX5_rightLength_0 (by decide) rfl ?_
  refine wd_istore_n (j := 2) (lv' := [(1, .int (0 : Int32)), (0, .ref (ad 0))]) C dX5_rightLength_1 rfl (by decide) rfl rfl ?_
  refine wd_lv (lv' := [(0, .ref (ad 0)), (1, .int (0 : Int32))]) [1, 0] rfl ?_
  obtain ⟨u4, hu4, h⟩ := bnd_some h
  refine lw_X5_rightLength_2 l D cI cD ad N mnodes mlinks mwk bcode hass kwk hsh mlen buf C N (0 : Int32) u4 hu4 ?_
  refine wd_iload_n (j := 25) C 0 dX5_rightLength_24 rfl rfl rfl ?_
  obtain rfl := Option.some.inj h
  exact wd_iret C hA hr hlk rfl rfl rfl dX5_rightLength_25
abbrev w_X5_firstError (ad : Nat → Nat) (cI cD : ClassId) (mlen : Int32) (mnodes : Int32) (mlinks : Int32) (mwk : Int32) (bcode : Int32) (hass : Int32) (kwk : Int32) (hsh : Int64) (buf : Nat → Int32) : va_W := [((ad 0), .inr (5, [.int mlen, .ref (ad 1), .int mnodes, .int mlinks, .ref (ad 2), .ref (ad 3), .ref (ad 4), .int mwk, .ref (ad 5), .ref (ad 6), .ref (ad 7), .ref (ad 8), .ref (ad 9), .int bcode, .ref (ad 10), .ref (ad 11), .int hass, .int kwk, .ref (ad 12), .ref (ad 13), .ref (ad 14), .ref (ad 15), .long hsh])), ((ad 1), .inl (cI, 40, .inl buf))]
set_option maxRecDepth 100000 in
set_option maxHeartbeats 4000000 in
theorem c_X5_firstError (l : Launch) (D : va_G) (cI cD : ClassId) (ad : Nat → Nat) (N : Nat) (mlen : Int32) (mnodes : Int32) (mlinks : Int32) (mwk : Int32) (bcode : Int32) (hass : Int32) (kwk : Int32) (hsh : Int64) (buf : Nat → Int32)  (u : Int32) (h : f_X5_firstError N mlen buf = some u) : MetI l yX5_firstError wsX5_firstError { frames := 4, cells := 0, slots := 0, locals := 90 } D [(cI, .int), (cD, .double)] [.ref (ad 0)] (w_X5_firstError ad cI cD mlen mnodes mlinks mwk bcode hass kwk hsh buf) u (w_X5_firstError ad cI cD mlen mnodes mlinks mwk bcode hass kwk hsh buf) := by
  refine MetI.of (own := RX5) (cc := cX5_firstError) (nL := 1) (ret := (some .int)) (by decide) rfl rfl (Nat.le_of_ble_eq_true rfl) rfl ?_
  intro p e s m args below meth c A hA C hr hlk
  unfold f_X5_firstError at h
  refine wd_aload_n (j := 1) C 0 dX5_firstError_0 rfl rfl rfl ?_
  obtain ⟨u1, hu1, h⟩ := bnd_some h
  refine wd_callVi (j := 4) (q0 := 0) (ci := 5) (As := []) (rest := []) (ws' := (w_X5_firstError ad cI cD mlen mnodes mlinks mwk bcode hass kwk hsh buf)) C (c_X5_rightLength l D cI cD ad N mlen mnodes mlinks mwk bcode hass kwk hsh buf u1 hu1) (cwV 0 C.1.2.2.2.2 gX5_firstError_X5_rightLength rfl rfl rfl (by decide +kernel) ⟨Nat.le_of_ble_eq_true rfl, Nat.le_of_ble_eq_true rfl⟩) rfl rfl [0, 1] [] rfl rfl rfl rfl (by decide) [0, 1] rfl rfl rfl (Nat.le_of_ble_eq_true rfl) (Nat.le_of_ble_eq_true rfl) (Nat.le_of_ble_eq_true rfl) dX5_firstError_1 rfl ?_
  obtain rfl := Option.some.inj h
  exact wd_iret C hA hr hlk rfl rfl rfl dX5_firstError_4
abbrev w_X5_isConnected (ad : Nat → Nat) (cI cD : ClassId) (mlen : Int32) (mnodes : Int32) (mlinks : Int32) (mwk : Int32) (bcode : Int32) (hass : Int32) (kwk : Int32) (hsh : Int64) (buf : Nat → Int32) : va_W := [((ad 0), .inr (5, [.int mlen, .ref (ad 1), .int mnodes, .int mlinks, .ref (ad 2), .ref (ad 3), .ref (ad 4), .int mwk, .ref (ad 5), .ref (ad 6), .ref (ad 7), .ref (ad 8), .ref (ad 9), .int bcode, .ref (ad 10), .ref (ad 11), .int hass, .int kwk, .ref (ad 12), .ref (ad 13), .ref (ad 14), .ref (ad 15), .long hsh])), ((ad 1), .inl (cI, 40, .inl buf))]
theorem kX5_isConnected_1 : Cond.fieldLink "RotorRouterModel" 60 "RotorRouterModel" "length" "I" ∈ wsX5_isConnected := List.mem_of_getElem? (i := 1) rfl
theorem kX5_isConnected_2 : Cond.fieldLink "RotorRouterModel" 7 "RotorRouterModel" "buffer" "[I" ∈ wsX5_isConnected := List.mem_of_getElem? (i := 2) rfl
theorem inX5_isConnected_X5 : ∀ w ∈ wsX50, w ∈ wsX5_isConnected := fun _ h => List.mem_cons_of_mem _ (List.mem_append_right _ h)
set_option maxRecDepth 100000 in
set_option maxHeartbeats 4000000 in
theorem lw_X5_isConnected_12 (l : Launch) (D : va_G) (cI cD : ClassId) (ad : Nat → Nat) (N : Nat) (mnodes : Int32) (mlinks : Int32) (mwk : Int32) (bcode : Int32) (hass : Int32) (kwk : Int32) (hsh : Int64) (mlen : Int32) (buf : Nat → Int32) (p2 : Int32) {p : Program} {e : Env} {s : State} {m : MethodId} {args : Array Value} {below : List Frame} {meth : Method} {c : Code} {A : Nat → Prop} {Q : State → Prop} (C : wd_C p m c cX5_isConnected 5 s args wsX5_isConnected RX5 D [(cI, .int), (cD, .double)] A) : ∀ (n : Nat) (st : Int32 × Int32) (E : Int32), iter (b_X5_isConnected_12 mlen buf) n st = some E → (Wd p l e { frames := 0, cells := 0, slots := 0, locals := 0 } s m args below meth c 5 D A 0 0 Q 69 [(0, .ref (ad 0)), (1, .int E), (2, .int p2)] [] (w_X5_isConnected ad cI cD mlen mnodes mlinks mwk bcode hass kwk hsh buf)) → Wd p l e { frames := 0, cells := 0, slots := 0, locals := 0 } s m args below meth c 5 D A 0 0 Q 12 [(0, .ref (ad 0)), (1, .int st.1), (2, .int p2), (3, .int st.2)] [] (w_X5_isConnected ad cI cD mlen mnodes mlinks mwk bcode hass kwk hsh buf) := by
  intro n
  induction n with
  | zero => intro st E h; cases h
  | succ n ih =>
    intro st E h kx
    obtain ⟨b, h, hk⟩ := iter_step h
    unfold b_X5_isConnected_12 at h
    refine wd_iload_n (j := 13) C 3 dX5_isConnected_12 rfl rfl rfl ?_
    refine wd_aload_n (j := 14) C 0 dX5_isConnected_13 rfl rfl rfl ?_
    refine wd_get (j := 17) (q0 := 0) (f := 0) (ci := 5) (v := .int mlen) C inX5_isConnected_X5 kX5_isConnected_1 rfl (by decide) rfl rfl dX5_isConnected_14 rfl ?_
    refine wd_icmp_ge (j := 20) (t := 69) C dX5_isConnected_17 (by decide) rfl (fun c1 => ?_) (fun c1 => ?_)
    · replace h := (if_pos c1).symm.trans h
      obtain rfl := Option.some.inj h
      obtain rfl := hk
      refine wd_lv (lv' := [(0, .ref (ad 0)), (1, .int st.1), (2, .int p2)]) [0, 1, 2] rfl ?_
      exact kx
    · replace h := (if_neg c1).symm.trans h
      refine wd_iconst (j := 21) (v := 1) C dX5_isConnected_20 (by decide) rfl ?_
      refine wd_aload_n (j := 22) C 0 dX5_isConnected_21 rfl rfl rfl ?_
      refine wd_get (j := 25) (q0 := 0) (f := 1) (ci := 5) (v := .ref (ad 1)) C inX5_isConnected_X5 kX5_isConnected_2 rfl (by decide) rfl rfl dX5_isConnected_22 rfl ?_
      refine wd_iload_n (j := 26) C 3 dX5_isConnected_25 rfl rfl rfl ?_
      obtain ⟨g2, h⟩ := grd_some h
      refine wd_iald (j := 27) (q0 := 1) (t0 := 0) C rfl rfl (inB_in g2) dX5_isConnected_26 rfl ?_
      refine wd_bipush (j := 29) (v := 48) C dX5_isConnected_27 (by decide) rfl ?_
      refine wd_isub (j := 30) C dX5_isConnected_29 rfl ?_
      refine wd_ishl (j := 31) C dX5_isConnected_30 rfl ?_
      refine wd_iconst (j := 32) (v := 1) C dX5_isConnected_31 (by decide) rfl ?_
      refine wd_aload_n (j := 33) C 0 dX5_isConnected_32 rfl rfl rfl ?_
      refine wd_get (j := 36) (q0 := 0) (f := 1) (ci := 5) (v := .ref (ad 1)) C inX5_isConnected_X5 kX5_isConnected_2 rfl (by decide) rfl rfl dX5_isConnected_33 rfl ?_
      refine wd_iload_n (j := 37) C 3 dX5_isConnected_36 rfl rfl rfl ?_
      refine wd_iconst (j := 38) (v := 1) C dX5_isConnected_37 (by decide) rfl ?_
      refine wd_iadd (j := 39) C dX5_isConnected_38 rfl ?_
      obtain ⟨g3, h⟩ := grd_some h
      refine wd_iald (j := 40) (q0 := 1) (t0 := 0) C rfl rfl (inB_in g3) dX5_isConnected_39 rfl ?_
      refine wd_bipush (j := 42) (v := 48) C dX5_isConnected_40 (by decide) rfl ?_
      refine wd_isub (j := 43) C dX5_isConnected_42 rfl ?_
      refine wd_ishl (j := 44) C dX5_isConnected_43 rfl ?_
      refine wd_ior (j := 45) C dX5_isConnected_44 rfl ?_
      refine wd_istore (j := 47) (lv' := [(4, .int (((1 : Int32) <<< (((buf st.2.toNatClampNeg) - (48 : Int32)) &&& 31)) ||| ((1 : Int32) <<< (((buf (st.2 + (1 : Int32)).toNatClampNeg) - (48 : Int32)) &&& 31)))), (0, .ref (ad 0)), (1, .int st.1), (2, .int p2), (3, .int st.2)]) C dX5_isConnected_45 (by decide) rfl rfl ?_
      refine wd_iload_n (j := 48) C 2 dX5_isConnected_47 rfl rfl rfl ?_
      refine wd_iload_n (j := 49) C 2 dX5_isConnected_48 rfl rfl rfl ?_
      refine wd_iload (j := 51) C 0 dX5_isConnected_49 rfl rfl ?_
      refine wd_iand (j := 52) C dX5_isConnected_51 rfl ?_
      refine wd_if_eq (j := 55) (t := 60) C dX5_isConnected_52 (by decide) rfl (fun c4 => ?_) (fun c4 => ?_)
      · replace h := (if_pos c4).symm.trans h
        refine wd_iconst (j := 61) (v := 0) C dX5_isConnected_60 (by decide) rfl ?_
        refine wd_ior (j := 62) C dX5_isConnected_61 rfl ?_
        refine wd_istore_n (j := 63) (lv' := [(1, .int (st.1 ||| (0 : Int32))), (4, .int (((1 : Int32) <<< (((buf st.2.toNatClampNeg) - (48 : Int32)) &&& 31)) ||| ((1 : Int32) <<< (((buf (st.2 + (1 : Int32)).toNatClampNeg) - (48 : Int32)) &&& 31)))), (0, .ref (ad 0)), (2, .int p2), (3, .int st.2)]) C dX5_isConnected_62 rfl (by decide) rfl rfl ?_
        refine wd_iinc (j := 66) (lv' := [(3, .int (st.2 + 3)), (1, .int (st.1 ||| (0 : Int32))), (4, .int (((1 : Int32) <<< (((buf st.2.toNatClampNeg) - (48 : Int32)) &&& 31)) ||| ((1 : Int32) <<< (((buf (st.2 + (1 : Int32)).toNatClampNeg) - (48 : Int32)) &&& 31)))), (0, .ref (ad 0)), (2, .int p2)]) C 4 dX5_isConnected_63 rfl rfl (by decide) rfl rfl ?_
        refine wd_goto (t := 12) C dX5_isConnected_66 (by decide) ?_
        obtain rfl := Option.some.inj h
        refine wd_lv (lv' := [(0, .ref (ad 0)), (1, .int (st.1 ||| (0 : Int32))), (2, .int p2), (3, .int (st.2 + 3))]) [3, 1, 4, 0] rfl ?_
        exact ih ((st.1 ||| (0 : Int32)), (st.2 + 3)) E hk kx
      · replace h := (if_neg c4).symm.trans h
        refine wd_iload (j := 57) C 0 dX5_isConnected_55 rfl rfl ?_
        refine wd_goto (t := 61) C dX5_isConnected_57 (by decide) ?_
        refine wd_ior (j := 62) C dX5_isConnected_61 rfl ?_
        refine wd_istore_n (j := 63) (lv' := [(1, .int (st.1 ||| (((1 : Int32) <<< (((buf st.2.toNatClampNeg) - (48 : Int32)) &&& 31)) ||| ((1 : Int32) <<< (((buf (st.2 + (1 : Int32)).toNatClampNeg) - (48 : Int32)) &&& 31))))), (4, .int (((1 : Int32) <<< (((buf st.2.toNatClampNeg) - (48 : Int32)) &&& 31)) ||| ((1 : Int32) <<< (((buf (st.2 + (1 : Int32)).toNatClampNeg) - (48 : Int32)) &&& 31)))), (0, .ref (ad 0)), (2, .int p2), (3, .int st.2)]) C dX5_isConnected_62 rfl (by decide) rfl rfl ?_
        refine wd_iinc (j := 66) (lv' := [(3, .int (st.2 + 3)), (1, .int (st.1 ||| (((1 : Int32) <<< (((buf st.2.toNatClampNeg) - (48 : Int32)) &&& 31)) ||| ((1 : Int32) <<< (((buf (st.2 + (1 : Int32)).toNatClampNeg) - (48 : Int32)) &&& 31))))), (4, .int (((1 : Int32) <<< (((buf st.2.toNatClampNeg) - (48 : Int32)) &&& 31)) ||| ((1 : Int32) <<< (((buf (st.2 + (1 : Int32)).toNatClampNeg) - (48 : Int32)) &&& 31)))), (0, .ref (ad 0)), (2, .int p2)]) C 4 dX5_isConnected_63 rfl rfl (by decide) rfl rfl ?_
        refine wd_goto (t := 12) C dX5_isConnected_66 (by decide) ?_
        obtain rfl := Option.some.inj h
        refine wd_lv (lv' := [(0, .ref (ad 0)), (1, .int (st.1 ||| (((1 : Int32) <<< (((buf st.2.toNatClampNeg) - (48 : Int32)) &&& 31)) ||| ((1 : Int32) <<< (((buf (st.2 + (1 : Int32)).toNatClampNeg) - (48 : Int32)) &&& 31))))), (2, .int p2), (3, .int (st.2 + 3))]) [3, 1, 4, 0] rfl ?_
        exact ih ((st.1 ||| (((1 : Int32) <<< (((buf st.2.toNatClampNeg) - (48 : Int32)) &&& 31)) ||| ((1 : Int32) <<< (((buf (st.2 + (1 : Int32)).toNatClampNeg) - (48 : Int32)) &&& 31)))), (st.2 + 3)) E hk kx
set_option maxRecDepth 100000 in
set_option maxHeartbeats 4000000 in
theorem lw_X5_isConnected_4 (l : Launch) (D : va_G) (cI cD : ClassId) (ad : Nat → Nat) (N : Nat) (mnodes : Int32) (mlinks : Int32) (mwk : Int32) (bcode : Int32) (hass : Int32) (kwk : Int32) (hsh : Int64) (mlen : Int32) (buf : Nat → Int32)  {p : Program} {e : Env} {s : State} {m : MethodId} {args : Array Value} {below : List Frame} {meth : Method} {c : Code} {A : Nat → Prop} {Q : State → Prop} (C : wd_C p m c cX5_isConnected 5 s args wsX5_isConnected RX5 D [(cI, .int), (cD, .double)] A) : ∀ (n : Nat) (st : Int32 × Int32) (E : Int32), iter (b_X5_isConnected_4 N mlen buf) n st = some E → (Wd p l e { frames := 0, cells := 0, slots := 0, locals := 0 } s m args below meth c 5 D A 0 0 Q 75 [(0, .ref (ad 0)), (1, .int E)] [] (w_X5_isConnected ad cI cD mlen mnodes mlinks mwk bcode hass kwk hsh buf)) → Wd p l e { frames := 0, cells := 0, slots := 0, locals := 0 } s m args below meth c 5 D A 0 0 Q 4 [(0, .ref (ad 0)), (1, .int st.1), (2, .int st.2)] [] (w_X5_isConnected ad cI cD mlen mnodes mlinks mwk bcode hass kwk hsh buf) := by
  intro n
  induction n with
  | zero => intro st E h; cases h
  | succ n ih =>
    intro st E h kx
    obtain ⟨b, h, hk⟩ := iter_step h
    unfold b_X5_isConnected_4 at h
    refine wd_iload_n (j := 5) C 2 dX5_isConnected_4 rfl rfl rfl ?_
    refine wd_bipush (j := 7) (v := 8) C dX5_isConnected_5 (by decide) rfl ?_
    refine wd_icmp_ge (j := 10) (t := 75) C dX5_isConnected_7 (by decide) rfl (fun c5 => ?_) (fun c5 => ?_)
    · replace h := (if_pos c5).symm.trans h
      obtain rfl := Option.some.inj h
      obtain rfl := hk
      refine wd_lv (lv' := [(0, .ref (ad 0)), (1, .int st.1)]) [0, 1] rfl ?_
      exact kx
    · replace h := (if_neg c5).symm.trans h
      refine wd_iconst (j := 11) (v := 2) C dX5_isConnected_10 (by decide) rfl ?_
      refine wd_istore_n (j := 12) (lv' := [(3, .int (2 : Int32)), (0, .ref (ad 0)), (1, .int st.1), (2, .int st.2)]) C dX5_isConnected_11 rfl (by decide) rfl rfl ?_
      refine wd_lv (lv' := [(0, .ref (ad 0)), (1, .int st.1), (2, .int st.2), (3, .int (2 : Int32))]) [1, 2, 3, 0] rfl ?_
      obtain ⟨u6, hu6, h⟩ := bnd_some h
      refine lw_X5_isConnected_12 l D cI cD ad N mnodes mlinks mwk bcode hass kwk hsh mlen buf st.2 C N (st.1, (2 : Int32)) u6 hu6 ?_
      refine wd_iinc (j := 72) (lv' := [(2, .int (st.2 + 1)), (0, .ref (ad 0)), (1, .int u6)]) C 2 dX5_isConnected_69 rfl rfl (by decide) rfl rfl ?_
      refine wd_goto (t := 4) C dX5_isConnected_72 (by decide) ?_
      obtain rfl := Option.some.inj h
      refine wd_lv (lv' := [(0, .ref (ad 0)), (1, .int u6), (2, .int (st.2 + 1))]) [1, 2, 0] rfl ?_
      exact ih (u6, (st.2 + 1)) E hk kx
set_option maxRecDepth 100000 in
set_option maxHeartbeats 4000000 in
theorem c_X5_isConnected (l : Launch) (D : va_G) (cI cD : ClassId) (ad : Nat → Nat) (N : Nat) (mlen : Int32) (mnodes : Int32) (mlinks : Int32) (mwk : Int32) (bcode : Int32) (hass : Int32) (kwk : Int32) (hsh : Int64) (buf : Nat → Int32)  (u : Int32) (h : f_X5_isConnected N mlen buf = some u) : MetI l yX5_isConnected wsX5_isConnected { frames := 0, cells := 0, slots := 0, locals := 0 } D [(cI, .int), (cD, .double)] [.ref (ad 0)] (w_X5_isConnected ad cI cD mlen mnodes mlinks mwk bcode hass kwk hsh buf) u (w_X5_isConnected ad cI cD mlen mnodes mlinks mwk bcode hass kwk hsh buf) := by
  refine MetI.of (own := RX5) (cc := cX5_isConnected) (nL := 5) (ret := (some .boolean)) (by decide) rfl rfl (Nat.le_of_ble_eq_true rfl) rfl ?_
  intro p e s m args below meth c A hA C hr hlk
  unfold f_X5_isConnected at h
  refine wd_iconst (j := 1) (v := 1) C dX5_isConnected_0 (by decide) rfl ?_
  refine wd_istore_n (j := 2) (lv' := [(1, .int (1 : Int32)), (0, .ref (ad 0))]) C dX5_isConnected_1 rfl (by decide) rfl rfl ?_
  refine wd_iconst (j := 3) (v := 0) C dX5_isConnected_2 (by decide) rfl ?_
  refine wd_istore_n (j := 4) (lv' := [(2, .int (0 : Int32)), (1, .int (1 : Int32)), (0, .ref (ad 0))]) C dX5_isConnected_3 rfl (by decide) rfl rfl ?_
  refine wd_lv (lv' := [(0, .ref (ad 0)), (1, .int (1 : Int32)), (2, .int (0 : Int32))]) [2, 1, 0] rfl ?_
  obtain ⟨u7, hu7, h⟩ := bnd_some h
  refine lw_X5_isConnected_4 l D cI cD ad N mnodes mlinks mwk bcode hass kwk hsh mlen buf C N ((1 : Int32), (0 : Int32)) u7 hu7 ?_
  refine wd_iload_n (j := 76) C 1 dX5_isConnected_75 rfl rfl rfl ?_
  refine wd_iconst (j := 77) (v := 1) C dX5_isConnected_76 (by decide) rfl ?_
  refine wd_aload_n (j := 78) C 0 dX5_isConnected_77 rfl rfl rfl ?_
  refine wd_get (j := 81) (q0 := 0) (f := 1) (ci := 5) (v := .ref (ad 1)) C inX5_isConnected_X5 kX5_isConnected_2 rfl (by decide) rfl rfl dX5_isConnected_78 rfl ?_
  refine wd_iconst (j := 82) (v := 0) C dX5_isConnected_81 (by decide) rfl ?_
  refine wd_iald (j := 83) (q0 := 1) (t0 := 0) C rfl rfl (inB_in (by decide)) dX5_isConnected_82 rfl ?_
  refine wd_bipush (j := 85) (v := 48) C dX5_isConnected_83 (by decide) rfl ?_
  refine wd_isub (j := 86) C dX5_isConnected_85 rfl ?_
  refine wd_ishl (j := 87) C dX5_isConnected_86 rfl ?_
  refine wd_iconst (j := 88) (v := 1) C dX5_isConnected_87 (by decide) rfl ?_
  refine wd_isub (j := 89) C dX5_isConnected_88 rfl ?_
  refine wd_icmp_ne (j := 92) (t := 96) C dX5_isConnected_89 (by decide) rfl (fun c8 => ?_) (fun c8 => ?_)
  · replace h := (if_neg c8).symm.trans h
    refine wd_iconst (j := 97) (v := 0) C dX5_isConnected_96 (by decide) rfl ?_
    obtain rfl := Option.some.inj h
    exact wd_iret C hA hr hlk rfl rfl rfl dX5_isConnected_97
  · replace h := (if_pos c8).symm.trans h
    refine wd_iconst (j := 93) (v := 1) C dX5_isConnected_92 (by decide) rfl ?_
    refine wd_goto (t := 97) C dX5_isConnected_93 (by decide) ?_
    obtain rfl := Option.some.inj h
    exact wd_iret C hA hr hlk rfl rfl rfl dX5_isConnected_97
abbrev w_X5_join (ad : Nat → Nat) (cI cD : ClassId) (mlen : Int32) (mnodes : Int32) (mlinks : Int32) (mwk : Int32) (bcode : Int32) (hass : Int32) (kwk : Int32) (hsh : Int64) (tab : Nat → Int32) (mdeg : Nat → Int32) : va_W := [((ad 0), .inr (5, [.int mlen, .ref (ad 1), .int mnodes, .int mlinks, .ref (ad 2), .ref (ad 3), .ref (ad 4), .int mwk, .ref (ad 5), .ref (ad 6), .ref (ad 7), .ref (ad 8), .ref (ad 9), .int bcode, .ref (ad 10), .ref (ad 11), .int hass, .int kwk, .ref (ad 12), .ref (ad 13), .ref (ad 14), .ref (ad 15), .long hsh])), ((ad 2), .inl (cI, 64, .inl tab)), ((ad 3), .inl (cI, 8, .inl mdeg))]
theorem kX5_join_1 : Cond.fieldLink "RotorRouterModel" 13 "RotorRouterModel" "table" "[I" ∈ wsX5_join := List.mem_of_getElem? (i := 1) rfl
theorem kX5_join_2 : Cond.fieldLink "RotorRouterModel" 16 "RotorRouterModel" "degrees" "[I" ∈ wsX5_join := List.mem_of_getElem? (i := 2) rfl
theorem inX5_join_X5 : ∀ w ∈ wsX50, w ∈ wsX5_join := fun _ h => List.mem_cons_of_mem _ (List.mem_append_right _ h)
set_option maxRecDepth 100000 in
set_option maxHeartbeats 4000000 in
theorem c_X5_join (l : Launch) (D : va_G) (cI cD : ClassId) (ad : Nat → Nat) (mlen : Int32) (mnodes : Int32) (mlinks : Int32) (mwk : Int32) (bcode : Int32) (hass : Int32) (kwk : Int32) (hsh : Int64) (tab : Nat → Int32) (mdeg : Nat → Int32) (p1 : Int32) (p2 : Int32) (u : (Nat → Int32) × (Nat → Int32)) (h : f_X5_join tab mdeg p1 p2 = some u) : MetV l yX5_join wsX5_join { frames := 0, cells := 0, slots := 0, locals := 0 } D [(cI, .int), (cD, .double)] [.ref (ad 0), .int p1, .int p2] (w_X5_join ad cI cD mlen mnodes mlinks mwk bcode hass kwk hsh tab mdeg) (w_X5_join ad cI cD mlen mnodes mlinks mwk bcode hass kwk hsh u.1 u.2) := by
  refine MetV.of (own := RX5) (cc := cX5_join) (nL := 3) (ret := none) (by decide) rfl rfl (Nat.le_of_ble_eq_true rfl) rfl ?_
  intro p e s m args below meth c A hA C hr hlk
  unfold f_X5_join at h
  refine wd_aload_n (j := 1) C 0 dX5_join_0 rfl rfl rfl ?_
  refine wd_get (j := 4) (q0 := 0) (f := 4) (ci := 5) (v := .ref (ad 2)) C inX5_join_X5 kX5_join_1 rfl (by decide) rfl rfl dX5_join_1 rfl ?_
  refine wd_bipush (j := 6) (v := 8) C dX5_join_4 (by decide) rfl ?_
  refine wd_iload_n (j := 7) C 1 dX5_join_6 rfl rfl rfl ?_
  refine wd_imul (j := 8) C dX5_join_7 rfl ?_
  refine wd_aload_n (j := 9) C 0 dX5_join_8 rfl rfl rfl ?_
  refine wd_get (j := 12) (q0 := 0) (f := 5) (ci := 5) (v := .ref (ad 3)) C inX5_join_X5 kX5_join_2 rfl (by decide) rfl rfl dX5_join_9 rfl ?_
  refine wd_iload_n (j := 13) C 1 dX5_join_12 rfl rfl rfl ?_
  obtain ⟨g1, h⟩ := grd_some h
  refine wd_iald (j := 14) (q0 := 2) (t0 := 0) C rfl rfl (inB_in g1) dX5_join_13 rfl ?_
  refine wd_iadd (j := 15) C dX5_join_14 rfl ?_
  refine wd_iload_n (j := 16) C 2 dX5_join_15 rfl rfl rfl ?_
  obtain ⟨g2, h⟩ := grd_some h
  refine wd_iast (j := 17) (q0 := 1) (t0 := 0) (ws' := (w_X5_join ad cI cD mlen mnodes mlinks mwk bcode hass kwk hsh (upd tab (((8 : Int32) * p1) + (mdeg p1.toNatClampNeg)).toNatClampNeg p2) mdeg)) C rfl rfl (inB_in g2) rfl dX5_join_16 rfl ?_
  refine wd_aload_n (j := 18) C 0 dX5_join_17 rfl rfl rfl ?_
  refine wd_get (j := 21) (q0 := 0) (f := 5) (ci := 5) (v := .ref (ad 3)) C inX5_join_X5 kX5_join_2 rfl (by decide) rfl rfl dX5_join_18 rfl ?_
  refine wd_iload_n (j := 22) C 1 dX5_join_21 rfl rfl rfl ?_
  refine wd_dup2 (j := 23) C dX5_join_22 rfl rfl rfl ?_
  obtain ⟨g3, h⟩ := grd_some h
  refine wd_iald (j := 24) (q0 := 2) (t0 := 0) C rfl rfl (inB_in g3) dX5_join_23 rfl ?_
  refine wd_iconst (j := 25) (v := 1) C dX5_join_24 (by decide) rfl ?_
  refine wd_iadd (j := 26) C dX5_join_25 rfl ?_
  obtain ⟨g4, h⟩ := grd_some h
  refine wd_iast (j := 27) (q0 := 2) (t0 := 0) (ws' := (w_X5_join ad cI cD mlen mnodes mlinks mwk bcode hass kwk hsh (upd tab (((8 : Int32) * p1) + (mdeg p1.toNatClampNeg)).toNatClampNeg p2) (upd mdeg p1.toNatClampNeg ((mdeg p1.toNatClampNeg) + (1 : Int32))))) C rfl rfl (inB_in g4) rfl dX5_join_26 rfl ?_
  obtain rfl := Option.some.inj h
  exact wd_vret C hA hr hlk rfl dX5_join_27
abbrev w_X5_load (ad : Nat → Nat) (cI cD : ClassId) (mlen : Int32) (mnodes : Int32) (mlinks : Int32) (mwk : Int32) (bcode : Int32) (hass : Int32) (kwk : Int32) (hsh : Int64) (buf : Nat → Int32) (tab : Nat → Int32) (mdeg : Nat → Int32) (mrot : Nat → Int32) (marr : Nat → Int32) (mdep : Nat → Int32) : va_W := [((ad 0), .inr (5, [.int mlen, .ref (ad 1), .int mnodes, .int mlinks, .ref (ad 2), .ref (ad 3), .ref (ad 4), .int mwk, .ref (ad 5), .ref (ad 6), .ref (ad 7), .ref (ad 8), .ref (ad 9), .int bcode, .ref (ad 10), .ref (ad 11), .int hass, .int kwk, .ref (ad 12), .ref (ad 13), .ref (ad 14), .ref (ad 15), .long hsh])), ((ad 1), .inl (cI, 40, .inl buf)), ((ad 2), .inl (cI, 64, .inl tab)), ((ad 3), .inl (cI, 8, .inl mdeg)), ((ad 4), .inl (cI, 8, .inl mrot)), ((ad 6), .inl (cI, 8, .inl marr)), ((ad 7), .inl (cI, 64, .inl mdep))]
theorem kX5_load_1 : Cond.fieldLink "RotorRouterModel" 60 "RotorRouterModel" "length" "I" ∈ wsX5_load := List.mem_of_getElem? (i := 1) rfl
theorem kX5_load_2 : Cond.fieldLink "RotorRouterModel" 7 "RotorRouterModel" "buffer" "[I" ∈ wsX5_load := List.mem_of_getElem? (i := 2) rfl
theorem kX5_load_3 : Cond.fieldLink "RotorRouterModel" 82 "RotorRouterModel" "nodes" "I" ∈ wsX5_load := List.mem_of_getElem? (i := 3) rfl
theorem kX5_load_4 : Cond.fieldLink "RotorRouterModel" 85 "RotorRouterModel" "links" "I" ∈ wsX5_load := List.mem_of_getElem? (i := 4) rfl
theorem kX5_load_5 : Cond.fieldLink "RotorRouterModel" 28 "RotorRouterModel" "departed" "[I" ∈ wsX5_load := List.mem_of_getElem? (i := 5) rfl
theorem kX5_load_6 : Cond.fieldLink "RotorRouterModel" 16 "RotorRouterModel" "degrees" "[I" ∈ wsX5_load := List.mem_of_getElem? (i := 6) rfl
theorem kX5_load_7 : Cond.fieldLink "RotorRouterModel" 19 "RotorRouterModel" "rotors" "[I" ∈ wsX5_load := List.mem_of_getElem? (i := 7) rfl
theorem kX5_load_8 : Cond.fieldLink "RotorRouterModel" 25 "RotorRouterModel" "arrived" "[I" ∈ wsX5_load := List.mem_of_getElem? (i := 8) rfl
theorem kX5_load_9 : Cond.fieldLink "RotorRouterModel" 92 "RotorRouterModel" "walkers" "I" ∈ wsX5_load := List.mem_of_getElem? (i := 9) rfl
theorem kX5_load_10 : Cond.fieldLink "RotorRouterModel" 95 "RotorRouterModel" "hasSnapshot" "Z" ∈ wsX5_load := List.mem_of_getElem? (i := 10) rfl
theorem inX5_load_X5 : ∀ w ∈ wsX50, w ∈ wsX5_load := fun _ h => List.mem_cons_of_mem _ (List.mem_append_right _ h)
set_option maxRecDepth 100000 in
set_option maxHeartbeats 4000000 in
theorem lw_X5_load_66 (l : Launch) (D : va_G) (cI cD : ClassId) (ad : Nat → Nat) (N : Nat) (mlen : Int32) (mnodes : Int32) (mlinks : Int32) (mwk : Int32) (bcode : Int32) (hass : Int32) (kwk : Int32) (hsh : Int64) (buf : Nat → Int32) (tab : Nat → Int32)  {p : Program} {e : Env} {s : State} {m : MethodId} {args : Array Value} {below : List Frame} {meth : Method} {c : Code} {A : Nat → Prop} {Q : State → Prop} (C : wd_C p m c cX5_load 2 s args wsX5_load RX5 D [(cI, .int), (cD, .double)] A) : ∀ (n : Nat) (st : Int32 × (Nat → Int32) × (Nat → Int32) × (Nat → Int32) × (Nat → Int32)) (E : (Nat → Int32) × (Nat → Int32) × (Nat → Int32) × (Nat → Int32)), iter (b_X5_load_66) n st = some E → (Wd p l e { frames := 4, cells := 0, slots := 0, locals := 90 } s m args below meth c 2 D A 0 0 Q 115 [(0, .ref (ad 0))] [] (w_X5_load ad cI cD mlen mnodes mlinks mwk bcode hass kwk hsh buf tab E.1 E.2.1 E.2.2.1 E.2.2.2)) → Wd p l e { frames := 4, cells := 0, slots := 0, locals := 90 } s m args below meth c 2 D A 0 0 Q 66 [(0, .ref (ad 0)), (1, .int st.1)] [] (w_X5_load ad cI cD mlen mnodes mlinks mwk bcode hass kwk hsh buf tab st.2.1 st.2.2.1 st.2.2.2.1 st.2.2.2.2) := by
  intro n
  induction n with
  | zero => intro st E h; cases h
  | succ n ih =>
    intro st E h kx
    obtain ⟨b, h, hk⟩ := iter_step h
    unfold b_X5_load_66 at h
    refine wd_iload_n (j := 67) C 1 dX5_load_66 rfl rfl rfl ?_
    refine wd_bipush (j := 69) (v := 64) C dX5_load_67 (by decide) rfl ?_
    refine wd_icmp_ge (j := 72) (t := 115) C dX5_load_69 (by decide) rfl (fun c1 => ?_) (fun c1 => ?_)
    · replace h := (if_pos c1).symm.trans h
      obtain rfl := Option.some.inj h
      obtain rfl := hk
      refine wd_lv (lv' := [(0, .ref (ad 0))]) [0] rfl ?_
      exact kx
    · replace h := (if_neg c1).symm.trans h
      refine wd_aload_n (j := 73) C 0 dX5_load_72 rfl rfl rfl ?_
      refine wd_get (j := 76) (q0 := 0) (f := 10) (ci := 5) (v := .ref (ad 7)) C inX5_load_X5 kX5_load_5 rfl (by decide) rfl rfl dX5_load_73 rfl ?_
      refine wd_iload_n (j := 77) C 1 dX5_load_76 rfl rfl rfl ?_
      refine wd_iconst (j := 78) (v := 0) C dX5_load_77 (by decide) rfl ?_
      obtain ⟨g2, h⟩ := grd_some h
      refine wd_iast (j := 79) (q0 := 6) (t0 := 0) (ws' := (w_X5_load ad cI cD mlen mnodes mlinks mwk bcode hass kwk hsh buf tab st.2.1 st.2.2.1 st.2.2.2.1 (upd st.2.2.2.2 st.1.toNatClampNeg (0 : Int32)))) C rfl rfl (inB_in g2) rfl dX5_load_78 rfl ?_
      refine wd_aload_n (j := 80) C 0 dX5_load_79 rfl rfl rfl ?_
      refine wd_get (j := 83) (q0 := 0) (f := 5) (ci := 5) (v := .ref (ad 3)) C inX5_load_X5 kX5_load_6 rfl (by decide) rfl rfl dX5_load_80 rfl ?_
      refine wd_iload_n (j := 84) C 1 dX5_load_83 rfl rfl rfl ?_
      refine wd_bipush (j := 86) (v := 8) C dX5_load_84 (by decide) rfl ?_
      refine wd_irem (j := 87) C dX5_load_86 (by decide) rfl ?_
      refine wd_iconst (j := 88) (v := 0) C dX5_load_87 (by decide) rfl ?_
      obtain ⟨g3, h⟩ := grd_some h
      refine wd_iast (j := 89) (q0 := 3) (t0 := 0) (ws' := (w_X5_load ad cI cD mlen mnodes mlinks mwk bcode hass kwk hsh buf tab (upd st.2.1 (st.1 - st.1 / (8 : Int32) * (8 : Int32)).toNatClampNeg (0 : Int32)) st.2.2.1 st.2.2.2.1 (upd st.2.2.2.2 st.1.toNatClampNeg (0 : Int32)))) C rfl rfl (inB_in g3) rfl dX5_load_88 rfl ?_
      refine wd_aload_n (j := 90) C 0 dX5_load_89 rfl rfl rfl ?_
      refine wd_get (j := 93) (q0 := 0) (f := 6) (ci := 5) (v := .ref (ad 4)) C inX5_load_X5 kX5_load_7 rfl (by decide) rfl rfl dX5_load_90 rfl ?_
      refine wd_iload_n (j := 94) C 1 dX5_load_93 rfl rfl rfl ?_
      refine wd_bipush (j := 96) (v := 8) C dX5_load_94 (by decide) rfl ?_
      refine wd_irem (j := 97) C dX5_load_96 (by decide) rfl ?_
      refine wd_iconst (j := 98) (v := 0) C dX5_load_97 (by decide) rfl ?_
      obtain ⟨g4, h⟩ := grd_some h
      refine wd_iast (j := 99) (q0 := 4) (t0 := 0) (ws' := (w_X5_load ad cI cD mlen mnodes mlinks mwk bcode hass kwk hsh buf tab (upd st.2.1 (st.1 - st.1 / (8 : Int32) * (8 : Int32)).toNatClampNeg (0 : Int32)) (upd st.2.2.1 (st.1 - st.1 / (8 : Int32) * (8 : Int32)).toNatClampNeg (0 : Int32)) st.2.2.2.1 (upd st.2.2.2.2 st.1.toNatClampNeg (0 : Int32)))) C rfl rfl (inB_in g4) rfl dX5_load_98 rfl ?_
      refine wd_aload_n (j := 100) C 0 dX5_load_99 rfl rfl rfl ?_
      refine wd_get (j := 103) (q0 := 0) (f := 9) (ci := 5) (v := .ref (ad 6)) C inX5_load_X5 kX5_load_8 rfl (by decide) rfl rfl dX5_load_100 rfl ?_
      refine wd_iload_n (j := 104) C 1 dX5_load_103 rfl rfl rfl ?_
      refine wd_bipush (j := 106) (v := 8) C dX5_load_104 (by decide) rfl ?_
      refine wd_irem (j := 107) C dX5_load_106 (by decide) rfl ?_
      refine wd_iconst (j := 108) (v := 0) C dX5_load_107 (by decide) rfl ?_
      obtain ⟨g5, h⟩ := grd_some h
      refine wd_iast (j := 109) (q0 := 5) (t0 := 0) (ws' := (w_X5_load ad cI cD mlen mnodes mlinks mwk bcode hass kwk hsh buf tab (upd st.2.1 (st.1 - st.1 / (8 : Int32) * (8 : Int32)).toNatClampNeg (0 : Int32)) (upd st.2.2.1 (st.1 - st.1 / (8 : Int32) * (8 : Int32)).toNatClampNeg (0 : Int32)) (upd st.2.2.2.1 (st.1 - st.1 / (8 : Int32) * (8 : Int32)).toNatClampNeg (0 : Int32)) (upd st.2.2.2.2 st.1.toNatClampNeg (0 : Int32)))) C rfl rfl (inB_in g5) rfl dX5_load_108 rfl ?_
      refine wd_iinc (j := 112) (lv' := [(1, .int (st.1 + 1)), (0, .ref (ad 0))]) C 1 dX5_load_109 rfl rfl (by decide) rfl rfl ?_
      refine wd_goto (t := 66) C dX5_load_112 (by decide) ?_
      obtain rfl := Option.some.inj h
      refine wd_lv (lv' := [(0, .ref (ad 0)), (1, .int (st.1 + 1))]) [1, 0] rfl ?_
      exact ih ((st.1 + 1), (upd st.2.1 (st.1 - st.1 / (8 : Int32) * (8 : Int32)).toNatClampNeg (0 : Int32)), (upd st.2.2.1 (st.1 - st.1 / (8 : Int32) * (8 : Int32)).toNatClampNeg (0 : Int32)), (upd st.2.2.2.1 (st.1 - st.1 / (8 : Int32) * (8 : Int32)).toNatClampNeg (0 : Int32)), (upd st.2.2.2.2 st.1.toNatClampNeg (0 : Int32))) E hk kx
set_option maxRecDepth 100000 in
set_option maxHeartbeats 4000000 in
theorem lw_X5_load_117 (l : Launch) (D : va_G) (cI cD : ClassId) (ad : Nat → Nat) (N : Nat) (mnodes : Int32) (mlinks : Int32) (mwk : Int32) (bcode : Int32) (hass : Int32) (kwk : Int32) (hsh : Int64) (mrot : Nat → Int32) (marr : Nat → Int32) (mdep : Nat → Int32) (mlen : Int32) (buf : Nat → Int32)  {p : Program} {e : Env} {s : State} {m : MethodId} {args : Array Value} {below : List Frame} {meth : Method} {c : Code} {A : Nat → Prop} {Q : State → Prop} (C : wd_C p m c cX5_load 2 s args wsX5_load RX5 D [(cI, .int), (cD, .double)] A) : ∀ (n : Nat) (st : Int32 × (Nat → Int32) × (Nat → Int32)) (E : (Nat → Int32) × (Nat → Int32)), iter (b_X5_load_117 mlen buf) n st = some E → (Wd p l e { frames := 4, cells := 0, slots := 0, locals := 90 } s m args below meth c 2 D A 0 0 Q 179 [(0, .ref (ad 0))] [] (w_X5_load ad cI cD mlen mnodes mlinks mwk bcode hass kwk hsh buf E.1 E.2 mrot marr mdep)) → Wd p l e { frames := 4, cells := 0, slots := 0, locals := 90 } s m args below meth c 2 D A 0 0 Q 117 [(0, .ref (ad 0)), (1, .int st.1)] [] (w_X5_load ad cI cD mlen mnodes mlinks mwk bcode hass kwk hsh buf st.2.1 st.2.2 mrot marr mdep) := by
  intro n
  induction n with
  | zero => intro st E h; cases h
  | succ n ih =>
    intro st E h kx
    obtain ⟨b, h, hk⟩ := iter_step h
    unfold b_X5_load_117 at h
    refine wd_iload_n (j := 118) C 1 dX5_load_117 rfl rfl rfl ?_
    refine wd_aload_n (j := 119) C 0 dX5_load_118 rfl rfl rfl ?_
    refine wd_get (j := 122) (q0 := 0) (f := 0) (ci := 5) (v := .int mlen) C inX5_load_X5 kX5_load_1 rfl (by decide) rfl rfl dX5_load_119 rfl ?_
    refine wd_icmp_ge (j := 125) (t := 179) C dX5_load_122 (by decide) rfl (fun c6 => ?_) (fun c6 => ?_)
    · replace h := (if_pos c6).symm.trans h
      obtain rfl := Option.some.inj h
      obtain rfl := hk
      refine wd_lv (lv' := [(0, .ref (ad 0))]) [0] rfl ?_
      exact kx
    · replace h := (if_neg c6).symm.trans h
      refine wd_aload_n (j := 126) C 0 dX5_load_125 rfl rfl rfl ?_
      refine wd_aload_n (j := 127) C 0 dX5_load_126 rfl rfl rfl ?_
      refine wd_get (j := 130) (q0 := 0) (f := 1) (ci := 5) (v := .ref (ad 1)) C inX5_load_X5 kX5_load_2 rfl (by decide) rfl rfl dX5_load_127 rfl ?_
      refine wd_iload_n (j := 131) C 1 dX5_load_130 rfl rfl rfl ?_
      obtain ⟨g7, h⟩ := grd_some h
      refine wd_iald (j := 132) (q0 := 1) (t0 := 0) C rfl rfl (inB_in g7) dX5_load_131 rfl ?_
      refine wd_bipush (j := 134) (v := 48) C dX5_load_132 (by decide) rfl ?_
      refine wd_isub (j := 135) C dX5_load_134 rfl ?_
      refine wd_aload_n (j := 136) C 0 dX5_load_135 rfl rfl rfl ?_
      refine wd_get (j := 139) (q0 := 0) (f := 1) (ci := 5) (v := .ref (ad 1)) C inX5_load_X5 kX5_load_2 rfl (by decide) rfl rfl dX5_load_136 rfl ?_
      refine wd_iload_n (j := 140) C 1 dX5_load_139 rfl rfl rfl ?_
      refine wd_iconst (j := 141) (v := 1) C dX5_load_140 (by decide) rfl ?_
      refine wd_iadd (j := 142) C dX5_load_141 rfl ?_
      obtain ⟨g8, h⟩ := grd_some h
      refine wd_iald (j := 143) (q0 := 1) (t0 := 0) C rfl rfl (inB_in g8) dX5_load_142 rfl ?_
      refine wd_bipush (j := 145) (v := 48) C dX5_load_143 (by decide) rfl ?_
      refine wd_isub (j := 146) C dX5_load_145 rfl ?_
      obtain ⟨u9, hu9, h⟩ := bnd_some h
      refine wd_callVv (j := 149) (q0 := 0) (ci := 5) (As := [.int ((buf st.1.toNatClampNeg) - (48 : Int32)), .int ((buf (st.1 + (1 : Int32)).toNatClampNeg) - (48 : Int32))]) (rest := []) (ws' := (w_X5_load ad cI cD mlen mnodes mlinks mwk bcode hass kwk hsh buf u9.1 u9.2 mrot marr mdep)) C (c_X5_join l D cI cD ad mlen mnodes mlinks mwk bcode hass kwk hsh st.2.1 st.2.2 ((buf st.1.toNatClampNeg) - (48 : Int32)) ((buf (st.1 + (1 : Int32)).toNatClampNeg) - (48 : Int32)) u9 hu9) (cwV 2 C.1.2.2.2.2 gX5_load_X5_join rfl rfl rfl (by decide +kernel) ⟨Nat.le_of_ble_eq_true rfl, Nat.le_of_ble_eq_true rfl⟩) rfl rfl [0, 2, 3] [1, 4, 5, 6] rfl rfl rfl rfl (by decide) [4, 0, 5, 6, 1, 2, 3] rfl rfl rfl (Nat.le_of_ble_eq_true rfl) (Nat.le_of_ble_eq_true rfl) (Nat.le_of_ble_eq_true rfl) dX5_load_146 rfl ?_
      refine wd_aload_n (j := 150) C 0 dX5_load_149 rfl rfl rfl ?_
      refine wd_aload_n (j := 151) C 0 dX5_load_150 rfl rfl rfl ?_
      refine wd_get (j := 154) (q0 := 0) (f := 1) (ci := 5) (v := .ref (ad 1)) C inX5_load_X5 kX5_load_2 rfl (by decide) rfl rfl dX5_load_151 rfl ?_
      refine wd_iload_n (j := 155) C 1 dX5_load_154 rfl rfl rfl ?_
      refine wd_iconst (j := 156) (v := 1) C dX5_load_155 (by decide) rfl ?_
      refine wd_iadd (j := 157) C dX5_load_156 rfl ?_
      obtain ⟨g10, h⟩ := grd_some h
      refine wd_iald (j := 158) (q0 := 1) (t0 := 0) C rfl rfl (inB_in g10) dX5_load_157 rfl ?_
      refine wd_bipush (j := 160) (v := 48) C dX5_load_158 (by decide) rfl ?_
      refine wd_isub (j := 161) C dX5_load_160 rfl ?_
      refine wd_aload_n (j := 162) C 0 dX5_load_161 rfl rfl rfl ?_
      refine wd_get (j := 165) (q0 := 0) (f := 1) (ci := 5) (v := .ref (ad 1)) C inX5_load_X5 kX5_load_2 rfl (by decide) rfl rfl dX5_load_162 rfl ?_
      refine wd_iload_n (j := 166) C 1 dX5_load_165 rfl rfl rfl ?_
      obtain ⟨g11, h⟩ := grd_some h
      refine wd_iald (j := 167) (q0 := 1) (t0 := 0) C rfl rfl (inB_in g11) dX5_load_166 rfl ?_
      refine wd_bipush (j := 169) (v := 48) C dX5_load_167 (by decide) rfl ?_
      refine wd_isub (j := 170) C dX5_load_169 rfl ?_
      obtain ⟨u12, hu12, h⟩ := bnd_some h
      refine wd_callVv (j := 173) (q0 := 0) (ci := 5) (As := [.int ((buf (st.1 + (1 : Int32)).toNatClampNeg) - (48 : Int32)), .int ((buf st.1.toNatClampNeg) - (48 : Int32))]) (rest := []) (ws' := (w_X5_load ad cI cD mlen mnodes mlinks mwk bcode hass kwk hsh buf u12.1 u12.2 mrot marr mdep)) C (c_X5_join l D cI cD ad mlen mnodes mlinks mwk bcode hass kwk hsh u9.1 u9.2 ((buf (st.1 + (1 : Int32)).toNatClampNeg) - (48 : Int32)) ((buf st.1.toNatClampNeg) - (48 : Int32)) u12 hu12) (cwV 2 C.1.2.2.2.2 gX5_load_X5_join rfl rfl rfl (by decide +kernel) ⟨Nat.le_of_ble_eq_true rfl, Nat.le_of_ble_eq_true rfl⟩) rfl rfl [0, 2, 3] [1, 4, 5, 6] rfl rfl rfl rfl (by decide) [4, 0, 5, 6, 1, 2, 3] rfl rfl rfl (Nat.le_of_ble_eq_true rfl) (Nat.le_of_ble_eq_true rfl) (Nat.le_of_ble_eq_true rfl) dX5_load_170 rfl ?_
      refine wd_iinc (j := 176) (lv' := [(1, .int (st.1 + 3)), (0, .ref (ad 0))]) C 1 dX5_load_173 rfl rfl (by decide) rfl rfl ?_
      refine wd_goto (t := 117) C dX5_load_176 (by decide) ?_
      obtain rfl := Option.some.inj h
      refine wd_lv (lv' := [(0, .ref (ad 0)), (1, .int (st.1 + 3))]) [1, 0] rfl ?_
      exact ih ((st.1 + 3), u12.1, u12.2) E hk kx
set_option maxRecDepth 100000 in
set_option maxHeartbeats 4000000 in
theorem c_X5_load (l : Launch) (D : va_G) (cI cD : ClassId) (ad : Nat → Nat) (N : Nat) (mlen : Int32) (mnodes : Int32) (mlinks : Int32) (mwk : Int32) (bcode : Int32) (hass : Int32) (kwk : Int32) (hsh : Int64) (buf : Nat → Int32) (tab : Nat → Int32) (mdeg : Nat → Int32) (mrot : Nat → Int32) (marr : Nat → Int32) (mdep : Nat → Int32)  (u : Int32 × Int32 × Int32 × Int32 × Int32 × Int32 × (Nat → Int32) × (Nat → Int32) × (Nat → Int32) × (Nat → Int32) × (Nat → Int32)) (h : f_X5_load N mlen mnodes mlinks mwk hass buf tab mdeg mrot marr mdep = some u) : MetI l yX5_load wsX5_load { frames := 4, cells := 0, slots := 0, locals := 90 } D [(cI, .int), (cD, .double)] [.ref (ad 0)] (w_X5_load ad cI cD mlen mnodes mlinks mwk bcode hass kwk hsh buf tab mdeg mrot marr mdep) u.1 (w_X5_load ad cI cD u.2.1 u.2.2.1 u.2.2.2.1 u.2.2.2.2.1 bcode u.2.2.2.2.2.1 kwk hsh buf u.2.2.2.2.2.2.1 u.2.2.2.2.2.2.2.1 u.2.2.2.2.2.2.2.2.1 u.2.2.2.2.2.2.2.2.2.1 u.2.2.2.2.2.2.2.2.2.2) := by
  refine MetI.of (own := RX5) (cc := cX5_load) (nL := 2) (ret := (some .int)) (by decide) rfl rfl (Nat.le_of_ble_eq_true rfl) rfl ?_
  intro p e s m args below meth c A hA C hr hlk
  unfold f_X5_load at h
  refine wd_aload_n (j := 1) C 0 dX5_load_0 rfl rfl rfl ?_
  refine wd_get (j := 4) (q0 := 0) (f := 0) (ci := 5) (v := .int mlen) C inX5_load_X5 kX5_load_1 rfl (by decide) rfl rfl dX5_load_1 rfl ?_
  refine wd_iconst (j := 5) (v := 4) C dX5_load_4 (by decide) rfl ?_
  refine wd_icmp_lt (j := 8) (t := 36) C dX5_load_5 (by decide) rfl (fun c13 => ?_) (fun c13 => ?_)
  · replace h := (if_pos c13).symm.trans h
    refine wd_bipush (j := 38) (v := -3) C dX5_load_36 (by decide) rfl ?_
    obtain rfl := Option.some.inj h
    exact wd_iret C hA hr hlk rfl rfl rfl dX5_load_38
  · replace h := (if_neg c13).symm.trans h
    refine wd_aload_n (j := 9) C 0 dX5_load_8 rfl rfl rfl ?_
    refine wd_get (j := 12) (q0 := 0) (f := 0) (ci := 5) (v := .int mlen) C inX5_load_X5 kX5_load_1 rfl (by decide) rfl rfl dX5_load_9 rfl ?_
    refine wd_iconst (j := 13) (v := 3) C dX5_load_12 (by decide) rfl ?_
    refine wd_irem (j := 14) C dX5_load_13 (by decide) rfl ?_
    refine wd_iconst (j := 15) (v := 1) C dX5_load_14 (by decide) rfl ?_
    refine wd_icmp_ne (j := 18) (t := 36) C dX5_load_15 (by decide) rfl (fun c14 => ?_) (fun c14 => ?_)
    · replace h := (if_neg c14).symm.trans h
      refine wd_bipush (j := 38) (v := -3) C dX5_load_36 (by decide) rfl ?_
      obtain rfl := Option.some.inj h
      exact wd_iret C hA hr hlk rfl rfl rfl dX5_load_38
    · replace h := (if_pos c14).symm.trans h
      refine wd_aload_n (j := 19) C 0 dX5_load_18 rfl rfl rfl ?_
      obtain ⟨u15, hu15, h⟩ := bnd_some h
      refine wd_callVi (j := 22) (q0 := 0) (ci := 5) (As := []) (rest := []) (ws' := (w_X5_load ad cI cD mlen mnodes mlinks mwk bcode hass kwk hsh buf tab mdeg mrot marr mdep)) C (c_X5_rightLength l D cI cD ad N mlen mnodes mlinks mwk bcode hass kwk hsh buf u15 hu15) (cwV 0 C.1.2.2.2.2 gX5_load_X5_rightLength rfl rfl rfl (by decide +kernel) ⟨Nat.le_of_ble_eq_true rfl, Nat.le_of_ble_eq_true rfl⟩) rfl rfl [0, 1] [2, 3, 4, 5, 6] rfl rfl rfl rfl (by decide) [5, 6, 0, 1, 2, 3, 4] rfl rfl rfl (Nat.le_of_ble_eq_true rfl) (Nat.le_of_ble_eq_true rfl) (Nat.le_of_ble_eq_true rfl) dX5_load_19 rfl ?_
      refine wd_aload_n (j := 23) C 0 dX5_load_22 rfl rfl rfl ?_
      refine wd_get (j := 26) (q0 := 0) (f := 0) (ci := 5) (v := .int mlen) C inX5_load_X5 kX5_load_1 rfl (by decide) rfl rfl dX5_load_23 rfl ?_
      refine wd_icmp_lt (j := 29) (t := 36) C dX5_load_26 (by decide) rfl (fun c16 => ?_) (fun c16 => ?_)
      · replace h := (if_pos c16).symm.trans h
        refine wd_bipush (j := 38) (v := -3) C dX5_load_36 (by decide) rfl ?_
        obtain rfl := Option.some.inj h
        exact wd_iret C hA hr hlk rfl rfl rfl dX5_load_38
      · replace h := (if_neg c16).symm.trans h
        refine wd_aload_n (j := 30) C 0 dX5_load_29 rfl rfl rfl ?_
        obtain ⟨u17, hu17, h⟩ := bnd_some h
        refine wd_callVi (j := 33) (q0 := 0) (ci := 5) (As := []) (rest := []) (ws' := (w_X5_load ad cI cD mlen mnodes mlinks mwk bcode hass kwk hsh buf tab mdeg mrot marr mdep)) C (c_X5_isConnected l D cI cD ad N mlen mnodes mlinks mwk bcode hass kwk hsh buf u17 hu17) (cwV 0 C.1.2.2.2.2 gX5_load_X5_isConnected rfl rfl rfl (by decide +kernel) ⟨Nat.le_of_ble_eq_true rfl, Nat.le_of_ble_eq_true rfl⟩) rfl rfl [0, 1] [2, 3, 4, 5, 6] rfl rfl rfl rfl (by decide) [5, 6, 0, 1, 2, 3, 4] rfl rfl rfl (Nat.le_of_ble_eq_true rfl) (Nat.le_of_ble_eq_true rfl) (Nat.le_of_ble_eq_true rfl) dX5_load_30 rfl ?_
        refine wd_if_ne (j := 36) (t := 39) C dX5_load_33 (by decide) rfl (fun c18 => ?_) (fun c18 => ?_)
        · replace h := (if_neg c18).symm.trans h
          refine wd_aload_n (j := 40) C 0 dX5_load_39 rfl rfl rfl ?_
          refine wd_aload_n (j := 41) C 0 dX5_load_40 rfl rfl rfl ?_
          refine wd_get (j := 44) (q0 := 0) (f := 1) (ci := 5) (v := .ref (ad 1)) C inX5_load_X5 kX5_load_2 rfl (by decide) rfl rfl dX5_load_41 rfl ?_
          refine wd_iconst (j := 45) (v := 0) C dX5_load_44 (by decide) rfl ?_
          refine wd_iald (j := 46) (q0 := 1) (t0 := 0) C rfl rfl (inB_in (by decide)) dX5_load_45 rfl ?_
          refine wd_bipush (j := 48) (v := 48) C dX5_load_46 (by decide) rfl ?_
          refine wd_isub (j := 49) C dX5_load_48 rfl ?_
          refine wd_put (j := 52) (q0 := 0) (f := 2) (ci := 5) (ws' := (w_X5_load ad cI cD mlen ((buf 0) - (48 : Int32)) mlinks mwk bcode hass kwk hsh buf tab mdeg mrot marr mdep)) C inX5_load_X5 tyX5 tyX5_ok nmX5 kX5_load_3 rfl (by decide) rfl rfl rfl rfl (Nat.le_of_ble_eq_true rfl) rfl dX5_load_49 rfl ?_
          refine wd_aload_n (j := 53) C 0 dX5_load_52 rfl rfl rfl ?_
          refine wd_aload_n (j := 54) C 0 dX5_load_53 rfl rfl rfl ?_
          refine wd_get (j := 57) (q0 := 0) (f := 0) (ci := 5) (v := .int mlen) C inX5_load_X5 kX5_load_1 rfl (by decide) rfl rfl dX5_load_54 rfl ?_
          refine wd_iconst (j := 58) (v := 1) C dX5_load_57 (by decide) rfl ?_
          refine wd_isub (j := 59) C dX5_load_58 rfl ?_
          refine wd_iconst (j := 60) (v := 3) C dX5_load_59 (by decide) rfl ?_
          refine wd_idiv (j := 61) C dX5_load_60 (by decide) rfl ?_
          refine wd_put (j := 64) (q0 := 0) (f := 3) (ci := 5) (ws' := (w_X5_load ad cI cD mlen ((buf 0) - (48 : Int32)) ((mlen - (1 : Int32)) / (3 : Int32)) mwk bcode hass kwk hsh buf tab mdeg mrot marr mdep)) C inX5_load_X5 tyX5 tyX5_ok nmX5 kX5_load_4 rfl (by decide) rfl rfl rfl rfl (Nat.le_of_ble_eq_true rfl) rfl dX5_load_61 rfl ?_
          refine wd_iconst (j := 65) (v := 0) C dX5_load_64 (by decide) rfl ?_
          refine wd_istore_n (j := 66) (lv' := [(1, .int (0 : Int32)), (0, .ref (ad 0))]) C dX5_load_65 rfl (by decide) rfl rfl ?_
          refine wd_lv (lv' := [(0, .ref (ad 0)), (1, .int (0 : Int32))]) [1, 0] rfl ?_
          obtain ⟨u19, hu19, h⟩ := bnd_some h
          refine lw_X5_load_66 l D cI cD ad N mlen ((buf 0) - (48 : Int32)) ((mlen - (1 : Int32)) / (3 : Int32)) mwk bcode hass kwk hsh buf tab C N ((0 : Int32), mdeg, mrot, marr, mdep) u19 hu19 ?_
          refine wd_iconst (j := 116) (v := 2) C dX5_load_115 (by decide) rfl ?_
          refine wd_istore_n (j := 117) (lv' := [(1, .int (2 : Int32)), (0, .ref (ad 0))]) C dX5_load_116 rfl (by decide) rfl rfl ?_
          refine wd_lv (lv' := [(0, .ref (ad 0)), (1, .int (2 : Int32))]) [1, 0] rfl ?_
          obtain ⟨u20, hu20, h⟩ := bnd_some h
          refine lw_X5_load_117 l D cI cD ad N ((buf 0) - (48 : Int32)) ((mlen - (1 : Int32)) / (3 : Int32)) mwk bcode hass kwk hsh u19.2.1 u19.2.2.1 u19.2.2.2 mlen buf C N ((2 : Int32), tab, u19.1) u20 hu20 ?_
          refine wd_aload_n (j := 180) C 0 dX5_load_179 rfl rfl rfl ?_
          refine wd_iconst (j := 181) (v := 0) C dX5_load_180 (by decide) rfl ?_
          refine wd_put (j := 184) (q0 := 0) (f := 7) (ci := 5) (ws' := (w_X5_load ad cI cD mlen ((buf 0) - (48 : Int32)) ((mlen - (1 : Int32)) / (3 : Int32)) (0 : Int32) bcode hass kwk hsh buf u20.1 u20.2 u19.2.1 u19.2.2.1 u19.2.2.2)) C inX5_load_X5 tyX5 tyX5_ok nmX5 kX5_load_9 rfl (by decide) rfl rfl rfl rfl (Nat.le_of_ble_eq_true rfl) rfl dX5_load_181 rfl ?_
          refine wd_aload_n (j := 185) C 0 dX5_load_184 rfl rfl rfl ?_
          refine wd_iconst (j := 186) (v := 0) C dX5_load_185 (by decide) rfl ?_
          refine wd_put (j := 189) (q0 := 0) (f := 16) (ci := 5) (ws' := (w_X5_load ad cI cD mlen ((buf 0) - (48 : Int32)) ((mlen - (1 : Int32)) / (3 : Int32)) (0 : Int32) bcode (0 : Int32) kwk hsh buf u20.1 u20.2 u19.2.1 u19.2.2.1 u19.2.2.2)) C inX5_load_X5 tyX5 tyX5_ok nmX5 kX5_load_10 rfl (by decide) rfl rfl rfl rfl (Nat.le_of_ble_eq_true rfl) rfl dX5_load_186 rfl ?_
          refine wd_aload_n (j := 190) C 0 dX5_load_189 rfl rfl rfl ?_
          refine wd_iconst (j := 191) (v := 0) C dX5_load_190 (by decide) rfl ?_
          refine wd_put (j := 194) (q0 := 0) (f := 0) (ci := 5) (ws' := (w_X5_load ad cI cD (0 : Int32) ((buf 0) - (48 : Int32)) ((mlen - (1 : Int32)) / (3 : Int32)) (0 : Int32) bcode (0 : Int32) kwk hsh buf u20.1 u20.2 u19.2.1 u19.2.2.1 u19.2.2.2)) C inX5_load_X5 tyX5 tyX5_ok nmX5 kX5_load_1 rfl (by decide) rfl rfl rfl rfl (Nat.le_of_ble_eq_true rfl) rfl dX5_load_191 rfl ?_
          refine wd_aload_n (j := 195) C 0 dX5_load_194 rfl rfl rfl ?_
          refine wd_get (j := 198) (q0 := 0) (f := 2) (ci := 5) (v := .int ((buf 0) - (48 : Int32))) C inX5_load_X5 kX5_load_3 rfl (by decide) rfl rfl dX5_load_195 rfl ?_
          obtain rfl := Option.some.inj h
          exact wd_iret C hA hr hlk rfl rfl rfl dX5_load_198
        · replace h := (if_pos c18).symm.trans h
          refine wd_bipush (j := 38) (v := -3) C dX5_load_36 (by decide) rfl ?_
          obtain rfl := Option.some.inj h
          exact wd_iret C hA hr hlk rfl rfl rfl dX5_load_38
abbrev w_X5_isNode (ad : Nat → Nat) (cI cD : ClassId) (mlen : Int32) (mnodes : Int32) (mlinks : Int32) (mwk : Int32) (bcode : Int32) (hass : Int32) (kwk : Int32) (hsh : Int64) : va_W := [((ad 0), .inr (5, [.int mlen, .ref (ad 1), .int mnodes, .int mlinks, .ref (ad 2), .ref (ad 3), .ref (ad 4), .int mwk, .ref (ad 5), .ref (ad 6), .ref (ad 7), .ref (ad 8), .ref (ad 9), .int bcode, .ref (ad 10), .ref (ad 11), .int hass, .int kwk, .ref (ad 12), .ref (ad 13), .ref (ad 14), .ref (ad 15), .long hsh]))]
theorem kX5_isNode_1 : Cond.fieldLink "RotorRouterModel" 82 "RotorRouterModel" "nodes" "I" ∈ wsX5_isNode := List.mem_of_getElem? (i := 1) rfl
theorem inX5_isNode_X5 : ∀ w ∈ wsX50, w ∈ wsX5_isNode := fun _ h => List.mem_cons_of_mem _ (List.mem_append_right _ h)
set_option maxRecDepth 100000 in
set_option maxHeartbeats 4000000 in
theorem c_X5_isNode (l : Launch) (D : va_G) (cI cD : ClassId) (ad : Nat → Nat) (mlen : Int32) (mnodes : Int32) (mlinks : Int32) (mwk : Int32) (bcode : Int32) (hass : Int32) (kwk : Int32) (hsh : Int64) (p1 : Int32) (u : Int32) (h : f_X5_isNode mnodes p1 = some u) : MetI l yX5_isNode wsX5_isNode { frames := 1, cells := 0, slots := 0, locals := 22 } D [(cI, .int), (cD, .double)] [.ref (ad 0), .int p1] (w_X5_isNode ad cI cD mlen mnodes mlinks mwk bcode hass kwk hsh) u (w_X5_isNode ad cI cD mlen mnodes mlinks mwk bcode hass kwk hsh) := by
  refine MetI.of (own := RX5) (cc := cX5_isNode) (nL := 2) (ret := (some .boolean)) (by decide) rfl rfl (Nat.le_of_ble_eq_true rfl) rfl ?_
  intro p e s m args below meth c A hA C hr hlk
  unfold f_X5_isNode at h
  refine wd_iload_n (j := 1) C 1 dX5_isNode_0 rfl rfl rfl ?_
  refine wd_iconst (j := 2) (v := 0) C dX5_isNode_1 (by decide) rfl ?_
  refine wd_aload_n (j := 3) C 0 dX5_isNode_2 rfl rfl rfl ?_
  refine wd_get (j := 6) (q0 := 0) (f := 2) (ci := 5) (v := .int mnodes) C inX5_isNode_X5 kX5_isNode_1 rfl (by decide) rfl rfl dX5_isNode_3 rfl ?_
  refine wd_iconst (j := 7) (v := 1) C dX5_isNode_6 (by decide) rfl ?_
  refine wd_isub (j := 8) C dX5_isNode_7 rfl ?_
  obtain ⟨u1, hu1, h⟩ := bnd_some h
  refine wd_callSi (j := 11) (As := [.int p1, .int (0 : Int32), .int (mnodes - (1 : Int32))]) (rest := []) (ws' := (w_X5_isNode ad cI cD mlen mnodes mlinks mwk bcode hass kwk hsh)) C (c_X5_within l D cI cD ad p1 (0 : Int32) (mnodes - (1 : Int32)) u1 hu1) (va_cwS 3 C.1.2.2.2.2 gX5_isNode_X5_within rfl rfl rfl (by decide +kernel) ⟨Nat.le_of_ble_eq_true rfl, Nat.le_of_ble_eq_true rfl⟩) [] [0] rfl rfl rfl rfl (by decide) [0] rfl rfl rfl (Nat.le_of_ble_eq_true rfl) (Nat.le_of_ble_eq_true rfl) (Nat.le_of_ble_eq_true rfl) dX5_isNode_8 rfl ?_
  obtain ⟨g2, h⟩ := grd_some h
  obtain rfl := Option.some.inj h
  exact wd_iret C hA hr hlk (z01_in g2) rfl rfl dX5_isNode_11
abbrev w_X5_degree (ad : Nat → Nat) (cI cD : ClassId) (mlen : Int32) (mnodes : Int32) (mlinks : Int32) (mwk : Int32) (bcode : Int32) (hass : Int32) (kwk : Int32) (hsh : Int64) (mdeg : Nat → Int32) : va_W := [((ad 0), .inr (5, [.int mlen, .ref (ad 1), .int mnodes, .int mlinks, .ref (ad 2), .ref (ad 3), .ref (ad 4), .int mwk, .ref (ad 5), .ref (ad 6), .ref (ad 7), .ref (ad 8), .ref (ad 9), .int bcode, .ref (ad 10), .ref (ad 11), .int hass, .int kwk, .ref (ad 12), .ref (ad 13), .ref (ad 14), .ref (ad 15), .long hsh])), ((ad 3), .inl (cI, 8, .inl mdeg))]
theorem kX5_degree_1 : Cond.fieldLink "RotorRouterModel" 16 "RotorRouterModel" "degrees" "[I" ∈ wsX5_degree := List.mem_of_getElem? (i := 1) rfl
theorem inX5_degree_X5 : ∀ w ∈ wsX50, w ∈ wsX5_degree := fun _ h => List.mem_cons_of_mem _ (List.mem_append_right _ h)
set_option maxRecDepth 100000 in
set_option maxHeartbeats 4000000 in
theorem c_X5_degree (l : Launch) (D : va_G) (cI cD : ClassId) (ad : Nat → Nat) (mlen : Int32) (mnodes : Int32) (mlinks : Int32) (mwk : Int32) (bcode : Int32) (hass : Int32) (kwk : Int32) (hsh : Int64) (mdeg : Nat → Int32) (p1 : Int32) (u : Int32) (h : f_X5_degree mnodes mdeg p1 = some u) : MetI l yX5_degree wsX5_degree { frames := 2, cells := 0, slots := 0, locals := 43 } D [(cI, .int), (cD, .double)] [.ref (ad 0), .int p1] (w_X5_degree ad cI cD mlen mnodes mlinks mwk bcode hass kwk hsh mdeg) u (w_X5_degree ad cI cD mlen mnodes mlinks mwk bcode hass kwk hsh mdeg) := by
  refine MetI.of (own := RX5) (cc := cX5_degree) (nL := 2) (ret := (some .int)) (by decide) rfl rfl (Nat.le_of_ble_eq_true rfl) rfl ?_
  intro p e s m args below meth c A hA C hr hlk
  unfold f_X5_degree at h
  refine wd_aload_n (j := 1) C 0 dX5_degree_0 rfl rfl rfl ?_
  refine wd_iload_n (j := 2) C 1 dX5_degree_1 rfl rfl rfl ?_
  obtain ⟨u1, hu1, h⟩ := bnd_some h
  refine wd_callVi (j := 5) (q0 := 0) (ci := 5) (As := [.int p1]) (rest := []) (ws' := (w_X5_degree ad cI cD mlen mnodes mlinks mwk bcode hass kwk hsh mdeg)) C (c_X5_isNode l D cI cD ad mlen mnodes mlinks mwk bcode hass kwk hsh p1 u1 hu1) (cwV 1 C.1.2.2.2.2 gX5_degree_X5_isNode rfl rfl rfl (by decide +kernel) ⟨Nat.le_of_ble_eq_true rfl, Nat.le_of_ble_eq_true rfl⟩) rfl rfl [0] [1] rfl rfl rfl rfl (by decide) [1, 0] rfl rfl rfl (Nat.le_of_ble_eq_true rfl) (Nat.le_of_ble_eq_true rfl) (Nat.le_of_ble_eq_true rfl) dX5_degree_2 rfl ?_
  refine wd_if_eq (j := 8) (t := 17) C dX5_degree_5 (by decide) rfl (fun c2 => ?_) (fun c2 => ?_)
  · replace h := (if_pos c2).symm.trans h
    refine wd_bipush (j := 19) (v := -4) C dX5_degree_17 (by decide) rfl ?_
    obtain rfl := Option.some.inj h
    exact wd_iret C hA hr hlk rfl rfl rfl dX5_degree_19
  · replace h := (if_neg c2).symm.trans h
    refine wd_aload_n (j := 9) C 0 dX5_degree_8 rfl rfl rfl ?_
    refine wd_get (j := 12) (q0 := 0) (f := 5) (ci := 5) (v := .ref (ad 3)) C inX5_degree_X5 kX5_degree_1 rfl (by decide) rfl rfl dX5_degree_9 rfl ?_
    refine wd_iload_n (j := 13) C 1 dX5_degree_12 rfl rfl rfl ?_
    obtain ⟨g3, h⟩ := grd_some h
    refine wd_iald (j := 14) (q0 := 1) (t0 := 0) C rfl rfl (inB_in g3) dX5_degree_13 rfl ?_
    refine wd_goto (t := 19) C dX5_degree_14 (by decide) ?_
    obtain rfl := Option.some.inj h
    exact wd_iret C hA hr hlk rfl rfl rfl dX5_degree_19
abbrev w_X5_errorOf (ad : Nat → Nat) (cI cD : ClassId) (mlen : Int32) (mnodes : Int32) (mlinks : Int32) (mwk : Int32) (bcode : Int32) (hass : Int32) (kwk : Int32) (hsh : Int64) (mdeg : Nat → Int32) : va_W := [((ad 0), .inr (5, [.int mlen, .ref (ad 1), .int mnodes, .int mlinks, .ref (ad 2), .ref (ad 3), .ref (ad 4), .int mwk, .ref (ad 5), .ref (ad 6), .ref (ad 7), .ref (ad 8), .ref (ad 9), .int bcode, .ref (ad 10), .ref (ad 11), .int hass, .int kwk, .ref (ad 12), .ref (ad 13), .ref (ad 14), .ref (ad 15), .long hsh])), ((ad 3), .inl (cI, 8, .inl mdeg))]
theorem kX5_errorOf_1 : Cond.fieldLink "RotorRouterModel" 16 "RotorRouterModel" "degrees" "[I" ∈ wsX5_errorOf := List.mem_of_getElem? (i := 1) rfl
theorem inX5_errorOf_X5 : ∀ w ∈ wsX50, w ∈ wsX5_errorOf := fun _ h => List.mem_cons_of_mem _ (List.mem_append_right _ h)
set_option maxRecDepth 100000 in
set_option maxHeartbeats 4000000 in
theorem c_X5_errorOf (l : Launch) (D : va_G) (cI cD : ClassId) (ad : Nat → Nat) (mlen : Int32) (mnodes : Int32) (mlinks : Int32) (mwk : Int32) (bcode : Int32) (hass : Int32) (kwk : Int32) (hsh : Int64) (mdeg : Nat → Int32) (p1 : Int32) (p2 : Int32) (u : Int32) (h : f_X5_errorOf mnodes mdeg p1 p2 = some u) : MetI l yX5_errorOf wsX5_errorOf { frames := 2, cells := 0, slots := 0, locals := 43 } D [(cI, .int), (cD, .double)] [.ref (ad 0), .int p1, .int p2] (w_X5_errorOf ad cI cD mlen mnodes mlinks mwk bcode hass kwk hsh mdeg) u (w_X5_errorOf ad cI cD mlen mnodes mlinks mwk bcode hass kwk hsh mdeg) := by
  refine MetI.of (own := RX5) (cc := cX5_errorOf) (nL := 3) (ret := (some .int)) (by decide) rfl rfl (Nat.le_of_ble_eq_true rfl) rfl ?_
  intro p e s m args below meth c A hA C hr hlk
  unfold f_X5_errorOf at h
  refine wd_aload_n (j := 1) C 0 dX5_errorOf_0 rfl rfl rfl ?_
  refine wd_iload_n (j := 2) C 1 dX5_errorOf_1 rfl rfl rfl ?_
  obtain ⟨u1, hu1, h⟩ := bnd_some h
  refine wd_callVi (j := 5) (q0 := 0) (ci := 5) (As := [.int p1]) (rest := []) (ws' := (w_X5_errorOf ad cI cD mlen mnodes mlinks mwk bcode hass kwk hsh mdeg)) C (c_X5_isNode l D cI cD ad mlen mnodes mlinks mwk bcode hass kwk hsh p1 u1 hu1) (cwV 1 C.1.2.2.2.2 gX5_errorOf_X5_isNode rfl rfl rfl (by decide +kernel) ⟨Nat.le_of_ble_eq_true rfl, Nat.le_of_ble_eq_true rfl⟩) rfl rfl [0] [1] rfl rfl rfl rfl (by decide) [1, 0] rfl rfl rfl (Nat.le_of_ble_eq_true rfl) (Nat.le_of_ble_eq_true rfl) (Nat.le_of_ble_eq_true rfl) dX5_errorOf_2 rfl ?_
  refine wd_if_ne (j := 8) (t := 13) C dX5_errorOf_5 (by decide) rfl (fun c2 => ?_) (fun c2 => ?_)
  · replace h := (if_neg c2).symm.trans h
    refine wd_iload_n (j := 14) C 2 dX5_errorOf_13 rfl rfl rfl ?_
    refine wd_iconst (j := 15) (v := 0) C dX5_errorOf_14 (by decide) rfl ?_
    refine wd_aload_n (j := 16) C 0 dX5_errorOf_15 rfl rfl rfl ?_
    refine wd_get (j := 19) (q0 := 0) (f := 5) (ci := 5) (v := .ref (ad 3)) C inX5_errorOf_X5 kX5_errorOf_1 rfl (by decide) rfl rfl dX5_errorOf_16 rfl ?_
    refine wd_iload_n (j := 20) C 1 dX5_errorOf_19 rfl rfl rfl ?_
    obtain ⟨g3, h⟩ := grd_some h
    refine wd_iald (j := 21) (q0 := 1) (t0 := 0) C rfl rfl (inB_in g3) dX5_errorOf_20 rfl ?_
    refine wd_iconst (j := 22) (v := 1) C dX5_errorOf_21 (by decide) rfl ?_
    refine wd_isub (j := 23) C dX5_errorOf_22 rfl ?_
    obtain ⟨u4, hu4, h⟩ := bnd_some h
    refine wd_callSi (j := 26) (As := [.int p2, .int (0 : Int32), .int ((mdeg p1.toNatClampNeg) - (1 : Int32))]) (rest := []) (ws' := (w_X5_errorOf ad cI cD mlen mnodes mlinks mwk bcode hass kwk hsh mdeg)) C (c_X5_within l D cI cD ad p2 (0 : Int32) ((mdeg p1.toNatClampNeg) - (1 : Int32)) u4 hu4) (va_cwS 3 C.1.2.2.2.2 gX5_errorOf_X5_within rfl rfl rfl (by decide +kernel) ⟨Nat.le_of_ble_eq_true rfl, Nat.le_of_ble_eq_true rfl⟩) [] [0, 1] rfl rfl rfl rfl (by decide) [0, 1] rfl rfl rfl (Nat.le_of_ble_eq_true rfl) (Nat.le_of_ble_eq_true rfl) (Nat.le_of_ble_eq_true rfl) dX5_errorOf_23 rfl ?_
    refine wd_if_ne (j := 29) (t := 34) C dX5_errorOf_26 (by decide) rfl (fun c5 => ?_) (fun c5 => ?_)
    · replace h := (if_neg c5).symm.trans h
      refine wd_iconst (j := 35) (v := 0) C dX5_errorOf_34 (by decide) rfl ?_
      obtain rfl := Option.some.inj h
      exact wd_iret C hA hr hlk rfl rfl rfl dX5_errorOf_35
    · replace h := (if_pos c5).symm.trans h
      refine wd_bipush (j := 31) (v := -6) C dX5_errorOf_29 (by decide) rfl ?_
      refine wd_goto (t := 35) C dX5_errorOf_31 (by decide) ?_
      obtain rfl := Option.some.inj h
      exact wd_iret C hA hr hlk rfl rfl rfl dX5_errorOf_35
  · replace h := (if_pos c2).symm.trans h
    refine wd_bipush (j := 10) (v := -4) C dX5_errorOf_8 (by decide) rfl ?_
    refine wd_goto (t := 35) C dX5_errorOf_10 (by decide) ?_
    obtain rfl := Option.some.inj h
    exact wd_iret C hA hr hlk rfl rfl rfl dX5_errorOf_35
abbrev w_X5_neighbor (ad : Nat → Nat) (cI cD : ClassId) (mlen : Int32) (mnodes : Int32) (mlinks : Int32) (mwk : Int32) (bcode : Int32) (hass : Int32) (kwk : Int32) (hsh : Int64) (tab : Nat → Int32) (mdeg : Nat → Int32) : va_W := [((ad 0), .inr (5, [.int mlen, .ref (ad 1), .int mnodes, .int mlinks, .ref (ad 2), .ref (ad 3), .ref (ad 4), .int mwk, .ref (ad 5), .ref (ad 6), .ref (ad 7), .ref (ad 8), .ref (ad 9), .int bcode, .ref (ad 10), .ref (ad 11), .int hass, .int kwk, .ref (ad 12), .ref (ad 13), .ref (ad 14), .ref (ad 15), .long hsh])), ((ad 2), .inl (cI, 64, .inl tab)), ((ad 3), .inl (cI, 8, .inl mdeg))]
theorem kX5_neighbor_1 : Cond.fieldLink "RotorRouterModel" 13 "RotorRouterModel" "table" "[I" ∈ wsX5_neighbor := List.mem_of_getElem? (i := 1) rfl
theorem inX5_neighbor_X5 : ∀ w ∈ wsX50, w ∈ wsX5_neighbor := fun _ h => List.mem_cons_of_mem _ (List.mem_append_right _ h)
set_option maxRecDepth 100000 in
set_option maxHeartbeats 4000000 in
theorem c_X5_neighbor (l : Launch) (D : va_G) (cI cD : ClassId) (ad : Nat → Nat) (mlen : Int32) (mnodes : Int32) (mlinks : Int32) (mwk : Int32) (bcode : Int32) (hass : Int32) (kwk : Int32) (hsh : Int64) (tab : Nat → Int32) (mdeg : Nat → Int32) (p1 : Int32) (p2 : Int32) (u : Int32) (h : f_X5_neighbor mnodes tab mdeg p1 p2 = some u) : MetI l yX5_neighbor wsX5_neighbor { frames := 3, cells := 0, slots := 0, locals := 65 } D [(cI, .int), (cD, .double)] [.ref (ad 0), .int p1, .int p2] (w_X5_neighbor ad cI cD mlen mnodes mlinks mwk bcode hass kwk hsh tab mdeg) u (w_X5_neighbor ad cI cD mlen mnodes mlinks mwk bcode hass kwk hsh tab mdeg) := by
  refine MetI.of (own := RX5) (cc := cX5_neighbor) (nL := 4) (ret := (some .int)) (by decide) rfl rfl (Nat.le_of_ble_eq_true rfl) rfl ?_
  intro p e s m args below meth c A hA C hr hlk
  unfold f_X5_neighbor at h
  refine wd_aload_n (j := 1) C 0 dX5_neighbor_0 rfl rfl rfl ?_
  refine wd_iload_n (j := 2) C 1 dX5_neighbor_1 rfl rfl rfl ?_
  refine wd_iload_n (j := 3) C 2 dX5_neighbor_2 rfl rfl rfl ?_
  obtain ⟨u1, hu1, h⟩ := bnd_some h
  refine wd_callVi (j := 6) (q0 := 0) (ci := 5) (As := [.int p1, .int p2]) (rest := []) (ws' := (w_X5_neighbor ad cI cD mlen mnodes mlinks mwk bcode hass kwk hsh tab mdeg)) C (c_X5_errorOf l D cI cD ad mlen mnodes mlinks mwk bcode hass kwk hsh mdeg p1 p2 u1 hu1) (cwV 2 C.1.2.2.2.2 gX5_neighbor_X5_errorOf rfl rfl rfl (by decide +kernel) ⟨Nat.le_of_ble_eq_true rfl, Nat.le_of_ble_eq_true rfl⟩) rfl rfl [0, 2] [1] rfl rfl rfl rfl (by decide) [1, 0, 2] rfl rfl rfl (Nat.le_of_ble_eq_true rfl) (Nat.le_of_ble_eq_true rfl) (Nat.le_of_ble_eq_true rfl) dX5_neighbor_3 rfl ?_
  refine wd_istore_n (j := 7) (lv' := [(3, .int u1), (0, .ref (ad 0)), (1, .int p1), (2, .int p2)]) C dX5_neighbor_6 rfl (by decide) rfl rfl ?_
  refine wd_iload_n (j := 8) C 0 dX5_neighbor_7 rfl rfl rfl ?_
  refine wd_if_ge (j := 11) (t := 15) C dX5_neighbor_8 (by decide) rfl (fun c2 => ?_) (fun c2 => ?_)
  · replace h := (if_pos c2).symm.trans h
    refine wd_aload_n (j := 16) C 1 dX5_neighbor_15 rfl rfl rfl ?_
    refine wd_get (j := 19) (q0 := 0) (f := 4) (ci := 5) (v := .ref (ad 2)) C inX5_neighbor_X5 kX5_neighbor_1 rfl (by decide) rfl rfl dX5_neighbor_16 rfl ?_
    refine wd_bipush (j := 21) (v := 8) C dX5_neighbor_19 (by decide) rfl ?_
    refine wd_iload_n (j := 22) C 2 dX5_neighbor_21 rfl rfl rfl ?_
    refine wd_imul (j := 23) C dX5_neighbor_22 rfl ?_
    refine wd_iload_n (j := 24) C 3 dX5_neighbor_23 rfl rfl rfl ?_
    refine wd_iadd (j := 25) C dX5_neighbor_24 rfl ?_
    obtain ⟨g3, h⟩ := grd_some h
    refine wd_iald (j := 26) (q0 := 1) (t0 := 0) C rfl rfl (inB_in g3) dX5_neighbor_25 rfl ?_
    obtain rfl := Option.some.inj h
    exact wd_iret C hA hr hlk rfl rfl rfl dX5_neighbor_26
  · replace h := (if_neg c2).symm.trans h
    refine wd_iload_n (j := 12) C 0 dX5_neighbor_11 rfl rfl rfl ?_
    refine wd_goto (t := 26) C dX5_neighbor_12 (by decide) ?_
    obtain rfl := Option.some.inj h
    exact wd_iret C hA hr hlk rfl rfl rfl dX5_neighbor_26
abbrev w_X5_rotor (ad : Nat → Nat) (cI cD : ClassId) (mlen : Int32) (mnodes : Int32) (mlinks : Int32) (mwk : Int32) (bcode : Int32) (hass : Int32) (kwk : Int32) (hsh : Int64) (mrot : Nat → Int32) : va_W := [((ad 0), .inr (5, [.int mlen, .ref (ad 1), .int mnodes, .int mlinks, .ref (ad 2), .ref (ad 3), .ref (ad 4), .int mwk, .ref (ad 5), .ref (ad 6), .ref (ad 7), .ref (ad 8), .ref (ad 9), .int bcode, .ref (ad 10), .ref (ad 11), .int hass, .int kwk, .ref (ad 12), .ref (ad 13), .ref (ad 14), .ref (ad 15), .long hsh])), ((ad 4), .inl (cI, 8, .inl mrot))]
theorem kX5_rotor_1 : Cond.fieldLink "RotorRouterModel" 19 "RotorRouterModel" "rotors" "[I" ∈ wsX5_rotor := List.mem_of_getElem? (i := 1) rfl
theorem inX5_rotor_X5 : ∀ w ∈ wsX50, w ∈ wsX5_rotor := fun _ h => List.mem_cons_of_mem _ (List.mem_append_right _ h)
set_option maxRecDepth 100000 in
set_option maxHeartbeats 4000000 in
theorem c_X5_rotor (l : Launch) (D : va_G) (cI cD : ClassId) (ad : Nat → Nat) (mlen : Int32) (mnodes : Int32) (mlinks : Int32) (mwk : Int32) (bcode : Int32) (hass : Int32) (kwk : Int32) (hsh : Int64) (mrot : Nat → Int32) (p1 : Int32) (u : Int32) (h : f_X5_rotor mnodes mrot p1 = some u) : MetI l yX5_rotor wsX5_rotor { frames := 2, cells := 0, slots := 0, locals := 43 } D [(cI, .int), (cD, .double)] [.ref (ad 0), .int p1] (w_X5_rotor ad cI cD mlen mnodes mlinks mwk bcode hass kwk hsh mrot) u (w_X5_rotor ad cI cD mlen mnodes mlinks mwk bcode hass kwk hsh mrot) := by
  refine MetI.of (own := RX5) (cc := cX5_rotor) (nL := 2) (ret := (some .int)) (by decide) rfl rfl (Nat.le_of_ble_eq_true rfl) rfl ?_
  intro p e s m args below meth c A hA C hr hlk
  unfold f_X5_rotor at h
  refine wd_aload_n (j := 1) C 0 dX5_rotor_0 rfl rfl rfl ?_
  refine wd_iload_n (j := 2) C 1 dX5_rotor_1 rfl rfl rfl ?_
  obtain ⟨u1, hu1, h⟩ := bnd_some h
  refine wd_callVi (j := 5) (q0 := 0) (ci := 5) (As := [.int p1]) (rest := []) (ws' := (w_X5_rotor ad cI cD mlen mnodes mlinks mwk bcode hass kwk hsh mrot)) C (c_X5_isNode l D cI cD ad mlen mnodes mlinks mwk bcode hass kwk hsh p1 u1 hu1) (cwV 1 C.1.2.2.2.2 gX5_rotor_X5_isNode rfl rfl rfl (by decide +kernel) ⟨Nat.le_of_ble_eq_true rfl, Nat.le_of_ble_eq_true rfl⟩) rfl rfl [0] [1] rfl rfl rfl rfl (by decide) [1, 0] rfl rfl rfl (Nat.le_of_ble_eq_true rfl) (Nat.le_of_ble_eq_true rfl) (Nat.le_of_ble_eq_true rfl) dX5_rotor_2 rfl ?_
  refine wd_if_eq (j := 8) (t := 17) C dX5_rotor_5 (by decide) rfl (fun c2 => ?_) (fun c2 => ?_)
  · replace h := (if_pos c2).symm.trans h
    refine wd_bipush (j := 19) (v := -4) C dX5_rotor_17 (by decide) rfl ?_
    obtain rfl := Option.some.inj h
    exact wd_iret C hA hr hlk rfl rfl rfl dX5_rotor_19
  · replace h := (if_neg c2).symm.trans h
    refine wd_aload_n (j := 9) C 0 dX5_rotor_8 rfl rfl rfl ?_
    refine wd_get (j := 12) (q0 := 0) (f := 6) (ci := 5) (v := .ref (ad 4)) C inX5_rotor_X5 kX5_rotor_1 rfl (by decide) rfl rfl dX5_rotor_9 rfl ?_
    refine wd_iload_n (j := 13) C 1 dX5_rotor_12 rfl rfl rfl ?_
    obtain ⟨g3, h⟩ := grd_some h
    refine wd_iald (j := 14) (q0 := 1) (t0 := 0) C rfl rfl (inB_in g3) dX5_rotor_13 rfl ?_
    refine wd_goto (t := 19) C dX5_rotor_14 (by decide) ?_
    obtain rfl := Option.some.inj h
    exact wd_iret C hA hr hlk rfl rfl rfl dX5_rotor_19
abbrev w_X5_setRotor (ad : Nat → Nat) (cI cD : ClassId) (mlen : Int32) (mnodes : Int32) (mlinks : Int32) (mwk : Int32) (bcode : Int32) (hass : Int32) (kwk : Int32) (hsh : Int64) (mdeg : Nat → Int32) (mrot : Nat → Int32) : va_W := [((ad 0), .inr (5, [.int mlen, .ref (ad 1), .int mnodes, .int mlinks, .ref (ad 2), .ref (ad 3), .ref (ad 4), .int mwk, .ref (ad 5), .ref (ad 6), .ref (ad 7), .ref (ad 8), .ref (ad 9), .int bcode, .ref (ad 10), .ref (ad 11), .int hass, .int kwk, .ref (ad 12), .ref (ad 13), .ref (ad 14), .ref (ad 15), .long hsh])), ((ad 3), .inl (cI, 8, .inl mdeg)), ((ad 4), .inl (cI, 8, .inl mrot))]
theorem kX5_setRotor_1 : Cond.fieldLink "RotorRouterModel" 19 "RotorRouterModel" "rotors" "[I" ∈ wsX5_setRotor := List.mem_of_getElem? (i := 1) rfl
theorem inX5_setRotor_X5 : ∀ w ∈ wsX50, w ∈ wsX5_setRotor := fun _ h => List.mem_cons_of_mem _ (List.mem_append_right _ h)
set_option maxRecDepth 100000 in
set_option maxHeartbeats 4000000 in
theorem c_X5_setRotor (l : Launch) (D : va_G) (cI cD : ClassId) (ad : Nat → Nat) (mlen : Int32) (mnodes : Int32) (mlinks : Int32) (mwk : Int32) (bcode : Int32) (hass : Int32) (kwk : Int32) (hsh : Int64) (mdeg : Nat → Int32) (mrot : Nat → Int32) (p1 : Int32) (p2 : Int32) (u : Int32 × (Nat → Int32)) (h : f_X5_setRotor mnodes mdeg mrot p1 p2 = some u) : MetI l yX5_setRotor wsX5_setRotor { frames := 3, cells := 0, slots := 0, locals := 65 } D [(cI, .int), (cD, .double)] [.ref (ad 0), .int p1, .int p2] (w_X5_setRotor ad cI cD mlen mnodes mlinks mwk bcode hass kwk hsh mdeg mrot) u.1 (w_X5_setRotor ad cI cD mlen mnodes mlinks mwk bcode hass kwk hsh mdeg u.2) := by
  refine MetI.of (own := RX5) (cc := cX5_setRotor) (nL := 5) (ret := (some .int)) (by decide) rfl rfl (Nat.le_of_ble_eq_true rfl) rfl ?_
  intro p e s m args below meth c A hA C hr hlk
  unfold f_X5_setRotor at h
  refine wd_aload_n (j := 1) C 0 dX5_setRotor_0 rfl rfl rfl ?_
  refine wd_iload_n (j := 2) C 1 dX5_setRotor_1 rfl rfl rfl ?_
  refine wd_iload_n (j := 3) C 2 dX5_setRotor_2 rfl rfl rfl ?_
  obtain ⟨u1, hu1, h⟩ := bnd_some h
  refine wd_callVi (j := 6) (q0 := 0) (ci := 5) (As := [.int p1, .int p2]) (rest := []) (ws' := (w_X5_setRotor ad cI cD mlen mnodes mlinks mwk bcode hass kwk hsh mdeg mrot)) C (c_X5_errorOf l D cI cD ad mlen mnodes mlinks mwk bcode hass kwk hsh mdeg p1 p2 u1 hu1) (cwV 2 C.1.2.2.2.2 gX5_setRotor_X5_errorOf rfl rfl rfl (by decide +kernel) ⟨Nat.le_of_ble_eq_true rfl, Nat.le_of_ble_eq_true rfl⟩) rfl rfl [0, 1] [2] rfl rfl rfl rfl (by decide) [1, 2, 0] rfl rfl rfl (Nat.le_of_ble_eq_true rfl) (Nat.le_of_ble_eq_true rfl) (Nat.le_of_ble_eq_true rfl) dX5_setRotor_3 rfl ?_
  refine wd_istore_n (j := 7) (lv' := [(3, .int u1), (0, .ref (ad 0)), (1, .int p1), (2, .int p2)]) C dX5_setRotor_6 rfl (by decide) rfl rfl ?_
  refine wd_iload_n (j := 8) C 0 dX5_setRotor_7 rfl rfl rfl ?_
  refine wd_if_ge (j := 11) (t := 13) C dX5_setRotor_8 (by decide) rfl (fun c2 => ?_) (fun c2 => ?_)
  · replace h := (if_pos c2).symm.trans h
    refine wd_aload_n (j := 14) C 1 dX5_setRotor_13 rfl rfl rfl ?_
    refine wd_get (j := 17) (q0 := 0) (f := 6) (ci := 5) (v := .ref (ad 4)) C inX5_setRotor_X5 kX5_setRotor_1 rfl (by decide) rfl rfl dX5_setRotor_14 rfl ?_
    refine wd_iload_n (j := 18) C 2 dX5_setRotor_17 rfl rfl rfl ?_
    obtain ⟨g3, h⟩ := grd_some h
    refine wd_iald (j := 19) (q0 := 2) (t0 := 0) C rfl rfl (inB_in g3) dX5_setRotor_18 rfl ?_
    refine wd_istore (j := 21) (lv' := [(4, .int (mrot p1.toNatClampNeg)), (3, .int u1), (0, .ref (ad 0)), (1, .int p1), (2, .int p2)]) C dX5_setRotor_19 (by decide) rfl rfl ?_
    refine wd_aload_n (j := 22) C 2 dX5_setRotor_21 rfl rfl rfl ?_
    refine wd_get (j := 25) (q0 := 0) (f := 6) (ci := 5) (v := .ref (ad 4)) C inX5_setRotor_X5 kX5_setRotor_1 rfl (by decide) rfl rfl dX5_setRotor_22 rfl ?_
    refine wd_iload_n (j := 26) C 3 dX5_setRotor_25 rfl rfl rfl ?_
    refine wd_iload_n (j := 27) C 4 dX5_setRotor_26 rfl rfl rfl ?_
    obtain ⟨g4, h⟩ := grd_some h
    refine wd_iast (j := 28) (q0 := 2) (t0 := 0) (ws' := (w_X5_setRotor ad cI cD mlen mnodes mlinks mwk bcode hass kwk hsh mdeg (upd mrot p1.toNatClampNeg p2))) C rfl rfl (inB_in g4) rfl dX5_setRotor_27 rfl ?_
    refine wd_iload (j := 30) C 0 dX5_setRotor_28 rfl rfl ?_
    obtain rfl := Option.some.inj h
    exact wd_iret C hA hr hlk rfl rfl rfl dX5_setRotor_30
  · replace h := (if_neg c2).symm.trans h
    refine wd_iload_n (j := 12) C 0 dX5_setRotor_11 rfl rfl rfl ?_
    obtain rfl := Option.some.inj h
    exact wd_iret C hA hr hlk rfl rfl rfl dX5_setRotor_12
abbrev w_X5_isWalker (ad : Nat → Nat) (cI cD : ClassId) (mlen : Int32) (mnodes : Int32) (mlinks : Int32) (mwk : Int32) (bcode : Int32) (hass : Int32) (kwk : Int32) (hsh : Int64) : va_W := [((ad 0), .inr (5, [.int mlen, .ref (ad 1), .int mnodes, .int mlinks, .ref (ad 2), .ref (ad 3), .ref (ad 4), .int mwk, .ref (ad 5), .ref (ad 6), .ref (ad 7), .ref (ad 8), .ref (ad 9), .int bcode, .ref (ad 10), .ref (ad 11), .int hass, .int kwk, .ref (ad 12), .ref (ad 13), .ref (ad 14), .ref (ad 15), .long hsh]))]
theorem kX5_isWalker_1 : Cond.fieldLink "RotorRouterModel" 92 "RotorRouterModel" "walkers" "I" ∈ wsX5_isWalker := List.mem_of_getElem? (i := 1) rfl
theorem inX5_isWalker_X5 : ∀ w ∈ wsX50, w ∈ wsX5_isWalker := fun _ h => List.mem_cons_of_mem _ (List.mem_append_right _ h)
set_option maxRecDepth 100000 in
set_option maxHeartbeats 4000000 in
theorem c_X5_isWalker (l : Launch) (D : va_G) (cI cD : ClassId) (ad : Nat → Nat) (mlen : Int32) (mnodes : Int32) (mlinks : Int32) (mwk : Int32) (bcode : Int32) (hass : Int32) (kwk : Int32) (hsh : Int64) (p1 : Int32) (u : Int32) (h : f_X5_isWalker mwk p1 = some u) : MetI l yX5_isWalker wsX5_isWalker { frames := 1, cells := 0, slots := 0, locals := 22 } D [(cI, .int), (cD, .double)] [.ref (ad 0), .int p1] (w_X5_isWalker ad cI cD mlen mnodes mlinks mwk bcode hass kwk hsh) u (w_X5_isWalker ad cI cD mlen mnodes mlinks mwk bcode hass kwk hsh) := by
  refine MetI.of (own := RX5) (cc := cX5_isWalker) (nL := 2) (ret := (some .boolean)) (by decide) rfl rfl (Nat.le_of_ble_eq_true rfl) rfl ?_
  intro p e s m args below meth c A hA C hr hlk
  unfold f_X5_isWalker at h
  refine wd_iload_n (j := 1) C 1 dX5_isWalker_0 rfl rfl rfl ?_
  refine wd_iconst (j := 2) (v := 0) C dX5_isWalker_1 (by decide) rfl ?_
  refine wd_aload_n (j := 3) C 0 dX5_isWalker_2 rfl rfl rfl ?_
  refine wd_get (j := 6) (q0 := 0) (f := 7) (ci := 5) (v := .int mwk) C inX5_isWalker_X5 kX5_isWalker_1 rfl (by decide) rfl rfl dX5_isWalker_3 rfl ?_
  refine wd_iconst (j := 7) (v := 1) C dX5_isWalker_6 (by decide) rfl ?_
  refine wd_isub (j := 8) C dX5_isWalker_7 rfl ?_
  obtain ⟨u1, hu1, h⟩ := bnd_some h
  refine wd_callSi (j := 11) (As := [.int p1, .int (0 : Int32), .int (mwk - (1 : Int32))]) (rest := []) (ws' := (w_X5_isWalker ad cI cD mlen mnodes mlinks mwk bcode hass kwk hsh)) C (c_X5_within l D cI cD ad p1 (0 : Int32) (mwk - (1 : Int32)) u1 hu1) (va_cwS 3 C.1.2.2.2.2 gX5_isWalker_X5_within rfl rfl rfl (by decide +kernel) ⟨Nat.le_of_ble_eq_true rfl, Nat.le_of_ble_eq_true rfl⟩) [] [0] rfl rfl rfl rfl (by decide) [0] rfl rfl rfl (Nat.le_of_ble_eq_true rfl) (Nat.le_of_ble_eq_true rfl) (Nat.le_of_ble_eq_true rfl) dX5_isWalker_8 rfl ?_
  obtain ⟨g2, h⟩ := grd_some h
  obtain rfl := Option.some.inj h
  exact wd_iret C hA hr hlk (z01_in g2) rfl rfl dX5_isWalker_11
abbrev w_X5_addWalker (ad : Nat → Nat) (cI cD : ClassId) (mlen : Int32) (mnodes : Int32) (mlinks : Int32) (mwk : Int32) (bcode : Int32) (hass : Int32) (kwk : Int32) (hsh : Int64) (plc : Nat → Int32) : va_W := [((ad 0), .inr (5, [.int mlen, .ref (ad 1), .int mnodes, .int mlinks, .ref (ad 2), .ref (ad 3), .ref (ad 4), .int mwk, .ref (ad 5), .ref (ad 6), .ref (ad 7), .ref (ad 8), .ref (ad 9), .int bcode, .ref (ad 10), .ref (ad 11), .int hass, .int kwk, .ref (ad 12), .ref (ad 13), .ref (ad 14), .ref (ad 15), .long hsh])), ((ad 5), .inl (cI, 4, .inl plc))]
theorem kX5_addWalker_1 : Cond.fieldLink "RotorRouterModel" 92 "RotorRouterModel" "walkers" "I" ∈ wsX5_addWalker := List.mem_of_getElem? (i := 1) rfl
theorem kX5_addWalker_2 : Cond.fieldLink "RotorRouterModel" 22 "RotorRouterModel" "places" "[I" ∈ wsX5_addWalker := List.mem_of_getElem? (i := 2) rfl
theorem inX5_addWalker_X5 : ∀ w ∈ wsX50, w ∈ wsX5_addWalker := fun _ h => List.mem_cons_of_mem _ (List.mem_append_right _ h)
set_option maxRecDepth 100000 in
set_option maxHeartbeats 4000000 in
theorem c_X5_addWalker (l : Launch) (D : va_G) (cI cD : ClassId) (ad : Nat → Nat) (mlen : Int32) (mnodes : Int32) (mlinks : Int32) (mwk : Int32) (bcode : Int32) (hass : Int32) (kwk : Int32) (hsh : Int64) (plc : Nat → Int32) (p1 : Int32) (u : Int32 × Int32 × (Nat → Int32)) (h : f_X5_addWalker mnodes mwk plc p1 = some u) : MetI l yX5_addWalker wsX5_addWalker { frames := 2, cells := 0, slots := 0, locals := 43 } D [(cI, .int), (cD, .double)] [.ref (ad 0), .int p1] (w_X5_addWalker ad cI cD mlen mnodes mlinks mwk bcode hass kwk hsh plc) u.1 (w_X5_addWalker ad cI cD mlen mnodes mlinks u.2.1 bcode hass kwk hsh u.2.2) := by
  refine MetI.of (own := RX5) (cc := cX5_addWalker) (nL := 2) (ret := (some .int)) (by decide) rfl rfl (Nat.le_of_ble_eq_true rfl) rfl ?_
  intro p e s m args below meth c A hA C hr hlk
  unfold f_X5_addWalker at h
  refine wd_aload_n (j := 1) C 0 dX5_addWalker_0 rfl rfl rfl ?_
  refine wd_iload_n (j := 2) C 1 dX5_addWalker_1 rfl rfl rfl ?_
  obtain ⟨u1, hu1, h⟩ := bnd_some h
  refine wd_callVi (j := 5) (q0 := 0) (ci := 5) (As := [.int p1]) (rest := []) (ws' := (w_X5_addWalker ad cI cD mlen mnodes mlinks mwk bcode hass kwk hsh plc)) C (c_X5_isNode l D cI cD ad mlen mnodes mlinks mwk bcode hass kwk hsh p1 u1 hu1) (cwV 1 C.1.2.2.2.2 gX5_addWalker_X5_isNode rfl rfl rfl (by decide +kernel) ⟨Nat.le_of_ble_eq_true rfl, Nat.le_of_ble_eq_true rfl⟩) rfl rfl [0] [1] rfl rfl rfl rfl (by decide) [1, 0] rfl rfl rfl (Nat.le_of_ble_eq_true rfl) (Nat.le_of_ble_eq_true rfl) (Nat.le_of_ble_eq_true rfl) dX5_addWalker_2 rfl ?_
  refine wd_if_ne (j := 8) (t := 11) C dX5_addWalker_5 (by decide) rfl (fun c2 => ?_) (fun c2 => ?_)
  · replace h := (if_neg c2).symm.trans h
    refine wd_aload_n (j := 12) C 0 dX5_addWalker_11 rfl rfl rfl ?_
    refine wd_get (j := 15) (q0 := 0) (f := 7) (ci := 5) (v := .int mwk) C inX5_addWalker_X5 kX5_addWalker_1 rfl (by decide) rfl rfl dX5_addWalker_12 rfl ?_
    refine wd_iconst (j := 16) (v := 4) C dX5_addWalker_15 (by decide) rfl ?_
    refine wd_icmp_ne (j := 19) (t := 22) C dX5_addWalker_16 (by decide) rfl (fun c3 => ?_) (fun c3 => ?_)
    · replace h := (if_neg c3).symm.trans h
      refine wd_aload_n (j := 23) C 0 dX5_addWalker_22 rfl rfl rfl ?_
      refine wd_get (j := 26) (q0 := 0) (f := 8) (ci := 5) (v := .ref (ad 5)) C inX5_addWalker_X5 kX5_addWalker_2 rfl (by decide) rfl rfl dX5_addWalker_23 rfl ?_
      refine wd_aload_n (j := 27) C 0 dX5_addWalker_26 rfl rfl rfl ?_
      refine wd_get (j := 30) (q0 := 0) (f := 7) (ci := 5) (v := .int mwk) C inX5_addWalker_X5 kX5_addWalker_1 rfl (by decide) rfl rfl dX5_addWalker_27 rfl ?_
      refine wd_iload_n (j := 31) C 1 dX5_addWalker_30 rfl rfl rfl ?_
      obtain ⟨g4, h⟩ := grd_some h
      refine wd_iast (j := 32) (q0 := 1) (t0 := 0) (ws' := (w_X5_addWalker ad cI cD mlen mnodes mlinks mwk bcode hass kwk hsh (upd plc mwk.toNatClampNeg p1))) C rfl rfl (inB_in g4) rfl dX5_addWalker_31 rfl ?_
      refine wd_aload_n (j := 33) C 0 dX5_addWalker_32 rfl rfl rfl ?_
      refine wd_dup (j := 34) C dX5_addWalker_33 rfl rfl ?_
      refine wd_get (j := 37) (q0 := 0) (f := 7) (ci := 5) (v := .int mwk) C inX5_addWalker_X5 kX5_addWalker_1 rfl (by decide) rfl rfl dX5_addWalker_34 rfl ?_
      refine wd_iconst (j := 38) (v := 1) C dX5_addWalker_37 (by decide) rfl ?_
      refine wd_iadd (j := 39) C dX5_addWalker_38 rfl ?_
      refine wd_put (j := 42) (q0 := 0) (f := 7) (ci := 5) (ws' := (w_X5_addWalker ad cI cD mlen mnodes mlinks (mwk + (1 : Int32)) bcode hass kwk hsh (upd plc mwk.toNatClampNeg p1))) C inX5_addWalker_X5 tyX5 tyX5_ok nmX5 kX5_addWalker_1 rfl (by decide) rfl rfl rfl rfl (Nat.le_of_ble_eq_true rfl) rfl dX5_addWalker_39 rfl ?_
      refine wd_aload_n (j := 43) C 0 dX5_addWalker_42 rfl rfl rfl ?_
      refine wd_get (j := 46) (q0 := 0) (f := 7) (ci := 5) (v := .int (mwk + (1 : Int32))) C inX5_addWalker_X5 kX5_addWalker_1 rfl (by decide) rfl rfl dX5_addWalker_43 rfl ?_
      refine wd_iconst (j := 47) (v := 1) C dX5_addWalker_46 (by decide) rfl ?_
      refine wd_isub (j := 48) C dX5_addWalker_47 rfl ?_
      obtain rfl := Option.some.inj h
      exact wd_iret C hA hr hlk rfl rfl rfl dX5_addWalker_48
    · replace h := (if_pos c3).symm.trans h
      refine wd_bipush (j := 21) (v := -7) C dX5_addWalker_19 (by decide) rfl ?_
      obtain rfl := Option.some.inj h
      exact wd_iret C hA hr hlk rfl rfl rfl dX5_addWalker_21
  · replace h := (if_pos c2).symm.trans h
    refine wd_bipush (j := 10) (v := -4) C dX5_addWalker_8 (by decide) rfl ?_
    obtain rfl := Option.some.inj h
    exact wd_iret C hA hr hlk rfl rfl rfl dX5_addWalker_10
abbrev w_X5_position (ad : Nat → Nat) (cI cD : ClassId) (mlen : Int32) (mnodes : Int32) (mlinks : Int32) (mwk : Int32) (bcode : Int32) (hass : Int32) (kwk : Int32) (hsh : Int64) (plc : Nat → Int32) : va_W := [((ad 0), .inr (5, [.int mlen, .ref (ad 1), .int mnodes, .int mlinks, .ref (ad 2), .ref (ad 3), .ref (ad 4), .int mwk, .ref (ad 5), .ref (ad 6), .ref (ad 7), .ref (ad 8), .ref (ad 9), .int bcode, .ref (ad 10), .ref (ad 11), .int hass, .int kwk, .ref (ad 12), .ref (ad 13), .ref (ad 14), .ref (ad 15), .long hsh])), ((ad 5), .inl (cI, 4, .inl plc))]
theorem kX5_position_1 : Cond.fieldLink "RotorRouterModel" 22 "RotorRouterModel" "places" "[I" ∈ wsX5_position := List.mem_of_getElem? (i := 1) rfl
theorem inX5_position_X5 : ∀ w ∈ wsX50, w ∈ wsX5_position := fun _ h => List.mem_cons_of_mem _ (List.mem_append_right _ h)
set_option maxRecDepth 100000 in
set_option maxHeartbeats 4000000 in
theorem c_X5_position (l : Launch) (D : va_G) (cI cD : ClassId) (ad : Nat → Nat) (mlen : Int32) (mnodes : Int32) (mlinks : Int32) (mwk : Int32) (bcode : Int32) (hass : Int32) (kwk : Int32) (hsh : Int64) (plc : Nat → Int32) (p1 : Int32) (u : Int32) (h : f_X5_position mwk plc p1 = some u) : MetI l yX5_position wsX5_position { frames := 2, cells := 0, slots := 0, locals := 43 } D [(cI, .int), (cD, .double)] [.ref (ad 0), .int p1] (w_X5_position ad cI cD mlen mnodes mlinks mwk bcode hass kwk hsh plc) u (w_X5_position ad cI cD mlen mnodes mlinks mwk bcode hass kwk hsh plc) := by
  refine MetI.of (own := RX5) (cc := cX5_position) (nL := 2) (ret := (some .int)) (by decide) rfl rfl (Nat.le_of_ble_eq_true rfl) rfl ?_
  intro p e s m args below meth c A hA C hr hlk
  unfold f_X5_position at h
  refine wd_aload_n (j := 1) C 0 dX5_position_0 rfl rfl rfl ?_
  refine wd_iload_n (j := 2) C 1 dX5_position_1 rfl rfl rfl ?_
  obtain ⟨u1, hu1, h⟩ := bnd_some h
  refine wd_callVi (j := 5) (q0 := 0) (ci := 5) (As := [.int p1]) (rest := []) (ws' := (w_X5_position ad cI cD mlen mnodes mlinks mwk bcode hass kwk hsh plc)) C (c_X5_isWalker l D cI cD ad mlen mnodes mlinks mwk bcode hass kwk hsh p1 u1 hu1) (cwV 1 C.1.2.2.2.2 gX5_position_X5_isWalker rfl rfl rfl (by decide +kernel) ⟨Nat.le_of_ble_eq_true rfl, Nat.le_of_ble_eq_true rfl⟩) rfl rfl [0] [1] rfl rfl rfl rfl (by decide) [1, 0] rfl rfl rfl (Nat.le_of_ble_eq_true rfl) (Nat.le_of_ble_eq_true rfl) (Nat.le_of_ble_eq_true rfl) dX5_position_2 rfl ?_
  refine wd_if_eq (j := 8) (t := 17) C dX5_position_5 (by decide) rfl (fun c2 => ?_) (fun c2 => ?_)
  · replace h := (if_pos c2).symm.trans h
    refine wd_bipush (j := 19) (v := -5) C dX5_position_17 (by decide) rfl ?_
    obtain rfl := Option.some.inj h
    exact wd_iret C hA hr hlk rfl rfl rfl dX5_position_19
  · replace h := (if_neg c2).symm.trans h
    refine wd_aload_n (j := 9) C 0 dX5_position_8 rfl rfl rfl ?_
    refine wd_get (j := 12) (q0 := 0) (f := 8) (ci := 5) (v := .ref (ad 5)) C inX5_position_X5 kX5_position_1 rfl (by decide) rfl rfl dX5_position_9 rfl ?_
    refine wd_iload_n (j := 13) C 1 dX5_position_12 rfl rfl rfl ?_
    obtain ⟨g3, h⟩ := grd_some h
    refine wd_iald (j := 14) (q0 := 1) (t0 := 0) C rfl rfl (inB_in g3) dX5_position_13 rfl ?_
    refine wd_goto (t := 19) C dX5_position_14 (by decide) ?_
    obtain rfl := Option.some.inj h
    exact wd_iret C hA hr hlk rfl rfl rfl dX5_position_19
abbrev w_X5_go (ad : Nat → Nat) (ax : Nat) (cI cD : ClassId) (mlen : Int32) (mnodes : Int32) (mlinks : Int32) (mwk : Int32) (bcode : Int32) (hass : Int32) (kwk : Int32) (hsh : Int64) (tab : Nat → Int32) (mdeg : Nat → Int32) (src : Nat → Int32) : va_W := [((ad 0), .inr (5, [.int mlen, .ref (ad 1), .int mnodes, .int mlinks, .ref (ad 2), .ref (ad 3), .ref (ad 4), .int mwk, .ref (ad 5), .ref (ad 6), .ref (ad 7), .ref (ad 8), .ref (ad 9), .int bcode, .ref (ad 10), .ref (ad 11), .int hass, .int kwk, .ref (ad 12), .ref (ad 13), .ref (ad 14), .ref (ad 15), .long hsh])), ((ad 2), .inl (cI, 64, .inl tab)), ((ad 3), .inl (cI, 8, .inl mdeg)), (ax, .inl (cI, 8, .inl src))]
theorem kX5_go_1 : Cond.fieldLink "RotorRouterModel" 13 "RotorRouterModel" "table" "[I" ∈ wsX5_go := List.mem_of_getElem? (i := 1) rfl
theorem kX5_go_2 : Cond.fieldLink "RotorRouterModel" 16 "RotorRouterModel" "degrees" "[I" ∈ wsX5_go := List.mem_of_getElem? (i := 2) rfl
theorem inX5_go_X5 : ∀ w ∈ wsX50, w ∈ wsX5_go := fun _ h => List.mem_cons_of_mem _ (List.mem_append_right _ h)
set_option maxRecDepth 100000 in
set_option maxHeartbeats 4000000 in
theorem c_X5_go (l : Launch) (D : va_G) (cI cD : ClassId) (ad : Nat → Nat) (ax : Nat) (mlen : Int32) (mnodes : Int32) (mlinks : Int32) (mwk : Int32) (bcode : Int32) (hass : Int32) (kwk : Int32) (hsh : Int64) (tab : Nat → Int32) (mdeg : Nat → Int32) (src : Nat → Int32) (p1 : Int32) (u : Int32 × (Nat → Int32)) (h : f_X5_go tab mdeg src p1 = some u) : MetI l yX5_go wsX5_go { frames := 0, cells := 0, slots := 0, locals := 0 } D [(cI, .int), (cD, .double)] [.ref (ad 0), .int p1, .ref ax] (w_X5_go ad ax cI cD mlen mnodes mlinks mwk bcode hass kwk hsh tab mdeg src) u.1 (w_X5_go ad ax cI cD mlen mnodes mlinks mwk bcode hass kwk hsh tab mdeg u.2) := by
  refine MetI.of (own := RX5) (cc := cX5_go) (nL := 4) (ret := (some .int)) (by decide) rfl rfl (Nat.le_of_ble_eq_true rfl) rfl ?_
  intro p e s m args below meth c A hA C hr hlk
  unfold f_X5_go at h
  refine wd_aload_n (j := 1) C 0 dX5_go_0 rfl rfl rfl ?_
  refine wd_get (j := 4) (q0 := 0) (f := 4) (ci := 5) (v := .ref (ad 2)) C inX5_go_X5 kX5_go_1 rfl (by decide) rfl rfl dX5_go_1 rfl ?_
  refine wd_bipush (j := 6) (v := 8) C dX5_go_4 (by decide) rfl ?_
  refine wd_iload_n (j := 7) C 1 dX5_go_6 rfl rfl rfl ?_
  refine wd_imul (j := 8) C dX5_go_7 rfl ?_
  refine wd_aload_n (j := 9) C 2 dX5_go_8 rfl rfl rfl ?_
  refine wd_iload_n (j := 10) C 1 dX5_go_9 rfl rfl rfl ?_
  obtain ⟨g1, h⟩ := grd_some h
  refine wd_iald (j := 11) (q0 := 3) (t0 := 0) C rfl rfl (inB_in g1) dX5_go_10 rfl ?_
  refine wd_iadd (j := 12) C dX5_go_11 rfl ?_
  obtain ⟨g2, h⟩ := grd_some h
  refine wd_iald (j := 13) (q0 := 1) (t0 := 0) C rfl rfl (inB_in g2) dX5_go_12 rfl ?_
  refine wd_istore_n (j := 14) (lv' := [(3, .int (tab (((8 : Int32) * p1) + (src p1.toNatClampNeg)).toNatClampNeg)), (0, .ref (ad 0)), (1, .int p1), (2, .ref ax)]) C dX5_go_13 rfl (by decide) rfl rfl ?_
  refine wd_aload_n (j := 15) C 3 dX5_go_14 rfl rfl rfl ?_
  refine wd_iload_n (j := 16) C 2 dX5_go_15 rfl rfl rfl ?_
  refine wd_aload_n (j := 17) C 3 dX5_go_16 rfl rfl rfl ?_
  refine wd_iload_n (j := 18) C 2 dX5_go_17 rfl rfl rfl ?_
  obtain ⟨g3, h⟩ := grd_some h
  refine wd_iald (j := 19) (q0 := 3) (t0 := 0) C rfl rfl (inB_in g3) dX5_go_18 rfl ?_
  refine wd_iconst (j := 20) (v := 1) C dX5_go_19 (by decide) rfl ?_
  refine wd_iadd (j := 21) C dX5_go_20 rfl ?_
  refine wd_aload_n (j := 22) C 1 dX5_go_21 rfl rfl rfl ?_
  refine wd_get (j := 25) (q0 := 0) (f := 5) (ci := 5) (v := .ref (ad 3)) C inX5_go_X5 kX5_go_2 rfl (by decide) rfl rfl dX5_go_22 rfl ?_
  refine wd_iload_n (j := 26) C 2 dX5_go_25 rfl rfl rfl ?_
  obtain ⟨g4, h⟩ := grd_some h
  refine wd_iald (j := 27) (q0 := 2) (t0 := 0) C rfl rfl (inB_in g4) dX5_go_26 rfl ?_
  obtain ⟨g5, h⟩ := grd_some h
  refine wd_irem (j := 28) C dX5_go_27 g5 rfl ?_
  obtain ⟨g6, h⟩ := grd_some h
  refine wd_iast (j := 29) (q0 := 3) (t0 := 0) (ws' := (w_X5_go ad ax cI cD mlen mnodes mlinks mwk bcode hass kwk hsh tab mdeg (upd src p1.toNatClampNeg (((src p1.toNatClampNeg) + (1 : Int32)) - ((src p1.toNatClampNeg) + (1 : Int32)) / (mdeg p1.toNatClampNeg) * (mdeg p1.toNatClampNeg))))) C rfl rfl (inB_in g6) rfl dX5_go_28 rfl ?_
  refine wd_iload_n (j := 30) C 0 dX5_go_29 rfl rfl rfl ?_
  obtain rfl := Option.some.inj h
  exact wd_iret C hA hr hlk rfl rfl rfl dX5_go_30
abbrev w_X5_stepOnce (ad : Nat → Nat) (cI cD : ClassId) (mlen : Int32) (mnodes : Int32) (mlinks : Int32) (mwk : Int32) (bcode : Int32) (hass : Int32) (kwk : Int32) (hsh : Int64) (tab : Nat → Int32) (mdeg : Nat → Int32) (mrot : Nat → Int32) (plc : Nat → Int32) (marr : Nat → Int32) (mdep : Nat → Int32) : va_W := [((ad 0), .inr (5, [.int mlen, .ref (ad 1), .int mnodes, .int mlinks, .ref (ad 2), .ref (ad 3), .ref (ad 4), .int mwk, .ref (ad 5), .ref (ad 6), .ref (ad 7), .ref (ad 8), .ref (ad 9), .int bcode, .ref (ad 10), .ref (ad 11), .int hass, .int kwk, .ref (ad 12), .ref (ad 13), .ref (ad 14), .ref (ad 15), .long hsh])), ((ad 2), .inl (cI, 64, .inl tab)), ((ad 3), .inl (cI, 8, .inl mdeg)), ((ad 4), .inl (cI, 8, .inl mrot)), ((ad 5), .inl (cI, 4, .inl plc)), ((ad 6), .inl (cI, 8, .inl marr)), ((ad 7), .inl (cI, 64, .inl mdep))]
theorem kX5_stepOnce_1 : Cond.fieldLink "RotorRouterModel" 22 "RotorRouterModel" "places" "[I" ∈ wsX5_stepOnce := List.mem_of_getElem? (i := 1) rfl
theorem kX5_stepOnce_2 : Cond.fieldLink "RotorRouterModel" 28 "RotorRouterModel" "departed" "[I" ∈ wsX5_stepOnce := List.mem_of_getElem? (i := 2) rfl
theorem kX5_stepOnce_3 : Cond.fieldLink "RotorRouterModel" 19 "RotorRouterModel" "rotors" "[I" ∈ wsX5_stepOnce := List.mem_of_getElem? (i := 3) rfl
theorem kX5_stepOnce_4 : Cond.fieldLink "RotorRouterModel" 25 "RotorRouterModel" "arrived" "[I" ∈ wsX5_stepOnce := List.mem_of_getElem? (i := 4) rfl
theorem inX5_stepOnce_X5 : ∀ w ∈ wsX50, w ∈ wsX5_stepOnce := fun _ h => List.mem_cons_of_mem _ (List.mem_append_right _ h)
set_option maxRecDepth 100000 in
set_option maxHeartbeats 4000000 in
theorem c_X5_stepOnce (l : Launch) (D : va_G) (cI cD : ClassId) (ad : Nat → Nat) (mlen : Int32) (mnodes : Int32) (mlinks : Int32) (mwk : Int32) (bcode : Int32) (hass : Int32) (kwk : Int32) (hsh : Int64) (tab : Nat → Int32) (mdeg : Nat → Int32) (mrot : Nat → Int32) (plc : Nat → Int32) (marr : Nat → Int32) (mdep : Nat → Int32) (p1 : Int32) (u : (Nat → Int32) × (Nat → Int32) × (Nat → Int32) × (Nat → Int32)) (h : f_X5_stepOnce tab mdeg mrot plc marr mdep p1 = some u) : MetV l yX5_stepOnce wsX5_stepOnce { frames := 1, cells := 0, slots := 0, locals := 23 } D [(cI, .int), (cD, .double)] [.ref (ad 0), .int p1] (w_X5_stepOnce ad cI cD mlen mnodes mlinks mwk bcode hass kwk hsh tab mdeg mrot plc marr mdep) (w_X5_stepOnce ad cI cD mlen mnodes mlinks mwk bcode hass kwk hsh tab mdeg u.1 u.2.1 u.2.2.1 u.2.2.2) := by
  refine MetV.of (own := RX5) (cc := cX5_stepOnce) (nL := 3) (ret := none) (by decide) rfl rfl (Nat.le_of_ble_eq_true rfl) rfl ?_
  intro p e s m args below meth c A hA C hr hlk
  unfold f_X5_stepOnce at h
  refine wd_aload_n (j := 1) C 0 dX5_stepOnce_0 rfl rfl rfl ?_
  refine wd_get (j := 4) (q0 := 0) (f := 8) (ci := 5) (v := .ref (ad 5)) C inX5_stepOnce_X5 kX5_stepOnce_1 rfl (by decide) rfl rfl dX5_stepOnce_1 rfl ?_
  refine wd_iload_n (j := 5) C 1 dX5_stepOnce_4 rfl rfl rfl ?_
  obtain ⟨g1, h⟩ := grd_some h
  refine wd_iald (j := 6) (q0 := 4) (t0 := 0) C rfl rfl (inB_in g1) dX5_stepOnce_5 rfl ?_
  refine wd_istore_n (j := 7) (lv' := [(2, .int (plc p1.toNatClampNeg)), (0, .ref (ad 0)), (1, .int p1)]) C dX5_stepOnce_6 rfl (by decide) rfl rfl ?_
  refine wd_aload_n (j := 8) C 1 dX5_stepOnce_7 rfl rfl rfl ?_
  refine wd_get (j := 11) (q0 := 0) (f := 10) (ci := 5) (v := .ref (ad 7)) C inX5_stepOnce_X5 kX5_stepOnce_2 rfl (by decide) rfl rfl dX5_stepOnce_8 rfl ?_
  refine wd_bipush (j := 13) (v := 8) C dX5_stepOnce_11 (by decide) rfl ?_
  refine wd_iload_n (j := 14) C 0 dX5_stepOnce_13 rfl rfl rfl ?_
  refine wd_imul (j := 15) C dX5_stepOnce_14 rfl ?_
  refine wd_aload_n (j := 16) C 1 dX5_stepOnce_15 rfl rfl rfl ?_
  refine wd_get (j := 19) (q0 := 0) (f := 6) (ci := 5) (v := .ref (ad 4)) C inX5_stepOnce_X5 kX5_stepOnce_3 rfl (by decide) rfl rfl dX5_stepOnce_16 rfl ?_
  refine wd_iload_n (j := 20) C 0 dX5_stepOnce_19 rfl rfl rfl ?_
  obtain ⟨g2, h⟩ := grd_some h
  refine wd_iald (j := 21) (q0 := 3) (t0 := 0) C rfl rfl (inB_in g2) dX5_stepOnce_20 rfl ?_
  refine wd_iadd (j := 22) C dX5_stepOnce_21 rfl ?_
  refine wd_dup2 (j := 23) C dX5_stepOnce_22 rfl rfl rfl ?_
  obtain ⟨g3, h⟩ := grd_some h
  refine wd_iald (j := 24) (q0 := 6) (t0 := 0) C rfl rfl (inB_in g3) dX5_stepOnce_23 rfl ?_
  refine wd_iconst (j := 25) (v := 1) C dX5_stepOnce_24 (by decide) rfl ?_
  refine wd_iadd (j := 26) C dX5_stepOnce_25 rfl ?_
  obtain ⟨g4, h⟩ := grd_some h
  refine wd_iast (j := 27) (q0 := 6) (t0 := 0) (ws' := (w_X5_stepOnce ad cI cD mlen mnodes mlinks mwk bcode hass kwk hsh tab mdeg mrot plc marr (upd mdep (((8 : Int32) * (plc p1.toNatClampNeg)) + (mrot (plc p1.toNatClampNeg).toNatClampNeg)).toNatClampNeg ((mdep (((8 : Int32) * (plc p1.toNatClampNeg)) + (mrot (plc p1.toNatClampNeg).toNatClampNeg)).toNatClampNeg) + (1 : Int32))))) C rfl rfl (inB_in g4) rfl dX5_stepOnce_26 rfl ?_
  refine wd_aload_n (j := 28) C 1 dX5_stepOnce_27 rfl rfl rfl ?_
  refine wd_get (j := 31) (q0 := 0) (f := 8) (ci := 5) (v := .ref (ad 5)) C inX5_stepOnce_X5 kX5_stepOnce_1 rfl (by decide) rfl rfl dX5_stepOnce_28 rfl ?_
  refine wd_iload_n (j := 32) C 2 dX5_stepOnce_31 rfl rfl rfl ?_
  refine wd_aload_n (j := 33) C 1 dX5_stepOnce_32 rfl rfl rfl ?_
  refine wd_iload_n (j := 34) C 0 dX5_stepOnce_33 rfl rfl rfl ?_
  refine wd_aload_n (j := 35) C 1 dX5_stepOnce_34 rfl rfl rfl ?_
  refine wd_get (j := 38) (q0 := 0) (f := 6) (ci := 5) (v := .ref (ad 4)) C inX5_stepOnce_X5 kX5_stepOnce_3 rfl (by decide) rfl rfl dX5_stepOnce_35 rfl ?_
  obtain ⟨u5, hu5, h⟩ := bnd_some h
  refine wd_callVi (j := 41) (q0 := 0) (ci := 5) (As := [.int (plc p1.toNatClampNeg), .ref (ad 4)]) (rest := [.int p1, .ref (ad 5)]) (ws' := (w_X5_stepOnce ad cI cD mlen mnodes mlinks mwk bcode hass kwk hsh tab mdeg u5.2 plc marr (upd mdep (((8 : Int32) * (plc p1.toNatClampNeg)) + (mrot (plc p1.toNatClampNeg).toNatClampNeg)).toNatClampNeg ((mdep (((8 : Int32) * (plc p1.toNatClampNeg)) + (mrot (plc p1.toNatClampNeg).toNatClampNeg)).toNatClampNeg) + (1 : Int32))))) C (c_X5_go l D cI cD ad (ad 4) mlen mnodes mlinks mwk bcode hass kwk hsh tab mdeg mrot (plc p1.toNatClampNeg) u5 hu5) (cwV 2 C.1.2.2.2.2 gX5_stepOnce_X5_go rfl rfl rfl (by decide +kernel) ⟨Nat.le_of_ble_eq_true rfl, Nat.le_of_ble_eq_true rfl⟩) rfl rfl [0, 1, 2, 3] [4, 5, 6] rfl rfl rfl rfl (by decide) [3, 4, 5, 6, 0, 1, 2] rfl rfl rfl (Nat.le_of_ble_eq_true rfl) (Nat.le_of_ble_eq_true rfl) (Nat.le_of_ble_eq_true rfl) dX5_stepOnce_38 rfl ?_
  obtain ⟨g6, h⟩ := grd_some h
  refine wd_iast (j := 42) (q0 := 4) (t0 := 0) (ws' := (w_X5_stepOnce ad cI cD mlen mnodes mlinks mwk bcode hass kwk hsh tab mdeg u5.2 (upd plc p1.toNatClampNeg u5.1) marr (upd mdep (((8 : Int32) * (plc p1.toNatClampNeg)) + (mrot (plc p1.toNatClampNeg).toNatClampNeg)).toNatClampNeg ((mdep (((8 : Int32) * (plc p1.toNatClampNeg)) + (mrot (plc p1.toNatClampNeg).toNatClampNeg)).toNatClampNeg) + (1 : Int32))))) C rfl rfl (inB_in g6) rfl dX5_stepOnce_41 rfl ?_
  refine wd_aload_n (j := 43) C 1 dX5_stepOnce_42 rfl rfl rfl ?_
  refine wd_get (j := 46) (q0 := 0) (f := 9) (ci := 5) (v := .ref (ad 6)) C inX5_stepOnce_X5 kX5_stepOnce_4 rfl (by decide) rfl rfl dX5_stepOnce_43 rfl ?_
  refine wd_aload_n (j := 47) C 1 dX5_stepOnce_46 rfl rfl rfl ?_
  refine wd_get (j := 50) (q0 := 0) (f := 8) (ci := 5) (v := .ref (ad 5)) C inX5_stepOnce_X5 kX5_stepOnce_1 rfl (by decide) rfl rfl dX5_stepOnce_47 rfl ?_
  refine wd_iload_n (j := 51) C 2 dX5_stepOnce_50 rfl rfl rfl ?_
  obtain ⟨g7, h⟩ := grd_some h
  refine wd_iald (j := 52) (q0 := 4) (t0 := 0) C rfl rfl (inB_in g7) dX5_stepOnce_51 rfl ?_
  refine wd_dup2 (j := 53) C dX5_stepOnce_52 rfl rfl rfl ?_
  obtain ⟨g8, h⟩ := grd_some h
  refine wd_iald (j := 54) (q0 := 5) (t0 := 0) C rfl rfl (inB_in g8) dX5_stepOnce_53 rfl ?_
  refine wd_iconst (j := 55) (v := 1) C dX5_stepOnce_54 (by decide) rfl ?_
  refine wd_iadd (j := 56) C dX5_stepOnce_55 rfl ?_
  obtain ⟨g9, h⟩ := grd_some h
  refine wd_iast (j := 57) (q0 := 5) (t0 := 0) (ws' := (w_X5_stepOnce ad cI cD mlen mnodes mlinks mwk bcode hass kwk hsh tab mdeg u5.2 (upd plc p1.toNatClampNeg u5.1) (upd marr ((upd plc p1.toNatClampNeg u5.1) p1.toNatClampNeg).toNatClampNeg ((marr ((upd plc p1.toNatClampNeg u5.1) p1.toNatClampNeg).toNatClampNeg) + (1 : Int32))) (upd mdep (((8 : Int32) * (plc p1.toNatClampNeg)) + (mrot (plc p1.toNatClampNeg).toNatClampNeg)).toNatClampNeg ((mdep (((8 : Int32) * (plc p1.toNatClampNeg)) + (mrot (plc p1.toNatClampNeg).toNatClampNeg)).toNatClampNeg) + (1 : Int32))))) C rfl rfl (inB_in g9) rfl dX5_stepOnce_56 rfl ?_
  obtain rfl := Option.some.inj h
  exact wd_vret C hA hr hlk rfl dX5_stepOnce_57
abbrev w_X5_step (ad : Nat → Nat) (cI cD : ClassId) (mlen : Int32) (mnodes : Int32) (mlinks : Int32) (mwk : Int32) (bcode : Int32) (hass : Int32) (kwk : Int32) (hsh : Int64) (tab : Nat → Int32) (mdeg : Nat → Int32) (mrot : Nat → Int32) (plc : Nat → Int32) (marr : Nat → Int32) (mdep : Nat → Int32) : va_W := [((ad 0), .inr (5, [.int mlen, .ref (ad 1), .int mnodes, .int mlinks, .ref (ad 2), .ref (ad 3), .ref (ad 4), .int mwk, .ref (ad 5), .ref (ad 6), .ref (ad 7), .ref (ad 8), .ref (ad 9), .int bcode, .ref (ad 10), .ref (ad 11), .int hass, .int kwk, .ref (ad 12), .ref (ad 13), .ref (ad 14), .ref (ad 15), .long hsh])), ((ad 2), .inl (cI, 64, .inl tab)), ((ad 3), .inl (cI, 8, .inl mdeg)), ((ad 4), .inl (cI, 8, .inl mrot)), ((ad 5), .inl (cI, 4, .inl plc)), ((ad 6), .inl (cI, 8, .inl marr)), ((ad 7), .inl (cI, 64, .inl mdep))]
theorem kX5_step_1 : Cond.fieldLink "RotorRouterModel" 22 "RotorRouterModel" "places" "[I" ∈ wsX5_step := List.mem_of_getElem? (i := 1) rfl
theorem inX5_step_X5 : ∀ w ∈ wsX50, w ∈ wsX5_step := fun _ h => List.mem_cons_of_mem _ (List.mem_append_right _ h)
set_option maxRecDepth 100000 in
set_option maxHeartbeats 4000000 in
theorem lw_X5_step_27 (l : Launch) (D : va_G) (cI cD : ClassId) (ad : Nat → Nat) (N : Nat) (mlen : Int32) (mnodes : Int32) (mlinks : Int32) (mwk : Int32) (bcode : Int32) (hass : Int32) (kwk : Int32) (hsh : Int64) (tab : Nat → Int32) (mdeg : Nat → Int32) (p1 : Int32) (p2 : Int32) {p : Program} {e : Env} {s : State} {m : MethodId} {args : Array Value} {below : List Frame} {meth : Method} {c : Code} {A : Nat → Prop} {Q : State → Prop} (C : wd_C p m c cX5_step 4 s args wsX5_step RX5 D [(cI, .int), (cD, .double)] A) : ∀ (n : Nat) (st : Int32 × (Nat → Int32) × (Nat → Int32) × (Nat → Int32) × (Nat → Int32)) (E : (Nat → Int32) × (Nat → Int32) × (Nat → Int32) × (Nat → Int32)), iter (b_X5_step_27 tab mdeg p1 p2) n st = some E → (Wd p l e { frames := 2, cells := 0, slots := 0, locals := 45 } s m args below meth c 4 D A 0 0 Q 43 [(0, .ref (ad 0)), (1, .int p1)] [] (w_X5_step ad cI cD mlen mnodes mlinks mwk bcode hass kwk hsh tab mdeg E.1 E.2.1 E.2.2.1 E.2.2.2)) → Wd p l e { frames := 2, cells := 0, slots := 0, locals := 45 } s m args below meth c 4 D A 0 0 Q 27 [(0, .ref (ad 0)), (1, .int p1), (2, .int p2), (3, .int st.1)] [] (w_X5_step ad cI cD mlen mnodes mlinks mwk bcode hass kwk hsh tab mdeg st.2.1 st.2.2.1 st.2.2.2.1 st.2.2.2.2) := by
  intro n
  induction n with
  | zero => intro st E h; cases h
  | succ n ih =>
    intro st E h kx
    obtain ⟨b, h, hk⟩ := iter_step h
    unfold b_X5_step_27 at h
    refine wd_iload_n (j := 28) C 3 dX5_step_27 rfl rfl rfl ?_
    refine wd_iload_n (j := 29) C 2 dX5_step_28 rfl rfl rfl ?_
    refine wd_icmp_ge (j := 32) (t := 43) C dX5_step_29 (by decide) rfl (fun c1 => ?_) (fun c1 => ?_)
    · replace h := (if_pos c1).symm.trans h
      obtain rfl := Option.some.inj h
      obtain rfl := hk
      refine wd_lv (lv' := [(0, .ref (ad 0)), (1, .int p1)]) [0, 1] rfl ?_
      exact kx
    · replace h := (if_neg c1).symm.trans h
      refine wd_aload_n (j := 33) C 0 dX5_step_32 rfl rfl rfl ?_
      refine wd_iload_n (j := 34) C 1 dX5_step_33 rfl rfl rfl ?_
      obtain ⟨u2, hu2, h⟩ := bnd_some h
      refine wd_callVv (j := 37) (q0 := 0) (ci := 5) (As := [.int p1]) (rest := []) (ws' := (w_X5_step ad cI cD mlen mnodes mlinks mwk bcode hass kwk hsh tab mdeg u2.1 u2.2.1 u2.2.2.1 u2.2.2.2)) C (c_X5_stepOnce l D cI cD ad mlen mnodes mlinks mwk bcode hass kwk hsh tab mdeg st.2.1 st.2.2.1 st.2.2.2.1 st.2.2.2.2 p1 u2 hu2) (cwV 1 C.1.2.2.2.2 gX5_step_X5_stepOnce rfl rfl rfl (by decide +kernel) ⟨Nat.le_of_ble_eq_true rfl, Nat.le_of_ble_eq_true rfl⟩) rfl rfl [0, 1, 2, 3, 4, 5, 6] [] rfl rfl rfl rfl (by decide) [0, 1, 2, 3, 4, 5, 6] rfl rfl rfl (Nat.le_of_ble_eq_true rfl) (Nat.le_of_ble_eq_true rfl) (Nat.le_of_ble_eq_true rfl) dX5_step_34 rfl ?_
      refine wd_iinc (j := 40) (lv' := [(3, .int (st.1 + 1)), (0, .ref (ad 0)), (1, .int p1), (2, .int p2)]) C 3 dX5_step_37 rfl rfl (by decide) rfl rfl ?_
      refine wd_goto (t := 27) C dX5_step_40 (by decide) ?_
      obtain rfl := Option.some.inj h
      refine wd_lv (lv' := [(0, .ref (ad 0)), (1, .int p1), (2, .int p2), (3, .int (st.1 + 1))]) [1, 2, 3, 0] rfl ?_
      exact ih ((st.1 + 1), u2.1, u2.2.1, u2.2.2.1, u2.2.2.2) E hk kx
set_option maxRecDepth 100000 in
set_option maxHeartbeats 4000000 in
theorem c_X5_step (l : Launch) (D : va_G) (cI cD : ClassId) (ad : Nat → Nat) (N : Nat) (mlen : Int32) (mnodes : Int32) (mlinks : Int32) (mwk : Int32) (bcode : Int32) (hass : Int32) (kwk : Int32) (hsh : Int64) (tab : Nat → Int32) (mdeg : Nat → Int32) (mrot : Nat → Int32) (plc : Nat → Int32) (marr : Nat → Int32) (mdep : Nat → Int32) (p1 : Int32) (p2 : Int32) (u : Int32 × (Nat → Int32) × (Nat → Int32) × (Nat → Int32) × (Nat → Int32)) (h : f_X5_step N mwk tab mdeg mrot plc marr mdep p1 p2 = some u) : MetI l yX5_step wsX5_step { frames := 2, cells := 0, slots := 0, locals := 45 } D [(cI, .int), (cD, .double)] [.ref (ad 0), .int p1, .int p2] (w_X5_step ad cI cD mlen mnodes mlinks mwk bcode hass kwk hsh tab mdeg mrot plc marr mdep) u.1 (w_X5_step ad cI cD mlen mnodes mlinks mwk bcode hass kwk hsh tab mdeg u.2.1 u.2.2.1 u.2.2.2.1 u.2.2.2.2) := by
  refine MetI.of (own := RX5) (cc := cX5_step) (nL := 4) (ret := (some .int)) (by decide) rfl rfl (Nat.le_of_ble_eq_true rfl) rfl ?_
  intro p e s m args below meth c A hA C hr hlk
  unfold f_X5_step at h
  refine wd_aload_n (j := 1) C 0 dX5_step_0 rfl rfl rfl ?_
  refine wd_iload_n (j := 2) C 1 dX5_step_1 rfl rfl rfl ?_
  obtain ⟨u3, hu3, h⟩ := bnd_some h
  refine wd_callVi (j := 5) (q0 := 0) (ci := 5) (As := [.int p1]) (rest := []) (ws' := (w_X5_step ad cI cD mlen mnodes mlinks mwk bcode hass kwk hsh tab mdeg mrot plc marr mdep)) C (c_X5_isWalker l D cI cD ad mlen mnodes mlinks mwk bcode hass kwk hsh p1 u3 hu3) (cwV 1 C.1.2.2.2.2 gX5_step_X5_isWalker rfl rfl rfl (by decide +kernel) ⟨Nat.le_of_ble_eq_true rfl, Nat.le_of_ble_eq_true rfl⟩) rfl rfl [0] [1, 2, 3, 4, 5, 6] rfl rfl rfl rfl (by decide) [6, 0, 1, 2, 3, 4, 5] rfl rfl rfl (Nat.le_of_ble_eq_true rfl) (Nat.le_of_ble_eq_true rfl) (Nat.le_of_ble_eq_true rfl) dX5_step_2 rfl ?_
  refine wd_if_ne (j := 8) (t := 11) C dX5_step_5 (by decide) rfl (fun c4 => ?_) (fun c4 => ?_)
  · replace h := (if_neg c4).symm.trans h
    refine wd_iload_n (j := 12) C 2 dX5_step_11 rfl rfl rfl ?_
    refine wd_iconst (j := 13) (v := 1) C dX5_step_12 (by decide) rfl ?_
    refine wd_sipush (j := 16) (v := 1000) C dX5_step_13 (by decide) rfl ?_
    obtain ⟨u5, hu5, h⟩ := bnd_some h
    refine wd_callSi (j := 19) (As := [.int p2, .int (1 : Int32), .int (1000 : Int32)]) (rest := []) (ws' := (w_X5_step ad cI cD mlen mnodes mlinks mwk bcode hass kwk hsh tab mdeg mrot plc marr mdep)) C (c_X5_within l D cI cD ad p2 (1 : Int32) (1000 : Int32) u5 hu5) (va_cwS 3 C.1.2.2.2.2 gX5_step_X5_within rfl rfl rfl (by decide +kernel) ⟨Nat.le_of_ble_eq_true rfl, Nat.le_of_ble_eq_true rfl⟩) [] [0, 1, 2, 3, 4, 5, 6] rfl rfl rfl rfl (by decide) [0, 1, 2, 3, 4, 5, 6] rfl rfl rfl (Nat.le_of_ble_eq_true rfl) (Nat.le_of_ble_eq_true rfl) (Nat.le_of_ble_eq_true rfl) dX5_step_16 rfl ?_
    refine wd_if_ne (j := 22) (t := 25) C dX5_step_19 (by decide) rfl (fun c6 => ?_) (fun c6 => ?_)
    · replace h := (if_neg c6).symm.trans h
      refine wd_iconst (j := 26) (v := 0) C dX5_step_25 (by decide) rfl ?_
      refine wd_istore_n (j := 27) (lv' := [(3, .int (0 : Int32)), (0, .ref (ad 0)), (1, .int p1), (2, .int p2)]) C dX5_step_26 rfl (by decide) rfl rfl ?_
      refine wd_lv (lv' := [(0, .ref (ad 0)), (1, .int p1), (2, .int p2), (3, .int (0 : Int32))]) [1, 2, 3, 0] rfl ?_
      obtain ⟨u7, hu7, h⟩ := bnd_some h
      refine lw_X5_step_27 l D cI cD ad N mlen mnodes mlinks mwk bcode hass kwk hsh tab mdeg p1 p2 C N ((0 : Int32), mrot, plc, marr, mdep) u7 hu7 ?_
      refine wd_aload_n (j := 44) C 0 dX5_step_43 rfl rfl rfl ?_
      refine wd_get (j := 47) (q0 := 0) (f := 8) (ci := 5) (v := .ref (ad 5)) C inX5_step_X5 kX5_step_1 rfl (by decide) rfl rfl dX5_step_44 rfl ?_
      refine wd_iload_n (j := 48) C 1 dX5_step_47 rfl rfl rfl ?_
      obtain ⟨g8, h⟩ := grd_some h
      refine wd_iald (j := 49) (q0 := 4) (t0 := 0) C rfl rfl (inB_in g8) dX5_step_48 rfl ?_
      obtain rfl := Option.some.inj h
      exact wd_iret C hA hr hlk rfl rfl rfl dX5_step_49
    · replace h := (if_pos c6).symm.trans h
      refine wd_bipush (j := 24) (v := -6) C dX5_step_22 (by decide) rfl ?_
      obtain rfl := Option.some.inj h
      exact wd_iret C hA hr hlk rfl rfl rfl dX5_step_24
  · replace h := (if_pos c4).symm.trans h
    refine wd_bipush (j := 10) (v := -5) C dX5_step_8 (by decide) rfl ?_
    obtain rfl := Option.some.inj h
    exact wd_iret C hA hr hlk rfl rfl rfl dX5_step_10
abbrev w_X5_pass (ad : Nat → Nat) (cI cD : ClassId) (mlen : Int32) (mnodes : Int32) (mlinks : Int32) (mwk : Int32) (bcode : Int32) (hass : Int32) (kwk : Int32) (hsh : Int64) (tab : Nat → Int32) (mdeg : Nat → Int32) (mrot : Nat → Int32) (plc : Nat → Int32) (marr : Nat → Int32) (mdep : Nat → Int32) : va_W := [((ad 0), .inr (5, [.int mlen, .ref (ad 1), .int mnodes, .int mlinks, .ref (ad 2), .ref (ad 3), .ref (ad 4), .int mwk, .ref (ad 5), .ref (ad 6), .ref (ad 7), .ref (ad 8), .ref (ad 9), .int bcode, .ref (ad 10), .ref (ad 11), .int hass, .int kwk, .ref (ad 12), .ref (ad 13), .ref (ad 14), .ref (ad 15), .long hsh])), ((ad 2), .inl (cI, 64, .inl tab)), ((ad 3), .inl (cI, 8, .inl mdeg)), ((ad 4), .inl (cI, 8, .inl mrot)), ((ad 5), .inl (cI, 4, .inl plc)), ((ad 6), .inl (cI, 8, .inl marr)), ((ad 7), .inl (cI, 64, .inl mdep))]
theorem kX5_pass_1 : Cond.fieldLink "RotorRouterModel" 92 "RotorRouterModel" "walkers" "I" ∈ wsX5_pass := List.mem_of_getElem? (i := 1) rfl
theorem kX5_pass_2 : Cond.fieldLink "RotorRouterModel" 22 "RotorRouterModel" "places" "[I" ∈ wsX5_pass := List.mem_of_getElem? (i := 2) rfl
theorem inX5_pass_X5 : ∀ w ∈ wsX50, w ∈ wsX5_pass := fun _ h => List.mem_cons_of_mem _ (List.mem_append_right _ h)
set_option maxRecDepth 100000 in
set_option maxHeartbeats 4000000 in
theorem lw_X5_pass_4 (l : Launch) (D : va_G) (cI cD : ClassId) (ad : Nat → Nat) (N : Nat) (mlen : Int32) (mnodes : Int32) (mlinks : Int32) (bcode : Int32) (hass : Int32) (kwk : Int32) (hsh : Int64) (mwk : Int32) (tab : Nat → Int32) (mdeg : Nat → Int32) (p1 : Int32) {p : Program} {e : Env} {s : State} {m : MethodId} {args : Array Value} {below : List Frame} {meth : Method} {c : Code} {A : Nat → Prop} {Q : State → Prop} (C : wd_C p m c cX5_pass 4 s args wsX5_pass RX5 D [(cI, .int), (cD, .double)] A) : ∀ (n : Nat) (st : Int32 × Int32 × (Nat → Int32) × (Nat → Int32) × (Nat → Int32) × (Nat → Int32)) (E : Int32 × (Nat → Int32) × (Nat → Int32) × (Nat → Int32) × (Nat → Int32)), iter (b_X5_pass_4 mwk tab mdeg p1) n st = some E → (Wd p l e { frames := 2, cells := 0, slots := 0, locals := 45 } s m args below meth c 4 D A 0 0 Q 36 [(2, .int E.1)] [] (w_X5_pass ad cI cD mlen mnodes mlinks mwk bcode hass kwk hsh tab mdeg E.2.1 E.2.2.1 E.2.2.2.1 E.2.2.2.2)) → Wd p l e { frames := 2, cells := 0, slots := 0, locals := 45 } s m args below meth c 4 D A 0 0 Q 4 [(0, .ref (ad 0)), (1, .int p1), (2, .int st.1), (3, .int st.2.1)] [] (w_X5_pass ad cI cD mlen mnodes mlinks mwk bcode hass kwk hsh tab mdeg st.2.2.1 st.2.2.2.1 st.2.2.2.2.1 st.2.2.2.2.2) := by
  intro n
  induction n with
  | zero => intro st E h; cases h
  | succ n ih =>
    intro st E h kx
    obtain ⟨b, h, hk⟩ := iter_step h
    unfold b_X5_pass_4 at h
    refine wd_iload_n (j := 5) C 3 dX5_pass_4 rfl rfl rfl ?_
    refine wd_aload_n (j := 6) C 0 dX5_pass_5 rfl rfl rfl ?_
    refine wd_get (j := 9) (q0 := 0) (f := 7) (ci := 5) (v := .int mwk) C inX5_pass_X5 kX5_pass_1 rfl (by decide) rfl rfl dX5_pass_6 rfl ?_
    refine wd_icmp_ge (j := 12) (t := 36) C dX5_pass_9 (by decide) rfl (fun c1 => ?_) (fun c1 => ?_)
    · replace h := (if_pos c1).symm.trans h
      obtain rfl := Option.some.inj h
      obtain rfl := hk
      refine wd_lv (lv' := [(2, .int st.1)]) [2] rfl ?_
      exact kx
    · replace h := (if_neg c1).symm.trans h
      refine wd_aload_n (j := 13) C 0 dX5_pass_12 rfl rfl rfl ?_
      refine wd_get (j := 16) (q0 := 0) (f := 8) (ci := 5) (v := .ref (ad 5)) C inX5_pass_X5 kX5_pass_2 rfl (by decide) rfl rfl dX5_pass_13 rfl ?_
      refine wd_iload_n (j := 17) C 3 dX5_pass_16 rfl rfl rfl ?_
      obtain ⟨g2, h⟩ := grd_some h
      refine wd_iald (j := 18) (q0 := 4) (t0 := 0) C rfl rfl (inB_in g2) dX5_pass_17 rfl ?_
      refine wd_iload_n (j := 19) C 1 dX5_pass_18 rfl rfl rfl ?_
      refine wd_icmp_eq (j := 22) (t := 30) C dX5_pass_19 (by decide) rfl (fun c3 => ?_) (fun c3 => ?_)
      · replace h := (if_pos c3).symm.trans h
        refine wd_iinc (j := 33) (lv' := [(3, .int (st.2.1 + 1)), (0, .ref (ad 0)), (1, .int p1), (2, .int st.1)]) C 3 dX5_pass_30 rfl rfl (by decide) rfl rfl ?_
        refine wd_goto (t := 4) C dX5_pass_33 (by decide) ?_
        obtain rfl := Option.some.inj h
        refine wd_lv (lv' := [(0, .ref (ad 0)), (1, .int p1), (2, .int st.1), (3, .int (st.2.1 + 1))]) [1, 2, 3, 0] rfl ?_
        exact ih (st.1, (st.2.1 + 1), st.2.2.1, st.2.2.2.1, st.2.2.2.2.1, st.2.2.2.2.2) E hk kx
      · replace h := (if_neg c3).symm.trans h
        refine wd_aload_n (j := 23) C 0 dX5_pass_22 rfl rfl rfl ?_
        refine wd_iload_n (j := 24) C 3 dX5_pass_23 rfl rfl rfl ?_
        obtain ⟨u4, hu4, h⟩ := bnd_some h
        refine wd_callVv (j := 27) (q0 := 0) (ci := 5) (As := [.int st.2.1]) (rest := []) (ws' := (w_X5_pass ad cI cD mlen mnodes mlinks mwk bcode hass kwk hsh tab mdeg u4.1 u4.2.1 u4.2.2.1 u4.2.2.2)) C (c_X5_stepOnce l D cI cD ad mlen mnodes mlinks mwk bcode hass kwk hsh tab mdeg st.2.2.1 st.2.2.2.1 st.2.2.2.2.1 st.2.2.2.2.2 st.2.1 u4 hu4) (cwV 1 C.1.2.2.2.2 gX5_pass_X5_stepOnce rfl rfl rfl (by decide +kernel) ⟨Nat.le_of_ble_eq_true rfl, Nat.le_of_ble_eq_true rfl⟩) rfl rfl [0, 1, 2, 3, 4, 5, 6] [] rfl rfl rfl rfl (by decide) [0, 1, 2, 3, 4, 5, 6] rfl rfl rfl (Nat.le_of_ble_eq_true rfl) (Nat.le_of_ble_eq_true rfl) (Nat.le_of_ble_eq_true rfl) dX5_pass_24 rfl ?_
        refine wd_iinc (j := 30) (lv' := [(2, .int (st.1 + 1)), (0, .ref (ad 0)), (1, .int p1), (3, .int st.2.1)]) C 2 dX5_pass_27 rfl rfl (by decide) rfl rfl ?_
        refine wd_iinc (j := 33) (lv' := [(3, .int (st.2.1 + 1)), (2, .int (st.1 + 1)), (0, .ref (ad 0)), (1, .int p1)]) C 3 dX5_pass_30 rfl rfl (by decide) rfl rfl ?_
        refine wd_goto (t := 4) C dX5_pass_33 (by decide) ?_
        obtain rfl := Option.some.inj h
        refine wd_lv (lv' := [(0, .ref (ad 0)), (1, .int p1), (2, .int (st.1 + 1)), (3, .int (st.2.1 + 1))]) [2, 3, 1, 0] rfl ?_
        exact ih ((st.1 + 1), (st.2.1 + 1), u4.1, u4.2.1, u4.2.2.1, u4.2.2.2) E hk kx
set_option maxRecDepth 100000 in
set_option maxHeartbeats 4000000 in
theorem c_X5_pass (l : Launch) (D : va_G) (cI cD : ClassId) (ad : Nat → Nat) (N : Nat) (mlen : Int32) (mnodes : Int32) (mlinks : Int32) (mwk : Int32) (bcode : Int32) (hass : Int32) (kwk : Int32) (hsh : Int64) (tab : Nat → Int32) (mdeg : Nat → Int32) (mrot : Nat → Int32) (plc : Nat → Int32) (marr : Nat → Int32) (mdep : Nat → Int32) (p1 : Int32) (u : Int32 × (Nat → Int32) × (Nat → Int32) × (Nat → Int32) × (Nat → Int32)) (h : f_X5_pass N mwk tab mdeg mrot plc marr mdep p1 = some u) : MetI l yX5_pass wsX5_pass { frames := 2, cells := 0, slots := 0, locals := 45 } D [(cI, .int), (cD, .double)] [.ref (ad 0), .int p1] (w_X5_pass ad cI cD mlen mnodes mlinks mwk bcode hass kwk hsh tab mdeg mrot plc marr mdep) u.1 (w_X5_pass ad cI cD mlen mnodes mlinks mwk bcode hass kwk hsh tab mdeg u.2.1 u.2.2.1 u.2.2.2.1 u.2.2.2.2) := by
  refine MetI.of (own := RX5) (cc := cX5_pass) (nL := 4) (ret := (some .int)) (by decide) rfl rfl (Nat.le_of_ble_eq_true rfl) rfl ?_
  intro p e s m args below meth c A hA C hr hlk
  unfold f_X5_pass at h
  refine wd_iconst (j := 1) (v := 0) C dX5_pass_0 (by decide) rfl ?_
  refine wd_istore_n (j := 2) (lv' := [(2, .int (0 : Int32)), (0, .ref (ad 0)), (1, .int p1)]) C dX5_pass_1 rfl (by decide) rfl rfl ?_
  refine wd_iconst (j := 3) (v := 0) C dX5_pass_2 (by decide) rfl ?_
  refine wd_istore_n (j := 4) (lv' := [(3, .int (0 : Int32)), (2, .int (0 : Int32)), (0, .ref (ad 0)), (1, .int p1)]) C dX5_pass_3 rfl (by decide) rfl rfl ?_
  refine wd_lv (lv' := [(0, .ref (ad 0)), (1, .int p1), (2, .int (0 : Int32)), (3, .int (0 : Int32))]) [2, 3, 1, 0] rfl ?_
  obtain ⟨u5, hu5, h⟩ := bnd_some h
  refine lw_X5_pass_4 l D cI cD ad N mlen mnodes mlinks bcode hass kwk hsh mwk tab mdeg p1 C N ((0 : Int32), (0 : Int32), mrot, plc, marr, mdep) u5 hu5 ?_
  refine wd_iload_n (j := 37) C 0 dX5_pass_36 rfl rfl rfl ?_
  obtain rfl := Option.some.inj h
  exact wd_iret C hA hr hlk rfl rfl rfl dX5_pass_37
abbrev w_X5_absorb (ad : Nat → Nat) (cI cD : ClassId) (mlen : Int32) (mnodes : Int32) (mlinks : Int32) (mwk : Int32) (bcode : Int32) (hass : Int32) (kwk : Int32) (hsh : Int64) (tab : Nat → Int32) (mdeg : Nat → Int32) (mrot : Nat → Int32) (plc : Nat → Int32) (marr : Nat → Int32) (mdep : Nat → Int32) : va_W := [((ad 0), .inr (5, [.int mlen, .ref (ad 1), .int mnodes, .int mlinks, .ref (ad 2), .ref (ad 3), .ref (ad 4), .int mwk, .ref (ad 5), .ref (ad 6), .ref (ad 7), .ref (ad 8), .ref (ad 9), .int bcode, .ref (ad 10), .ref (ad 11), .int hass, .int kwk, .ref (ad 12), .ref (ad 13), .ref (ad 14), .ref (ad 15), .long hsh])), ((ad 2), .inl (cI, 64, .inl tab)), ((ad 3), .inl (cI, 8, .inl mdeg)), ((ad 4), .inl (cI, 8, .inl mrot)), ((ad 5), .inl (cI, 4, .inl plc)), ((ad 6), .inl (cI, 8, .inl marr)), ((ad 7), .inl (cI, 64, .inl mdep))]
theorem kX5_absorb_1 : Cond.fieldLink "RotorRouterModel" 92 "RotorRouterModel" "walkers" "I" ∈ wsX5_absorb := List.mem_of_getElem? (i := 1) rfl
theorem kX5_absorb_2 : Cond.fieldLink "RotorRouterModel" 22 "RotorRouterModel" "places" "[I" ∈ wsX5_absorb := List.mem_of_getElem? (i := 2) rfl
theorem inX5_absorb_X5 : ∀ w ∈ wsX50, w ∈ wsX5_absorb := fun _ h => List.mem_cons_of_mem _ (List.mem_append_right _ h)
set_option maxRecDepth 100000 in
set_option maxHeartbeats 4000000 in
theorem lw_X5_absorb_29 (l : Launch) (D : va_G) (cI cD : ClassId) (ad : Nat → Nat) (N : Nat) (mlen : Int32) (mnodes : Int32) (mlinks : Int32) (mwk : Int32) (bcode : Int32) (hass : Int32) (kwk : Int32) (hsh : Int64) (tab : Nat → Int32) (mdeg : Nat → Int32) (p1 : Int32) (p4 : Int32) (p2 : Int32) {p : Program} {e : Env} {s : State} {m : MethodId} {args : Array Value} {below : List Frame} {meth : Method} {c : Code} {A : Nat → Prop} {Q : State → Prop} (C : wd_C p m c cX5_absorb 5 s args wsX5_absorb RX5 D [(cI, .int), (cD, .double)] A) : ∀ (n : Nat) (st : Int32 × (Nat → Int32) × (Nat → Int32) × (Nat → Int32) × (Nat → Int32)) (E : Int32 × (Nat → Int32) × (Nat → Int32) × (Nat → Int32) × (Nat → Int32)), iter (b_X5_absorb_29 tab mdeg p1 p4) n st = some E → (Wd p l e { frames := 3, cells := 0, slots := 0, locals := 68 } s m args below meth c 5 D A 0 0 Q 52 [(0, .ref (ad 0)), (1, .int p1), (2, .int p2), (3, .int E.1), (4, .int p4)] [] (w_X5_absorb ad cI cD mlen mnodes mlinks mwk bcode hass kwk hsh tab mdeg E.2.1 E.2.2.1 E.2.2.2.1 E.2.2.2.2)) → Wd p l e { frames := 3, cells := 0, slots := 0, locals := 68 } s m args below meth c 5 D A 0 0 Q 29 [(0, .ref (ad 0)), (1, .int p1), (2, .int p2), (3, .int st.1), (4, .int p4)] [] (w_X5_absorb ad cI cD mlen mnodes mlinks mwk bcode hass kwk hsh tab mdeg st.2.1 st.2.2.1 st.2.2.2.1 st.2.2.2.2) := by
  intro n
  induction n with
  | zero => intro st E h; cases h
  | succ n ih =>
    intro st E h kx
    obtain ⟨b, h, hk⟩ := iter_step h
    unfold b_X5_absorb_29 at h
    refine wd_aload_n (j := 30) C 0 dX5_absorb_29 rfl rfl rfl ?_
    refine wd_get (j := 33) (q0 := 0) (f := 8) (ci := 5) (v := .ref (ad 5)) C inX5_absorb_X5 kX5_absorb_2 rfl (by decide) rfl rfl dX5_absorb_30 rfl ?_
    refine wd_iload (j := 35) C 4 dX5_absorb_33 rfl rfl ?_
    obtain ⟨g1, h⟩ := grd_some h
    refine wd_iald (j := 36) (q0 := 4) (t0 := 0) C rfl rfl (inB_in g1) dX5_absorb_35 rfl ?_
    refine wd_iload_n (j := 37) C 1 dX5_absorb_36 rfl rfl rfl ?_
    refine wd_icmp_eq (j := 40) (t := 52) C dX5_absorb_37 (by decide) rfl (fun c2 => ?_) (fun c2 => ?_)
    · replace h := (if_pos c2).symm.trans h
      obtain rfl := Option.some.inj h
      obtain rfl := hk
      exact kx
    · replace h := (if_neg c2).symm.trans h
      refine wd_aload_n (j := 41) C 0 dX5_absorb_40 rfl rfl rfl ?_
      refine wd_iload (j := 43) C 4 dX5_absorb_41 rfl rfl ?_
      obtain ⟨u3, hu3, h⟩ := bnd_some h
      refine wd_callVv (j := 46) (q0 := 0) (ci := 5) (As := [.int p4]) (rest := []) (ws' := (w_X5_absorb ad cI cD mlen mnodes mlinks mwk bcode hass kwk hsh tab mdeg u3.1 u3.2.1 u3.2.2.1 u3.2.2.2)) C (c_X5_stepOnce l D cI cD ad mlen mnodes mlinks mwk bcode hass kwk hsh tab mdeg st.2.1 st.2.2.1 st.2.2.2.1 st.2.2.2.2 p4 u3 hu3) (cwV 1 C.1.2.2.2.2 gX5_absorb_X5_stepOnce rfl rfl rfl (by decide +kernel) ⟨Nat.le_of_ble_eq_true rfl, Nat.le_of_ble_eq_true rfl⟩) rfl rfl [0, 1, 2, 3, 4, 5, 6] [] rfl rfl rfl rfl (by decide) [0, 1, 2, 3, 4, 5, 6] rfl rfl rfl (Nat.le_of_ble_eq_true rfl) (Nat.le_of_ble_eq_true rfl) (Nat.le_of_ble_eq_true rfl) dX5_absorb_43 rfl ?_
      refine wd_iinc (j := 49) (lv' := [(3, .int (st.1 + 1)), (0, .ref (ad 0)), (1, .int p1), (2, .int p2), (4, .int p4)]) C 3 dX5_absorb_46 rfl rfl (by decide) rfl rfl ?_
      refine wd_goto (t := 29) C dX5_absorb_49 (by decide) ?_
      obtain rfl := Option.some.inj h
      refine wd_lv (lv' := [(0, .ref (ad 0)), (1, .int p1), (2, .int p2), (3, .int (st.1 + 1)), (4, .int p4)]) [1, 2, 3, 0, 4] rfl ?_
      exact ih ((st.1 + 1), u3.1, u3.2.1, u3.2.2.1, u3.2.2.2) E hk kx
set_option maxRecDepth 100000 in
set_option maxHeartbeats 4000000 in
theorem lw_X5_absorb_65 (l : Launch) (D : va_G) (cI cD : ClassId) (ad : Nat → Nat) (N : Nat) (mlen : Int32) (mnodes : Int32) (mlinks : Int32) (bcode : Int32) (hass : Int32) (kwk : Int32) (hsh : Int64) (mwk : Int32) (tab : Nat → Int32) (mdeg : Nat → Int32) (p1 : Int32) {p : Program} {e : Env} {s : State} {m : MethodId} {args : Array Value} {below : List Frame} {meth : Method} {c : Code} {A : Nat → Prop} {Q : State → Prop} (C : wd_C p m c cX5_absorb 5 s args wsX5_absorb RX5 D [(cI, .int), (cD, .double)] A) : ∀ (n : Nat) (st : Int32 × Int32 × (Nat → Int32) × (Nat → Int32) × (Nat → Int32) × (Nat → Int32)) (E : Int32 × (Nat → Int32) × (Nat → Int32) × (Nat → Int32) × (Nat → Int32)), iter (b_X5_absorb_65 N mwk tab mdeg p1) n st = some E → (Wd p l e { frames := 3, cells := 0, slots := 0, locals := 68 } s m args below meth c 5 D A 0 0 Q 85 [(3, .int E.1)] [] (w_X5_absorb ad cI cD mlen mnodes mlinks mwk bcode hass kwk hsh tab mdeg E.2.1 E.2.2.1 E.2.2.2.1 E.2.2.2.2)) → Wd p l e { frames := 3, cells := 0, slots := 0, locals := 68 } s m args below meth c 5 D A 0 0 Q 65 [(0, .ref (ad 0)), (1, .int p1), (3, .int st.1), (4, .int st.2.1)] [] (w_X5_absorb ad cI cD mlen mnodes mlinks mwk bcode hass kwk hsh tab mdeg st.2.2.1 st.2.2.2.1 st.2.2.2.2.1 st.2.2.2.2.2) := by
  intro n
  induction n with
  | zero => intro st E h; cases h
  | succ n ih =>
    intro st E h kx
    obtain ⟨b, h, hk⟩ := iter_step h
    unfold b_X5_absorb_65 at h
    refine wd_iload (j := 67) C 3 dX5_absorb_65 rfl rfl ?_
    refine wd_if_le (j := 70) (t := 85) C dX5_absorb_67 (by decide) rfl (fun c4 => ?_) (fun c4 => ?_)
    · replace h := (if_pos c4).symm.trans h
      obtain rfl := Option.some.inj h
      obtain rfl := hk
      refine wd_lv (lv' := [(3, .int st.1)]) [2] rfl ?_
      exact kx
    · replace h := (if_neg c4).symm.trans h
      refine wd_iload_n (j := 71) C 2 dX5_absorb_70 rfl rfl rfl ?_
      refine wd_iload (j := 73) C 3 dX5_absorb_71 rfl rfl ?_
      refine wd_iadd (j := 74) C dX5_absorb_73 rfl ?_
      refine wd_istore_n (j := 75) (lv' := [(3, .int (st.1 + st.2.1)), (0, .ref (ad 0)), (1, .int p1), (4, .int st.2.1)]) C dX5_absorb_74 rfl (by decide) rfl rfl ?_
      refine wd_aload_n (j := 76) C 1 dX5_absorb_75 rfl rfl rfl ?_
      refine wd_iload_n (j := 77) C 2 dX5_absorb_76 rfl rfl rfl ?_
      obtain ⟨u5, hu5, h⟩ := bnd_some h
      refine wd_callVi (j := 80) (q0 := 0) (ci := 5) (As := [.int p1]) (rest := []) (ws' := (w_X5_absorb ad cI cD mlen mnodes mlinks mwk bcode hass kwk hsh tab mdeg u5.2.1 u5.2.2.1 u5.2.2.2.1 u5.2.2.2.2)) C (c_X5_pass l D cI cD ad N mlen mnodes mlinks mwk bcode hass kwk hsh tab mdeg st.2.2.1 st.2.2.2.1 st.2.2.2.2.1 st.2.2.2.2.2 p1 u5 hu5) (cwV 1 C.1.2.2.2.2 gX5_absorb_X5_pass rfl rfl rfl (by decide +kernel) ⟨Nat.le_of_ble_eq_true rfl, Nat.le_of_ble_eq_true rfl⟩) rfl rfl [0, 1, 2, 3, 4, 5, 6] [] rfl rfl rfl rfl (by decide) [0, 1, 2, 3, 4, 5, 6] rfl rfl rfl (Nat.le_of_ble_eq_true rfl) (Nat.le_of_ble_eq_true rfl) (Nat.le_of_ble_eq_true rfl) dX5_absorb_77 rfl ?_
      refine wd_istore (j := 82) (lv' := [(4, .int u5.1), (3, .int (st.1 + st.2.1)), (0, .ref (ad 0)), (1, .int p1)]) C dX5_absorb_80 (by decide) rfl rfl ?_
      refine wd_goto (t := 65) C dX5_absorb_82 (by decide) ?_
      obtain rfl := Option.some.inj h
      refine wd_lv (lv' := [(0, .ref (ad 0)), (1, .int p1), (3, .int (st.1 + st.2.1)), (4, .int u5.1)]) [2, 3, 1, 0] rfl ?_
      exact ih ((st.1 + st.2.1), u5.1, u5.2.1, u5.2.2.1, u5.2.2.2.1, u5.2.2.2.2) E hk kx
set_option maxRecDepth 100000 in
set_option maxHeartbeats 4000000 in
theorem lw_X5_absorb_16 (l : Launch) (D : va_G) (cI cD : ClassId) (ad : Nat → Nat) (N : Nat) (mlen : Int32) (mnodes : Int32) (mlinks : Int32) (bcode : Int32) (hass : Int32) (kwk : Int32) (hsh : Int64) (mwk : Int32) (tab : Nat → Int32) (mdeg : Nat → Int32) (p1 : Int32) (p2 : Int32) {p : Program} {e : Env} {s : State} {m : MethodId} {args : Array Value} {below : List Frame} {meth : Method} {c : Code} {A : Nat → Prop} {Q : State → Prop} (C : wd_C p m c cX5_absorb 5 s args wsX5_absorb RX5 D [(cI, .int), (cD, .double)] A) : ∀ (n : Nat) (st : Int32 × Int32 × (Nat → Int32) × (Nat → Int32) × (Nat → Int32) × (Nat → Int32)) (E : Int32 × (Nat → Int32) × (Nat → Int32) × (Nat → Int32) × (Nat → Int32)), iter (b_X5_absorb_16 N mwk tab mdeg p1 p2) n st = some E → (Wd p l e { frames := 3, cells := 0, slots := 0, locals := 68 } s m args below meth c 5 D A 0 0 Q 58 [(0, .ref (ad 0)), (1, .int p1), (3, .int E.1)] [] (w_X5_absorb ad cI cD mlen mnodes mlinks mwk bcode hass kwk hsh tab mdeg E.2.1 E.2.2.1 E.2.2.2.1 E.2.2.2.2)) → Wd p l e { frames := 3, cells := 0, slots := 0, locals := 68 } s m args below meth c 5 D A 0 0 Q 16 [(0, .ref (ad 0)), (1, .int p1), (2, .int p2), (3, .int st.1), (4, .int st.2.1)] [] (w_X5_absorb ad cI cD mlen mnodes mlinks mwk bcode hass kwk hsh tab mdeg st.2.2.1 st.2.2.2.1 st.2.2.2.2.1 st.2.2.2.2.2) := by
  intro n
  induction n with
  | zero => intro st E h; cases h
  | succ n ih =>
    intro st E h kx
    obtain ⟨b, h, hk⟩ := iter_step h
    unfold b_X5_absorb_16 at h
    refine wd_iload (j := 18) C 4 dX5_absorb_16 rfl rfl ?_
    refine wd_aload_n (j := 19) C 0 dX5_absorb_18 rfl rfl rfl ?_
    refine wd_get (j := 22) (q0 := 0) (f := 7) (ci := 5) (v := .int mwk) C inX5_absorb_X5 kX5_absorb_1 rfl (by decide) rfl rfl dX5_absorb_19 rfl ?_
    refine wd_icmp_ge (j := 25) (t := 58) C dX5_absorb_22 (by decide) rfl (fun c6 => ?_) (fun c6 => ?_)
    · replace h := (if_pos c6).symm.trans h
      obtain rfl := Option.some.inj h
      obtain rfl := hk
      refine wd_lv (lv' := [(0, .ref (ad 0)), (1, .int p1), (3, .int st.1)]) [0, 1, 3] rfl ?_
      exact kx
    · replace h := (if_neg c6).symm.trans h
      refine wd_iload_n (j := 26) C 2 dX5_absorb_25 rfl rfl rfl ?_
      refine wd_if_ne (j := 29) (t := 58) C dX5_absorb_26 (by decide) rfl (fun c7 => ?_) (fun c7 => ?_)
      · replace h := (if_neg c7).symm.trans h
        obtain rfl := Option.some.inj h
        obtain rfl := hk
        refine wd_lv (lv' := [(0, .ref (ad 0)), (1, .int p1), (3, .int st.1)]) [0, 1, 3] rfl ?_
        exact kx
      · replace h := (if_pos c7).symm.trans h
        obtain ⟨u8, hu8, h⟩ := bnd_some h
        refine lw_X5_absorb_29 l D cI cD ad N mlen mnodes mlinks mwk bcode hass kwk hsh tab mdeg p1 st.2.1 p2 C N (st.1, st.2.2.1, st.2.2.2.1, st.2.2.2.2.1, st.2.2.2.2.2) u8 hu8 ?_
        refine wd_iinc (j := 55) (lv' := [(4, .int (st.2.1 + 1)), (0, .ref (ad 0)), (1, .int p1), (2, .int p2), (3, .int u8.1)]) C 4 dX5_absorb_52 rfl rfl (by decide) rfl rfl ?_
        refine wd_goto (t := 16) C dX5_absorb_55 (by decide) ?_
        obtain rfl := Option.some.inj h
        refine wd_lv (lv' := [(0, .ref (ad 0)), (1, .int p1), (2, .int p2), (3, .int u8.1), (4, .int (st.2.1 + 1))]) [1, 2, 3, 4, 0] rfl ?_
        exact ih (u8.1, (st.2.1 + 1), u8.2.1, u8.2.2.1, u8.2.2.2.1, u8.2.2.2.2) E hk kx
set_option maxRecDepth 100000 in
set_option maxHeartbeats 4000000 in
theorem c_X5_absorb (l : Launch) (D : va_G) (cI cD : ClassId) (ad : Nat → Nat) (N : Nat) (mlen : Int32) (mnodes : Int32) (mlinks : Int32) (mwk : Int32) (bcode : Int32) (hass : Int32) (kwk : Int32) (hsh : Int64) (tab : Nat → Int32) (mdeg : Nat → Int32) (mrot : Nat → Int32) (plc : Nat → Int32) (marr : Nat → Int32) (mdep : Nat → Int32) (p1 : Int32) (p2 : Int32) (u : Int32 × (Nat → Int32) × (Nat → Int32) × (Nat → Int32) × (Nat → Int32)) (h : f_X5_absorb N mnodes mwk tab mdeg mrot plc marr mdep p1 p2 = some u) : MetI l yX5_absorb wsX5_absorb { frames := 3, cells := 0, slots := 0, locals := 68 } D [(cI, .int), (cD, .double)] [.ref (ad 0), .int p1, .int p2] (w_X5_absorb ad cI cD mlen mnodes mlinks mwk bcode hass kwk hsh tab mdeg mrot plc marr mdep) u.1 (w_X5_absorb ad cI cD mlen mnodes mlinks mwk bcode hass kwk hsh tab mdeg u.2.1 u.2.2.1 u.2.2.2.1 u.2.2.2.2) := by
  refine MetI.of (own := RX5) (cc := cX5_absorb) (nL := 5) (ret := (some .int)) (by decide) rfl rfl (Nat.le_of_ble_eq_true rfl) rfl ?_
  intro p e s m args below meth c A hA C hr hlk
  unfold f_X5_absorb at h
  refine wd_aload_n (j := 1) C 0 dX5_absorb_0 rfl rfl rfl ?_
  refine wd_iload_n (j := 2) C 1 dX5_absorb_1 rfl rfl rfl ?_
  obtain ⟨u9, hu9, h⟩ := bnd_some h
  refine wd_callVi (j := 5) (q0 := 0) (ci := 5) (As := [.int p1]) (rest := []) (ws' := (w_X5_absorb ad cI cD mlen mnodes mlinks mwk bcode hass kwk hsh tab mdeg mrot plc marr mdep)) C (c_X5_isNode l D cI cD ad mlen mnodes mlinks mwk bcode hass kwk hsh p1 u9 hu9) (cwV 1 C.1.2.2.2.2 gX5_absorb_X5_isNode rfl rfl rfl (by decide +kernel) ⟨Nat.le_of_ble_eq_true rfl, Nat.le_of_ble_eq_true rfl⟩) rfl rfl [0] [1, 2, 3, 4, 5, 6] rfl rfl rfl rfl (by decide) [6, 0, 1, 2, 3, 4, 5] rfl rfl rfl (Nat.le_of_ble_eq_true rfl) (Nat.le_of_ble_eq_true rfl) (Nat.le_of_ble_eq_true rfl) dX5_absorb_2 rfl ?_
  refine wd_if_ne (j := 8) (t := 11) C dX5_absorb_5 (by decide) rfl (fun c10 => ?_) (fun c10 => ?_)
  · replace h := (if_neg c10).symm.trans h
    refine wd_iconst (j := 12) (v := 0) C dX5_absorb_11 (by decide) rfl ?_
    refine wd_istore_n (j := 13) (lv' := [(3, .int (0 : Int32)), (0, .ref (ad 0)), (1, .int p1), (2, .int p2)]) C dX5_absorb_12 rfl (by decide) rfl rfl ?_
    refine wd_iconst (j := 14) (v := 0) C dX5_absorb_13 (by decide) rfl ?_
    refine wd_istore (j := 16) (lv' := [(4, .int (0 : Int32)), (3, .int (0 : Int32)), (0, .ref (ad 0)), (1, .int p1), (2, .int p2)]) C dX5_absorb_14 (by decide) rfl rfl ?_
    refine wd_lv (lv' := [(0, .ref (ad 0)), (1, .int p1), (2, .int p2), (3, .int (0 : Int32)), (4, .int (0 : Int32))]) [2, 3, 4, 1, 0] rfl ?_
    obtain ⟨u11, hu11, h⟩ := bnd_some h
    refine lw_X5_absorb_16 l D cI cD ad N mlen mnodes mlinks bcode hass kwk hsh mwk tab mdeg p1 p2 C N ((0 : Int32), (0 : Int32), mrot, plc, marr, mdep) u11 hu11 ?_
    refine wd_aload_n (j := 59) C 0 dX5_absorb_58 rfl rfl rfl ?_
    refine wd_iload_n (j := 60) C 1 dX5_absorb_59 rfl rfl rfl ?_
    obtain ⟨u12, hu12, h⟩ := bnd_some h
    refine wd_callVi (j := 63) (q0 := 0) (ci := 5) (As := [.int p1]) (rest := []) (ws' := (w_X5_absorb ad cI cD mlen mnodes mlinks mwk bcode hass kwk hsh tab mdeg u12.2.1 u12.2.2.1 u12.2.2.2.1 u12.2.2.2.2)) C (c_X5_pass l D cI cD ad N mlen mnodes mlinks mwk bcode hass kwk hsh tab mdeg u11.2.1 u11.2.2.1 u11.2.2.2.1 u11.2.2.2.2 p1 u12 hu12) (cwV 1 C.1.2.2.2.2 gX5_absorb_X5_pass rfl rfl rfl (by decide +kernel) ⟨Nat.le_of_ble_eq_true rfl, Nat.le_of_ble_eq_true rfl⟩) rfl rfl [0, 1, 2, 3, 4, 5, 6] [] rfl rfl rfl rfl (by decide) [0, 1, 2, 3, 4, 5, 6] rfl rfl rfl (Nat.le_of_ble_eq_true rfl) (Nat.le_of_ble_eq_true rfl) (Nat.le_of_ble_eq_true rfl) dX5_absorb_60 rfl ?_
    refine wd_istore (j := 65) (lv' := [(4, .int u12.1), (0, .ref (ad 0)), (1, .int p1), (3, .int u11.1)]) C dX5_absorb_63 (by decide) rfl rfl ?_
    refine wd_lv (lv' := [(0, .ref (ad 0)), (1, .int p1), (3, .int u11.1), (4, .int u12.1)]) [1, 2, 3, 0] rfl ?_
    obtain ⟨u13, hu13, h⟩ := bnd_some h
    refine lw_X5_absorb_65 l D cI cD ad N mlen mnodes mlinks bcode hass kwk hsh mwk tab mdeg p1 C N (u11.1, u12.1, u12.2.1, u12.2.2.1, u12.2.2.2.1, u12.2.2.2.2) u13 hu13 ?_
    refine wd_iload_n (j := 86) C 0 dX5_absorb_85 rfl rfl rfl ?_
    obtain rfl := Option.some.inj h
    exact wd_iret C hA hr hlk rfl rfl rfl dX5_absorb_86
  · replace h := (if_pos c10).symm.trans h
    refine wd_bipush (j := 10) (v := -4) C dX5_absorb_8 (by decide) rfl ?_
    obtain rfl := Option.some.inj h
    exact wd_iret C hA hr hlk rfl rfl rfl dX5_absorb_10
abbrev w_X5_arrivals (ad : Nat → Nat) (cI cD : ClassId) (mlen : Int32) (mnodes : Int32) (mlinks : Int32) (mwk : Int32) (bcode : Int32) (hass : Int32) (kwk : Int32) (hsh : Int64) (marr : Nat → Int32) : va_W := [((ad 0), .inr (5, [.int mlen, .ref (ad 1), .int mnodes, .int mlinks, .ref (ad 2), .ref (ad 3), .ref (ad 4), .int mwk, .ref (ad 5), .ref (ad 6), .ref (ad 7), .ref (ad 8), .ref (ad 9), .int bcode, .ref (ad 10), .ref (ad 11), .int hass, .int kwk, .ref (ad 12), .ref (ad 13), .ref (ad 14), .ref (ad 15), .long hsh])), ((ad 6), .inl (cI, 8, .inl marr))]
theorem kX5_arrivals_1 : Cond.fieldLink "RotorRouterModel" 25 "RotorRouterModel" "arrived" "[I" ∈ wsX5_arrivals := List.mem_of_getElem? (i := 1) rfl
theorem inX5_arrivals_X5 : ∀ w ∈ wsX50, w ∈ wsX5_arrivals := fun _ h => List.mem_cons_of_mem _ (List.mem_append_right _ h)
set_option maxRecDepth 100000 in
set_option maxHeartbeats 4000000 in
theorem c_X5_arrivals (l : Launch) (D : va_G) (cI cD : ClassId) (ad : Nat → Nat) (mlen : Int32) (mnodes : Int32) (mlinks : Int32) (mwk : Int32) (bcode : Int32) (hass : Int32) (kwk : Int32) (hsh : Int64) (marr : Nat → Int32) (p1 : Int32) (u : Int32) (h : f_X5_arrivals mnodes marr p1 = some u) : MetI l yX5_arrivals wsX5_arrivals { frames := 2, cells := 0, slots := 0, locals := 43 } D [(cI, .int), (cD, .double)] [.ref (ad 0), .int p1] (w_X5_arrivals ad cI cD mlen mnodes mlinks mwk bcode hass kwk hsh marr) u (w_X5_arrivals ad cI cD mlen mnodes mlinks mwk bcode hass kwk hsh marr) := by
  refine MetI.of (own := RX5) (cc := cX5_arrivals) (nL := 2) (ret := (some .int)) (by decide) rfl rfl (Nat.le_of_ble_eq_true rfl) rfl ?_
  intro p e s m args below meth c A hA C hr hlk
  unfold f_X5_arrivals at h
  refine wd_aload_n (j := 1) C 0 dX5_arrivals_0 rfl rfl rfl ?_
  refine wd_iload_n (j := 2) C 1 dX5_arrivals_1 rfl rfl rfl ?_
  obtain ⟨u1, hu1, h⟩ := bnd_some h
  refine wd_callVi (j := 5) (q0 := 0) (ci := 5) (As := [.int p1]) (rest := []) (ws' := (w_X5_arrivals ad cI cD mlen mnodes mlinks mwk bcode hass kwk hsh marr)) C (c_X5_isNode l D cI cD ad mlen mnodes mlinks mwk bcode hass kwk hsh p1 u1 hu1) (cwV 1 C.1.2.2.2.2 gX5_arrivals_X5_isNode rfl rfl rfl (by decide +kernel) ⟨Nat.le_of_ble_eq_true rfl, Nat.le_of_ble_eq_true rfl⟩) rfl rfl [0] [1] rfl rfl rfl rfl (by decide) [1, 0] rfl rfl rfl (Nat.le_of_ble_eq_true rfl) (Nat.le_of_ble_eq_true rfl) (Nat.le_of_ble_eq_true rfl) dX5_arrivals_2 rfl ?_
  refine wd_if_eq (j := 8) (t := 17) C dX5_arrivals_5 (by decide) rfl (fun c2 => ?_) (fun c2 => ?_)
  · replace h := (if_pos c2).symm.trans h
    refine wd_bipush (j := 19) (v := -4) C dX5_arrivals_17 (by decide) rfl ?_
    obtain rfl := Option.some.inj h
    exact wd_iret C hA hr hlk rfl rfl rfl dX5_arrivals_19
  · replace h := (if_neg c2).symm.trans h
    refine wd_aload_n (j := 9) C 0 dX5_arrivals_8 rfl rfl rfl ?_
    refine wd_get (j := 12) (q0 := 0) (f := 9) (ci := 5) (v := .ref (ad 6)) C inX5_arrivals_X5 kX5_arrivals_1 rfl (by decide) rfl rfl dX5_arrivals_9 rfl ?_
    refine wd_iload_n (j := 13) C 1 dX5_arrivals_12 rfl rfl rfl ?_
    obtain ⟨g3, h⟩ := grd_some h
    refine wd_iald (j := 14) (q0 := 1) (t0 := 0) C rfl rfl (inB_in g3) dX5_arrivals_13 rfl ?_
    refine wd_goto (t := 19) C dX5_arrivals_14 (by decide) ?_
    obtain rfl := Option.some.inj h
    exact wd_iret C hA hr hlk rfl rfl rfl dX5_arrivals_19
abbrev w_X5_departures (ad : Nat → Nat) (cI cD : ClassId) (mlen : Int32) (mnodes : Int32) (mlinks : Int32) (mwk : Int32) (bcode : Int32) (hass : Int32) (kwk : Int32) (hsh : Int64) (mdeg : Nat → Int32) (mdep : Nat → Int32) : va_W := [((ad 0), .inr (5, [.int mlen, .ref (ad 1), .int mnodes, .int mlinks, .ref (ad 2), .ref (ad 3), .ref (ad 4), .int mwk, .ref (ad 5), .ref (ad 6), .ref (ad 7), .ref (ad 8), .ref (ad 9), .int bcode, .ref (ad 10), .ref (ad 11), .int hass, .int kwk, .ref (ad 12), .ref (ad 13), .ref (ad 14), .ref (ad 15), .long hsh])), ((ad 3), .inl (cI, 8, .inl mdeg)), ((ad 7), .inl (cI, 64, .inl mdep))]
theorem kX5_departures_1 : Cond.fieldLink "RotorRouterModel" 28 "RotorRouterModel" "departed" "[I" ∈ wsX5_departures := List.mem_of_getElem? (i := 1) rfl
theorem inX5_departures_X5 : ∀ w ∈ wsX50, w ∈ wsX5_departures := fun _ h => List.mem_cons_of_mem _ (List.mem_append_right _ h)
set_option maxRecDepth 100000 in
set_option maxHeartbeats 4000000 in
theorem c_X5_departures (l : Launch) (D : va_G) (cI cD : ClassId) (ad : Nat → Nat) (mlen : Int32) (mnodes : Int32) (mlinks : Int32) (mwk : Int32) (bcode : Int32) (hass : Int32) (kwk : Int32) (hsh : Int64) (mdeg : Nat → Int32) (mdep : Nat → Int32) (p1 : Int32) (p2 : Int32) (u : Int32) (h : f_X5_departures mnodes mdeg mdep p1 p2 = some u) : MetI l yX5_departures wsX5_departures { frames := 3, cells := 0, slots := 0, locals := 65 } D [(cI, .int), (cD, .double)] [.ref (ad 0), .int p1, .int p2] (w_X5_departures ad cI cD mlen mnodes mlinks mwk bcode hass kwk hsh mdeg mdep) u (w_X5_departures ad cI cD mlen mnodes mlinks mwk bcode hass kwk hsh mdeg mdep) := by
  refine MetI.of (own := RX5) (cc := cX5_departures) (nL := 4) (ret := (some .int)) (by decide) rfl rfl (Nat.le_of_ble_eq_true rfl) rfl ?_
  intro p e s m args below meth c A hA C hr hlk
  unfold f_X5_departures at h
  refine wd_aload_n (j := 1) C 0 dX5_departures_0 rfl rfl rfl ?_
  refine wd_iload_n (j := 2) C 1 dX5_departures_1 rfl rfl rfl ?_
  refine wd_iload_n (j := 3) C 2 dX5_departures_2 rfl rfl rfl ?_
  obtain ⟨u1, hu1, h⟩ := bnd_some h
  refine wd_callVi (j := 6) (q0 := 0) (ci := 5) (As := [.int p1, .int p2]) (rest := []) (ws' := (w_X5_departures ad cI cD mlen mnodes mlinks mwk bcode hass kwk hsh mdeg mdep)) C (c_X5_errorOf l D cI cD ad mlen mnodes mlinks mwk bcode hass kwk hsh mdeg p1 p2 u1 hu1) (cwV 2 C.1.2.2.2.2 gX5_departures_X5_errorOf rfl rfl rfl (by decide +kernel) ⟨Nat.le_of_ble_eq_true rfl, Nat.le_of_ble_eq_true rfl⟩) rfl rfl [0, 1] [2] rfl rfl rfl rfl (by decide) [1, 2, 0] rfl rfl rfl (Nat.le_of_ble_eq_true rfl) (Nat.le_of_ble_eq_true rfl) (Nat.le_of_ble_eq_true rfl) dX5_departures_3 rfl ?_
  refine wd_istore_n (j := 7) (lv' := [(3, .int u1), (0, .ref (ad 0)), (1, .int p1), (2, .int p2)]) C dX5_departures_6 rfl (by decide) rfl rfl ?_
  refine wd_iload_n (j := 8) C 0 dX5_departures_7 rfl rfl rfl ?_
  refine wd_if_ge (j := 11) (t := 15) C dX5_departures_8 (by decide) rfl (fun c2 => ?_) (fun c2 => ?_)
  · replace h := (if_pos c2).symm.trans h
    refine wd_aload_n (j := 16) C 1 dX5_departures_15 rfl rfl rfl ?_
    refine wd_get (j := 19) (q0 := 0) (f := 10) (ci := 5) (v := .ref (ad 7)) C inX5_departures_X5 kX5_departures_1 rfl (by decide) rfl rfl dX5_departures_16 rfl ?_
    refine wd_bipush (j := 21) (v := 8) C dX5_departures_19 (by decide) rfl ?_
    refine wd_iload_n (j := 22) C 2 dX5_departures_21 rfl rfl rfl ?_
    refine wd_imul (j := 23) C dX5_departures_22 rfl ?_
    refine wd_iload_n (j := 24) C 3 dX5_departures_23 rfl rfl rfl ?_
    refine wd_iadd (j := 25) C dX5_departures_24 rfl ?_
    obtain ⟨g3, h⟩ := grd_some h
    refine wd_iald (j := 26) (q0 := 2) (t0 := 0) C rfl rfl (inB_in g3) dX5_departures_25 rfl ?_
    obtain rfl := Option.some.inj h
    exact wd_iret C hA hr hlk rfl rfl rfl dX5_departures_26
  · replace h := (if_neg c2).symm.trans h
    refine wd_iload_n (j := 12) C 0 dX5_departures_11 rfl rfl rfl ?_
    refine wd_goto (t := 26) C dX5_departures_12 (by decide) ?_
    obtain rfl := Option.some.inj h
    exact wd_iret C hA hr hlk rfl rfl rfl dX5_departures_26
abbrev w_X5_copyRotors (ad : Nat → Nat) (ax ay : Nat) (cI cD : ClassId) (mlen : Int32) (mnodes : Int32) (mlinks : Int32) (mwk : Int32) (bcode : Int32) (hass : Int32) (kwk : Int32) (hsh : Int64) (src : Nat → Int32) (dst : Nat → Int32) : va_W := [((ad 0), .inr (5, [.int mlen, .ref (ad 1), .int mnodes, .int mlinks, .ref (ad 2), .ref (ad 3), .ref (ad 4), .int mwk, .ref (ad 5), .ref (ad 6), .ref (ad 7), .ref (ad 8), .ref (ad 9), .int bcode, .ref (ad 10), .ref (ad 11), .int hass, .int kwk, .ref (ad 12), .ref (ad 13), .ref (ad 14), .ref (ad 15), .long hsh])), (ax, .inl (cI, 8, .inl src)), (ay, .inl (cI, 8, .inl dst))]
set_option maxRecDepth 100000 in
set_option maxHeartbeats 4000000 in
theorem lw_X5_copyRotors_2 (l : Launch) (D : va_G) (cI cD : ClassId) (ad : Nat → Nat) (ax ay : Nat) (N : Nat) (mlen : Int32) (mnodes : Int32) (mlinks : Int32) (mwk : Int32) (bcode : Int32) (hass : Int32) (kwk : Int32) (hsh : Int64) (src : Nat → Int32)  {p : Program} {e : Env} {s : State} {m : MethodId} {args : Array Value} {below : List Frame} {meth : Method} {c : Code} {A : Nat → Prop} {Q : State → Prop} (C : wd_C p m c cX5_copyRotors 4 s args wsX5_copyRotors RX5 D [(cI, .int), (cD, .double)] A) : ∀ (n : Nat) (st : Int32 × (Nat → Int32)) (E : (Nat → Int32)), iter (b_X5_copyRotors_2 src) n st = some E → (Wd p l e { frames := 0, cells := 0, slots := 0, locals := 0 } s m args below meth c 4 D A 0 0 Q 20 [] [] (w_X5_copyRotors ad ax ay cI cD mlen mnodes mlinks mwk bcode hass kwk hsh src E)) → Wd p l e { frames := 0, cells := 0, slots := 0, locals := 0 } s m args below meth c 4 D A 0 0 Q 2 [(1, .ref ax), (2, .ref ay), (3, .int st.1)] [] (w_X5_copyRotors ad ax ay cI cD mlen mnodes mlinks mwk bcode hass kwk hsh src st.2) := by
  intro n
  induction n with
  | zero => intro st E h; cases h
  | succ n ih =>
    intro st E h kx
    obtain ⟨b, h, hk⟩ := iter_step h
    unfold b_X5_copyRotors_2 at h
    refine wd_iload_n (j := 3) C 2 dX5_copyRotors_2 rfl rfl rfl ?_
    refine wd_bipush (j := 5) (v := 8) C dX5_copyRotors_3 (by decide) rfl ?_
    refine wd_icmp_ge (j := 8) (t := 20) C dX5_copyRotors_5 (by decide) rfl (fun c1 => ?_) (fun c1 => ?_)
    · replace h := (if_pos c1).symm.trans h
      obtain rfl := Option.some.inj h
      obtain rfl := hk
      refine wd_lv (lv' := []) [] rfl ?_
      exact kx
    · replace h := (if_neg c1).symm.trans h
      refine wd_aload_n (j := 9) C 1 dX5_copyRotors_8 rfl rfl rfl ?_
      refine wd_iload_n (j := 10) C 2 dX5_copyRotors_9 rfl rfl rfl ?_
      refine wd_aload_n (j := 11) C 0 dX5_copyRotors_10 rfl rfl rfl ?_
      refine wd_iload_n (j := 12) C 2 dX5_copyRotors_11 rfl rfl rfl ?_
      obtain ⟨g2, h⟩ := grd_some h
      refine wd_iald (j := 13) (q0 := 1) (t0 := 0) C rfl rfl (inB_in g2) dX5_copyRotors_12 rfl ?_
      obtain ⟨g3, h⟩ := grd_some h
      refine wd_iast (j := 14) (q0 := 2) (t0 := 0) (ws' := (w_X5_copyRotors ad ax ay cI cD mlen mnodes mlinks mwk bcode hass kwk hsh src (upd st.2 st.1.toNatClampNeg (src st.1.toNatClampNeg)))) C rfl rfl (inB_in g3) rfl dX5_copyRotors_13 rfl ?_
      refine wd_iinc (j := 17) (lv' := [(3, .int (st.1 + 1)), (1, .ref ax), (2, .ref ay)]) C 2 dX5_copyRotors_14 rfl rfl (by decide) rfl rfl ?_
      refine wd_goto (t := 2) C dX5_copyRotors_17 (by decide) ?_
      obtain rfl := Option.some.inj h
      refine wd_lv (lv' := [(1, .ref ax), (2, .ref ay), (3, .int (st.1 + 1))]) [1, 2, 0] rfl ?_
      exact ih ((st.1 + 1), (upd st.2 st.1.toNatClampNeg (src st.1.toNatClampNeg))) E hk kx
set_option maxRecDepth 100000 in
set_option maxHeartbeats 4000000 in
theorem c_X5_copyRotors (l : Launch) (D : va_G) (cI cD : ClassId) (ad : Nat → Nat) (ax ay : Nat) (N : Nat) (mlen : Int32) (mnodes : Int32) (mlinks : Int32) (mwk : Int32) (bcode : Int32) (hass : Int32) (kwk : Int32) (hsh : Int64) (src : Nat → Int32) (dst : Nat → Int32)  (u : (Nat → Int32)) (h : f_X5_copyRotors N src dst = some u) : MetV l yX5_copyRotors wsX5_copyRotors { frames := 0, cells := 0, slots := 0, locals := 0 } D [(cI, .int), (cD, .double)] [.ref (ad 0), .ref ax, .ref ay] (w_X5_copyRotors ad ax ay cI cD mlen mnodes mlinks mwk bcode hass kwk hsh src dst) (w_X5_copyRotors ad ax ay cI cD mlen mnodes mlinks mwk bcode hass kwk hsh src u) := by
  refine MetV.of (own := RX5) (cc := cX5_copyRotors) (nL := 4) (ret := none) (by decide) rfl rfl (Nat.le_of_ble_eq_true rfl) rfl ?_
  intro p e s m args below meth c A hA C hr hlk
  unfold f_X5_copyRotors at h
  refine wd_iconst (j := 1) (v := 0) C dX5_copyRotors_0 (by decide) rfl ?_
  refine wd_istore_n (j := 2) (lv' := [(3, .int (0 : Int32)), (0, .ref (ad 0)), (1, .ref ax), (2, .ref ay)]) C dX5_copyRotors_1 rfl (by decide) rfl rfl ?_
  refine wd_lv (lv' := [(1, .ref ax), (2, .ref ay), (3, .int (0 : Int32))]) [2, 3, 0] rfl ?_
  obtain ⟨u4, hu4, h⟩ := bnd_some h
  refine lw_X5_copyRotors_2 l D cI cD ad ax ay N mlen mnodes mlinks mwk bcode hass kwk hsh src C N ((0 : Int32), dst) u4 hu4 ?_
  obtain rfl := Option.some.inj h
  exact wd_vret C hA hr hlk rfl dX5_copyRotors_20
abbrev w_X5_areEqual (ad : Nat → Nat) (cI cD : ClassId) (mlen : Int32) (mnodes : Int32) (mlinks : Int32) (mwk : Int32) (bcode : Int32) (hass : Int32) (kwk : Int32) (hsh : Int64) (fsr : Nat → Int32) (snr : Nat → Int32) : va_W := [((ad 0), .inr (5, [.int mlen, .ref (ad 1), .int mnodes, .int mlinks, .ref (ad 2), .ref (ad 3), .ref (ad 4), .int mwk, .ref (ad 5), .ref (ad 6), .ref (ad 7), .ref (ad 8), .ref (ad 9), .int bcode, .ref (ad 10), .ref (ad 11), .int hass, .int kwk, .ref (ad 12), .ref (ad 13), .ref (ad 14), .ref (ad 15), .long hsh])), ((ad 8), .inl (cI, 8, .inl fsr)), ((ad 9), .inl (cI, 8, .inl snr))]
theorem kX5_areEqual_1 : Cond.fieldLink "RotorRouterModel" 82 "RotorRouterModel" "nodes" "I" ∈ wsX5_areEqual := List.mem_of_getElem? (i := 1) rfl
theorem kX5_areEqual_2 : Cond.fieldLink "RotorRouterModel" 31 "RotorRouterModel" "first" "[I" ∈ wsX5_areEqual := List.mem_of_getElem? (i := 2) rfl
theorem kX5_areEqual_3 : Cond.fieldLink "RotorRouterModel" 34 "RotorRouterModel" "second" "[I" ∈ wsX5_areEqual := List.mem_of_getElem? (i := 3) rfl
theorem inX5_areEqual_X5 : ∀ w ∈ wsX50, w ∈ wsX5_areEqual := fun _ h => List.mem_cons_of_mem _ (List.mem_append_right _ h)
set_option maxRecDepth 100000 in
set_option maxHeartbeats 4000000 in
theorem lw_X5_areEqual_4 (l : Launch) (D : va_G) (cI cD : ClassId) (ad : Nat → Nat) (N : Nat) (mlen : Int32) (mlinks : Int32) (mwk : Int32) (bcode : Int32) (hass : Int32) (kwk : Int32) (hsh : Int64) (mnodes : Int32) (fsr : Nat → Int32) (snr : Nat → Int32)  {p : Program} {e : Env} {s : State} {m : MethodId} {args : Array Value} {below : List Frame} {meth : Method} {c : Code} {A : Nat → Prop} {Q : State → Prop} (C : wd_C p m c cX5_areEqual 3 s args wsX5_areEqual RX5 D [(cI, .int), (cD, .double)] A) : ∀ (n : Nat) (st : Int32 × Int32) (E : Int32), iter (b_X5_areEqual_4 mnodes fsr snr) n st = some E → (Wd p l e { frames := 0, cells := 0, slots := 0, locals := 0 } s m args below meth c 3 D A 0 0 Q 43 [(1, .int E)] [] (w_X5_areEqual ad cI cD mlen mnodes mlinks mwk bcode hass kwk hsh fsr snr)) → Wd p l e { frames := 0, cells := 0, slots := 0, locals := 0 } s m args below meth c 3 D A 0 0 Q 4 [(0, .ref (ad 0)), (1, .int st.1), (2, .int st.2)] [] (w_X5_areEqual ad cI cD mlen mnodes mlinks mwk bcode hass kwk hsh fsr snr) := by
  intro n
  induction n with
  | zero => intro st E h; cases h
  | succ n ih =>
    intro st E h kx
    obtain ⟨b, h, hk⟩ := iter_step h
    unfold b_X5_areEqual_4 at h
    refine wd_iload_n (j := 5) C 2 dX5_areEqual_4 rfl rfl rfl ?_
    refine wd_aload_n (j := 6) C 0 dX5_areEqual_5 rfl rfl rfl ?_
    refine wd_get (j := 9) (q0 := 0) (f := 2) (ci := 5) (v := .int mnodes) C inX5_areEqual_X5 kX5_areEqual_1 rfl (by decide) rfl rfl dX5_areEqual_6 rfl ?_
    refine wd_icmp_ge (j := 12) (t := 43) C dX5_areEqual_9 (by decide) rfl (fun c1 => ?_) (fun c1 => ?_)
    · replace h := (if_pos c1).symm.trans h
      obtain rfl := Option.some.inj h
      obtain rfl := hk
      refine wd_lv (lv' := [(1, .int st.1)]) [1] rfl ?_
      exact kx
    · replace h := (if_neg c1).symm.trans h
      refine wd_iload_n (j := 13) C 1 dX5_areEqual_12 rfl rfl rfl ?_
      refine wd_if_eq (j := 16) (t := 35) C dX5_areEqual_13 (by decide) rfl (fun c2 => ?_) (fun c2 => ?_)
      · replace h := (if_pos c2).symm.trans h
        refine wd_iconst (j := 36) (v := 0) C dX5_areEqual_35 (by decide) rfl ?_
        refine wd_istore_n (j := 37) (lv' := [(1, .int (0 : Int32)), (0, .ref (ad 0)), (2, .int st.2)]) C dX5_areEqual_36 rfl (by decide) rfl rfl ?_
        refine wd_iinc (j := 40) (lv' := [(2, .int (st.2 + 1)), (1, .int (0 : Int32)), (0, .ref (ad 0))]) C 2 dX5_areEqual_37 rfl rfl (by decide) rfl rfl ?_
        refine wd_goto (t := 4) C dX5_areEqual_40 (by decide) ?_
        obtain rfl := Option.some.inj h
        refine wd_lv (lv' := [(0, .ref (ad 0)), (1, .int (0 : Int32)), (2, .int (st.2 + 1))]) [2, 1, 0] rfl ?_
        exact ih ((0 : Int32), (st.2 + 1)) E hk kx
      · replace h := (if_neg c2).symm.trans h
        refine wd_aload_n (j := 17) C 0 dX5_areEqual_16 rfl rfl rfl ?_
        refine wd_get (j := 20) (q0 := 0) (f := 11) (ci := 5) (v := .ref (ad 8)) C inX5_areEqual_X5 kX5_areEqual_2 rfl (by decide) rfl rfl dX5_areEqual_17 rfl ?_
        refine wd_iload_n (j := 21) C 2 dX5_areEqual_20 rfl rfl rfl ?_
        obtain ⟨g3, h⟩ := grd_some h
        refine wd_iald (j := 22) (q0 := 1) (t0 := 0) C rfl rfl (inB_in g3) dX5_areEqual_21 rfl ?_
        refine wd_aload_n (j := 23) C 0 dX5_areEqual_22 rfl rfl rfl ?_
        refine wd_get (j := 26) (q0 := 0) (f := 12) (ci := 5) (v := .ref (ad 9)) C inX5_areEqual_X5 kX5_areEqual_3 rfl (by decide) rfl rfl dX5_areEqual_23 rfl ?_
        refine wd_iload_n (j := 27) C 2 dX5_areEqual_26 rfl rfl rfl ?_
        obtain ⟨g4, h⟩ := grd_some h
        refine wd_iald (j := 28) (q0 := 2) (t0 := 0) C rfl rfl (inB_in g4) dX5_areEqual_27 rfl ?_
        refine wd_icmp_ne (j := 31) (t := 35) C dX5_areEqual_28 (by decide) rfl (fun c5 => ?_) (fun c5 => ?_)
        · replace h := (if_neg c5).symm.trans h
          refine wd_iconst (j := 36) (v := 0) C dX5_areEqual_35 (by decide) rfl ?_
          refine wd_istore_n (j := 37) (lv' := [(1, .int (0 : Int32)), (0, .ref (ad 0)), (2, .int st.2)]) C dX5_areEqual_36 rfl (by decide) rfl rfl ?_
          refine wd_iinc (j := 40) (lv' := [(2, .int (st.2 + 1)), (1, .int (0 : Int32)), (0, .ref (ad 0))]) C 2 dX5_areEqual_37 rfl rfl (by decide) rfl rfl ?_
          refine wd_goto (t := 4) C dX5_areEqual_40 (by decide) ?_
          obtain rfl := Option.some.inj h
          refine wd_lv (lv' := [(0, .ref (ad 0)), (1, .int (0 : Int32)), (2, .int (st.2 + 1))]) [2, 1, 0] rfl ?_
          exact ih ((0 : Int32), (st.2 + 1)) E hk kx
        · replace h := (if_pos c5).symm.trans h
          refine wd_iconst (j := 32) (v := 1) C dX5_areEqual_31 (by decide) rfl ?_
          refine wd_goto (t := 36) C dX5_areEqual_32 (by decide) ?_
          refine wd_istore_n (j := 37) (lv' := [(1, .int (1 : Int32)), (0, .ref (ad 0)), (2, .int st.2)]) C dX5_areEqual_36 rfl (by decide) rfl rfl ?_
          refine wd_iinc (j := 40) (lv' := [(2, .int (st.2 + 1)), (1, .int (1 : Int32)), (0, .ref (ad 0))]) C 2 dX5_areEqual_37 rfl rfl (by decide) rfl rfl ?_
          refine wd_goto (t := 4) C dX5_areEqual_40 (by decide) ?_
          obtain rfl := Option.some.inj h
          refine wd_lv (lv' := [(0, .ref (ad 0)), (1, .int (1 : Int32)), (2, .int (st.2 + 1))]) [2, 1, 0] rfl ?_
          exact ih ((1 : Int32), (st.2 + 1)) E hk kx
set_option maxRecDepth 100000 in
set_option maxHeartbeats 4000000 in
theorem c_X5_areEqual (l : Launch) (D : va_G) (cI cD : ClassId) (ad : Nat → Nat) (N : Nat) (mlen : Int32) (mnodes : Int32) (mlinks : Int32) (mwk : Int32) (bcode : Int32) (hass : Int32) (kwk : Int32) (hsh : Int64) (fsr : Nat → Int32) (snr : Nat → Int32)  (u : Int32) (h : f_X5_areEqual N mnodes fsr snr = some u) : MetI l yX5_areEqual wsX5_areEqual { frames := 0, cells := 0, slots := 0, locals := 0 } D [(cI, .int), (cD, .double)] [.ref (ad 0)] (w_X5_areEqual ad cI cD mlen mnodes mlinks mwk bcode hass kwk hsh fsr snr) u (w_X5_areEqual ad cI cD mlen mnodes mlinks mwk bcode hass kwk hsh fsr snr) := by
  refine MetI.of (own := RX5) (cc := cX5_areEqual) (nL := 3) (ret := (some .boolean)) (by decide) rfl rfl (Nat.le_of_ble_eq_true rfl) rfl ?_
  intro p e s m args below meth c A hA C hr hlk
  unfold f_X5_areEqual at h
  refine wd_iconst (j := 1) (v := 1) C dX5_areEqual_0 (by decide) rfl ?_
  refine wd_istore_n (j := 2) (lv' := [(1, .int (1 : Int32)), (0, .ref (ad 0))]) C dX5_areEqual_1 rfl (by decide) rfl rfl ?_
  refine wd_iconst (j := 3) (v := 0) C dX5_areEqual_2 (by decide) rfl ?_
  refine wd_istore_n (j := 4) (lv' := [(2, .int (0 : Int32)), (1, .int (1 : Int32)), (0, .ref (ad 0))]) C dX5_areEqual_3 rfl (by decide) rfl rfl ?_
  refine wd_lv (lv' := [(0, .ref (ad 0)), (1, .int (1 : Int32)), (2, .int (0 : Int32))]) [2, 1, 0] rfl ?_
  obtain ⟨u6, hu6, h⟩ := bnd_some h
  refine lw_X5_areEqual_4 l D cI cD ad N mlen mlinks mwk bcode hass kwk hsh mnodes fsr snr C N ((1 : Int32), (0 : Int32)) u6 hu6 ?_
  refine wd_iload_n (j := 44) C 0 dX5_areEqual_43 rfl rfl rfl ?_
  obtain ⟨g7, h⟩ := grd_some h
  obtain rfl := Option.some.inj h
  exact wd_iret C hA hr hlk (z01_in g7) rfl rfl dX5_areEqual_44
abbrev w_X5_cycleOf (ad : Nat → Nat) (cI cD : ClassId) (mlen : Int32) (mnodes : Int32) (mlinks : Int32) (mwk : Int32) (bcode : Int32) (hass : Int32) (kwk : Int32) (hsh : Int64) (tab : Nat → Int32) (mdeg : Nat → Int32) (mrot : Nat → Int32) (plc : Nat → Int32) (fsr : Nat → Int32) (snr : Nat → Int32) : va_W := [((ad 0), .inr (5, [.int mlen, .ref (ad 1), .int mnodes, .int mlinks, .ref (ad 2), .ref (ad 3), .ref (ad 4), .int mwk, .ref (ad 5), .ref (ad 6), .ref (ad 7), .ref (ad 8), .ref (ad 9), .int bcode, .ref (ad 10), .ref (ad 11), .int hass, .int kwk, .ref (ad 12), .ref (ad 13), .ref (ad 14), .ref (ad 15), .long hsh])), ((ad 2), .inl (cI, 64, .inl tab)), ((ad 3), .inl (cI, 8, .inl mdeg)), ((ad 4), .inl (cI, 8, .inl mrot)), ((ad 5), .inl (cI, 4, .inl plc)), ((ad 8), .inl (cI, 8, .inl fsr)), ((ad 9), .inl (cI, 8, .inl snr))]
theorem kX5_cycleOf_1 : Cond.fieldLink "RotorRouterModel" 19 "RotorRouterModel" "rotors" "[I" ∈ wsX5_cycleOf := List.mem_of_getElem? (i := 1) rfl
theorem kX5_cycleOf_2 : Cond.fieldLink "RotorRouterModel" 31 "RotorRouterModel" "first" "[I" ∈ wsX5_cycleOf := List.mem_of_getElem? (i := 2) rfl
theorem kX5_cycleOf_3 : Cond.fieldLink "RotorRouterModel" 34 "RotorRouterModel" "second" "[I" ∈ wsX5_cycleOf := List.mem_of_getElem? (i := 3) rfl
theorem kX5_cycleOf_4 : Cond.fieldLink "RotorRouterModel" 22 "RotorRouterModel" "places" "[I" ∈ wsX5_cycleOf := List.mem_of_getElem? (i := 4) rfl
theorem kX5_cycleOf_5 : Cond.fieldLink "RotorRouterModel" 85 "RotorRouterModel" "links" "I" ∈ wsX5_cycleOf := List.mem_of_getElem? (i := 5) rfl
theorem inX5_cycleOf_X5 : ∀ w ∈ wsX50, w ∈ wsX5_cycleOf := fun _ h => List.mem_cons_of_mem _ (List.mem_append_right _ h)
set_option maxRecDepth 100000 in
set_option maxHeartbeats 4000000 in
theorem lw_X5_cycleOf_36 (l : Launch) (D : va_G) (cI cD : ClassId) (ad : Nat → Nat) (N : Nat) (mlen : Int32) (mnodes : Int32) (mwk : Int32) (bcode : Int32) (hass : Int32) (kwk : Int32) (hsh : Int64) (mrot : Nat → Int32) (plc : Nat → Int32) (fsr : Nat → Int32) (mlinks : Int32) (tab : Nat → Int32) (mdeg : Nat → Int32) (p2 : Int32) {p : Program} {e : Env} {s : State} {m : MethodId} {args : Array Value} {below : List Frame} {meth : Method} {c : Code} {A : Nat → Prop} {Q : State → Prop} (C : wd_C p m c cX5_cycleOf 5 s args wsX5_cycleOf RX5 D [(cI, .int), (cD, .double)] A) : ∀ (n : Nat) (st : Int32 × Int32 × (Nat → Int32)) (E : Int32 × (Nat → Int32)), iter (b_X5_cycleOf_36 mlinks tab mdeg) n st = some E → (Wd p l e { frames := 1, cells := 0, slots := 0, locals := 23 } s m args below meth c 5 D A 0 0 Q 63 [(0, .ref (ad 0)), (2, .int p2), (3, .int E.1)] [] (w_X5_cycleOf ad cI cD mlen mnodes mlinks mwk bcode hass kwk hsh tab mdeg mrot plc fsr E.2)) → Wd p l e { frames := 1, cells := 0, slots := 0, locals := 23 } s m args below meth c 5 D A 0 0 Q 36 [(0, .ref (ad 0)), (2, .int p2), (3, .int st.1), (4, .int st.2.1)] [] (w_X5_cycleOf ad cI cD mlen mnodes mlinks mwk bcode hass kwk hsh tab mdeg mrot plc fsr st.2.2) := by
  intro n
  induction n with
  | zero => intro st E h; cases h
  | succ n ih =>
    intro st E h kx
    obtain ⟨b, h, hk⟩ := iter_step h
    unfold b_X5_cycleOf_36 at h
    refine wd_iload (j := 38) C 3 dX5_cycleOf_36 rfl rfl ?_
    refine wd_iconst (j := 39) (v := 2) C dX5_cycleOf_38 (by decide) rfl ?_
    refine wd_aload_n (j := 40) C 0 dX5_cycleOf_39 rfl rfl rfl ?_
    refine wd_get (j := 43) (q0 := 0) (f := 3) (ci := 5) (v := .int mlinks) C inX5_cycleOf_X5 kX5_cycleOf_5 rfl (by decide) rfl rfl dX5_cycleOf_40 rfl ?_
    refine wd_imul (j := 44) C dX5_cycleOf_43 rfl ?_
    refine wd_icmp_ge (j := 47) (t := 63) C dX5_cycleOf_44 (by decide) rfl (fun c1 => ?_) (fun c1 => ?_)
    · replace h := (if_pos c1).symm.trans h
      obtain rfl := Option.some.inj h
      obtain rfl := hk
      refine wd_lv (lv' := [(0, .ref (ad 0)), (2, .int p2), (3, .int st.1)]) [0, 1, 2] rfl ?_
      exact kx
    · replace h := (if_neg c1).symm.trans h
      refine wd_aload_n (j := 48) C 0 dX5_cycleOf_47 rfl rfl rfl ?_
      refine wd_iload_n (j := 49) C 2 dX5_cycleOf_48 rfl rfl rfl ?_
      refine wd_aload_n (j := 50) C 0 dX5_cycleOf_49 rfl rfl rfl ?_
      refine wd_get (j := 53) (q0 := 0) (f := 12) (ci := 5) (v := .ref (ad 9)) C inX5_cycleOf_X5 kX5_cycleOf_3 rfl (by decide) rfl rfl dX5_cycleOf_50 rfl ?_
      obtain ⟨u2, hu2, h⟩ := bnd_some h
      refine wd_callVi (j := 56) (q0 := 0) (ci := 5) (As := [.int st.1, .ref (ad 9)]) (rest := []) (ws' := (w_X5_cycleOf ad cI cD mlen mnodes mlinks mwk bcode hass kwk hsh tab mdeg mrot plc fsr u2.2)) C (c_X5_go l D cI cD ad (ad 9) mlen mnodes mlinks mwk bcode hass kwk hsh tab mdeg st.2.2 st.1 u2 hu2) (cwV 2 C.1.2.2.2.2 gX5_cycleOf_X5_go rfl rfl rfl (by decide +kernel) ⟨Nat.le_of_ble_eq_true rfl, Nat.le_of_ble_eq_true rfl⟩) rfl rfl [0, 1, 2, 6] [3, 4, 5] rfl rfl rfl rfl (by decide) [3, 4, 5, 0, 1, 2, 6] rfl rfl rfl (Nat.le_of_ble_eq_true rfl) (Nat.le_of_ble_eq_true rfl) (Nat.le_of_ble_eq_true rfl) dX5_cycleOf_53 rfl ?_
      refine wd_istore_n (j := 57) (lv' := [(3, .int u2.1), (0, .ref (ad 0)), (2, .int p2), (4, .int st.2.1)]) C dX5_cycleOf_56 rfl (by decide) rfl rfl ?_
      refine wd_iinc (j := 60) (lv' := [(4, .int (st.2.1 + 1)), (3, .int u2.1), (0, .ref (ad 0)), (2, .int p2)]) C 3 dX5_cycleOf_57 rfl rfl (by decide) rfl rfl ?_
      refine wd_goto (t := 36) C dX5_cycleOf_60 (by decide) ?_
      obtain rfl := Option.some.inj h
      refine wd_lv (lv' := [(0, .ref (ad 0)), (2, .int p2), (3, .int u2.1), (4, .int (st.2.1 + 1))]) [2, 3, 1, 0] rfl ?_
      exact ih (u2.1, (st.2.1 + 1), u2.2) E hk kx
set_option maxRecDepth 100000 in
set_option maxHeartbeats 4000000 in
theorem lw_X5_cycleOf_66 (l : Launch) (D : va_G) (cI cD : ClassId) (ad : Nat → Nat) (N : Nat) (mlen : Int32) (mlinks : Int32) (mwk : Int32) (bcode : Int32) (hass : Int32) (kwk : Int32) (hsh : Int64) (mrot : Nat → Int32) (plc : Nat → Int32) (mnodes : Int32) (tab : Nat → Int32) (mdeg : Nat → Int32)  {p : Program} {e : Env} {s : State} {m : MethodId} {args : Array Value} {below : List Frame} {meth : Method} {c : Code} {A : Nat → Prop} {Q : State → Prop} (C : wd_C p m c cX5_cycleOf 5 s args wsX5_cycleOf RX5 D [(cI, .int), (cD, .double)] A) : ∀ (n : Nat) (st : Int32 × Int32 × Int32 × (Nat → Int32) × (Nat → Int32)) (E : Int32 × (Nat → Int32) × (Nat → Int32)), iter (b_X5_cycleOf_66 N mnodes tab mdeg) n st = some E → (Wd p l e { frames := 1, cells := 0, slots := 0, locals := 23 } s m args below meth c 5 D A 0 0 Q 104 [(4, .int E.1)] [] (w_X5_cycleOf ad cI cD mlen mnodes mlinks mwk bcode hass kwk hsh tab mdeg mrot plc E.2.1 E.2.2)) → Wd p l e { frames := 1, cells := 0, slots := 0, locals := 23 } s m args below meth c 5 D A 0 0 Q 66 [(0, .ref (ad 0)), (2, .int st.1), (3, .int st.2.1), (4, .int st.2.2.1)] [] (w_X5_cycleOf ad cI cD mlen mnodes mlinks mwk bcode hass kwk hsh tab mdeg mrot plc st.2.2.2.1 st.2.2.2.2) := by
  intro n
  induction n with
  | zero => intro st E h; cases h
  | succ n ih =>
    intro st E h kx
    obtain ⟨b, h, hk⟩ := iter_step h
    unfold b_X5_cycleOf_66 at h
    refine wd_iload_n (j := 67) C 1 dX5_cycleOf_66 rfl rfl rfl ?_
    refine wd_iload_n (j := 68) C 2 dX5_cycleOf_67 rfl rfl rfl ?_
    refine wd_icmp_ne (j := 71) (t := 78) C dX5_cycleOf_68 (by decide) rfl (fun c3 => ?_) (fun c3 => ?_)
    · replace h := (if_neg c3).symm.trans h
      refine wd_aload_n (j := 79) C 0 dX5_cycleOf_78 rfl rfl rfl ?_
      refine wd_iload_n (j := 80) C 1 dX5_cycleOf_79 rfl rfl rfl ?_
      refine wd_aload_n (j := 81) C 0 dX5_cycleOf_80 rfl rfl rfl ?_
      refine wd_get (j := 84) (q0 := 0) (f := 11) (ci := 5) (v := .ref (ad 8)) C inX5_cycleOf_X5 kX5_cycleOf_2 rfl (by decide) rfl rfl dX5_cycleOf_81 rfl ?_
      obtain ⟨u4, hu4, h⟩ := bnd_some h
      refine wd_callVi (j := 87) (q0 := 0) (ci := 5) (As := [.int st.1, .ref (ad 8)]) (rest := []) (ws' := (w_X5_cycleOf ad cI cD mlen mnodes mlinks mwk bcode hass kwk hsh tab mdeg mrot plc u4.2 st.2.2.2.2)) C (c_X5_go l D cI cD ad (ad 8) mlen mnodes mlinks mwk bcode hass kwk hsh tab mdeg st.2.2.2.1 st.1 u4 hu4) (cwV 2 C.1.2.2.2.2 gX5_cycleOf_X5_go rfl rfl rfl (by decide +kernel) ⟨Nat.le_of_ble_eq_true rfl, Nat.le_of_ble_eq_true rfl⟩) rfl rfl [0, 1, 2, 5] [3, 4, 6] rfl rfl rfl rfl (by decide) [3, 4, 5, 0, 1, 6, 2] rfl rfl rfl (Nat.le_of_ble_eq_true rfl) (Nat.le_of_ble_eq_true rfl) (Nat.le_of_ble_eq_true rfl) dX5_cycleOf_84 rfl ?_
      refine wd_istore_n (j := 88) (lv' := [(2, .int u4.1), (0, .ref (ad 0)), (3, .int st.2.1), (4, .int st.2.2.1)]) C dX5_cycleOf_87 rfl (by decide) rfl rfl ?_
      refine wd_aload_n (j := 89) C 1 dX5_cycleOf_88 rfl rfl rfl ?_
      refine wd_iload_n (j := 90) C 2 dX5_cycleOf_89 rfl rfl rfl ?_
      refine wd_aload_n (j := 91) C 1 dX5_cycleOf_90 rfl rfl rfl ?_
      refine wd_get (j := 94) (q0 := 0) (f := 12) (ci := 5) (v := .ref (ad 9)) C inX5_cycleOf_X5 kX5_cycleOf_3 rfl (by decide) rfl rfl dX5_cycleOf_91 rfl ?_
      obtain ⟨u5, hu5, h⟩ := bnd_some h
      refine wd_callVi (j := 97) (q0 := 0) (ci := 5) (As := [.int st.2.1, .ref (ad 9)]) (rest := []) (ws' := (w_X5_cycleOf ad cI cD mlen mnodes mlinks mwk bcode hass kwk hsh tab mdeg mrot plc u4.2 u5.2)) C (c_X5_go l D cI cD ad (ad 9) mlen mnodes mlinks mwk bcode hass kwk hsh tab mdeg st.2.2.2.2 st.2.1 u5 hu5) (cwV 2 C.1.2.2.2.2 gX5_cycleOf_X5_go rfl rfl rfl (by decide +kernel) ⟨Nat.le_of_ble_eq_true rfl, Nat.le_of_ble_eq_true rfl⟩) rfl rfl [0, 1, 2, 6] [3, 4, 5] rfl rfl rfl rfl (by decide) [3, 4, 5, 0, 1, 2, 6] rfl rfl rfl (Nat.le_of_ble_eq_true rfl) (Nat.le_of_ble_eq_true rfl) (Nat.le_of_ble_eq_true rfl) dX5_cycleOf_94 rfl ?_
      refine wd_istore_n (j := 98) (lv' := [(3, .int u5.1), (2, .int u4.1), (0, .ref (ad 0)), (4, .int st.2.2.1)]) C dX5_cycleOf_97 rfl (by decide) rfl rfl ?_
      refine wd_iinc (j := 101) (lv' := [(4, .int (st.2.2.1 + 1)), (3, .int u5.1), (2, .int u4.1), (0, .ref (ad 0))]) C 3 dX5_cycleOf_98 rfl rfl (by decide) rfl rfl ?_
      refine wd_goto (t := 66) C dX5_cycleOf_101 (by decide) ?_
      obtain rfl := Option.some.inj h
      refine wd_lv (lv' := [(0, .ref (ad 0)), (2, .int u4.1), (3, .int u5.1), (4, .int (st.2.2.1 + 1))]) [3, 2, 1, 0] rfl ?_
      exact ih (u4.1, u5.1, (st.2.2.1 + 1), u4.2, u5.2) E hk kx
    · replace h := (if_pos c3).symm.trans h
      refine wd_aload_n (j := 72) C 0 dX5_cycleOf_71 rfl rfl rfl ?_
      obtain ⟨u6, hu6, h⟩ := bnd_some h
      refine wd_callVi (j := 75) (q0 := 0) (ci := 5) (As := []) (rest := []) (ws' := (w_X5_cycleOf ad cI cD mlen mnodes mlinks mwk bcode hass kwk hsh tab mdeg mrot plc st.2.2.2.1 st.2.2.2.2)) C (c_X5_areEqual l D cI cD ad N mlen mnodes mlinks mwk bcode hass kwk hsh st.2.2.2.1 st.2.2.2.2 u6 hu6) (cwV 0 C.1.2.2.2.2 gX5_cycleOf_X5_areEqual rfl rfl rfl (by decide +kernel) ⟨Nat.le_of_ble_eq_true rfl, Nat.le_of_ble_eq_true rfl⟩) rfl rfl [0, 5, 6] [1, 2, 3, 4] rfl rfl rfl rfl (by decide) [4, 0, 1, 2, 3, 5, 6] rfl rfl rfl (Nat.le_of_ble_eq_true rfl) (Nat.le_of_ble_eq_true rfl) (Nat.le_of_ble_eq_true rfl) dX5_cycleOf_72 rfl ?_
      refine wd_if_ne (j := 78) (t := 104) C dX5_cycleOf_75 (by decide) rfl (fun c7 => ?_) (fun c7 => ?_)
      · replace h := (if_neg c7).symm.trans h
        obtain rfl := Option.some.inj h
        obtain rfl := hk
        refine wd_lv (lv' := [(4, .int st.2.2.1)]) [3] rfl ?_
        exact kx
      · replace h := (if_pos c7).symm.trans h
        refine wd_aload_n (j := 79) C 0 dX5_cycleOf_78 rfl rfl rfl ?_
        refine wd_iload_n (j := 80) C 1 dX5_cycleOf_79 rfl rfl rfl ?_
        refine wd_aload_n (j := 81) C 0 dX5_cycleOf_80 rfl rfl rfl ?_
        refine wd_get (j := 84) (q0 := 0) (f := 11) (ci := 5) (v := .ref (ad 8)) C inX5_cycleOf_X5 kX5_cycleOf_2 rfl (by decide) rfl rfl dX5_cycleOf_81 rfl ?_
        obtain ⟨u8, hu8, h⟩ := bnd_some h
        refine wd_callVi (j := 87) (q0 := 0) (ci := 5) (As := [.int st.1, .ref (ad 8)]) (rest := []) (ws' := (w_X5_cycleOf ad cI cD mlen mnodes mlinks mwk bcode hass kwk hsh tab mdeg mrot plc u8.2 st.2.2.2.2)) C (c_X5_go l D cI cD ad (ad 8) mlen mnodes mlinks mwk bcode hass kwk hsh tab mdeg st.2.2.2.1 st.1 u8 hu8) (cwV 2 C.1.2.2.2.2 gX5_cycleOf_X5_go rfl rfl rfl (by decide +kernel) ⟨Nat.le_of_ble_eq_true rfl, Nat.le_of_ble_eq_true rfl⟩) rfl rfl [0, 1, 2, 5] [3, 4, 6] rfl rfl rfl rfl (by decide) [3, 4, 5, 0, 1, 6, 2] rfl rfl rfl (Nat.le_of_ble_eq_true rfl) (Nat.le_of_ble_eq_true rfl) (Nat.le_of_ble_eq_true rfl) dX5_cycleOf_84 rfl ?_
        refine wd_istore_n (j := 88) (lv' := [(2, .int u8.1), (0, .ref (ad 0)), (3, .int st.2.1), (4, .int st.2.2.1)]) C dX5_cycleOf_87 rfl (by decide) rfl rfl ?_
        refine wd_aload_n (j := 89) C 1 dX5_cycleOf_88 rfl rfl rfl ?_
        refine wd_iload_n (j := 90) C 2 dX5_cycleOf_89 rfl rfl rfl ?_
        refine wd_aload_n (j := 91) C 1 dX5_cycleOf_90 rfl rfl rfl ?_
        refine wd_get (j := 94) (q0 := 0) (f := 12) (ci := 5) (v := .ref (ad 9)) C inX5_cycleOf_X5 kX5_cycleOf_3 rfl (by decide) rfl rfl dX5_cycleOf_91 rfl ?_
        obtain ⟨u9, hu9, h⟩ := bnd_some h
        refine wd_callVi (j := 97) (q0 := 0) (ci := 5) (As := [.int st.2.1, .ref (ad 9)]) (rest := []) (ws' := (w_X5_cycleOf ad cI cD mlen mnodes mlinks mwk bcode hass kwk hsh tab mdeg mrot plc u8.2 u9.2)) C (c_X5_go l D cI cD ad (ad 9) mlen mnodes mlinks mwk bcode hass kwk hsh tab mdeg st.2.2.2.2 st.2.1 u9 hu9) (cwV 2 C.1.2.2.2.2 gX5_cycleOf_X5_go rfl rfl rfl (by decide +kernel) ⟨Nat.le_of_ble_eq_true rfl, Nat.le_of_ble_eq_true rfl⟩) rfl rfl [0, 1, 2, 6] [3, 4, 5] rfl rfl rfl rfl (by decide) [3, 4, 5, 0, 1, 2, 6] rfl rfl rfl (Nat.le_of_ble_eq_true rfl) (Nat.le_of_ble_eq_true rfl) (Nat.le_of_ble_eq_true rfl) dX5_cycleOf_94 rfl ?_
        refine wd_istore_n (j := 98) (lv' := [(3, .int u9.1), (2, .int u8.1), (0, .ref (ad 0)), (4, .int st.2.2.1)]) C dX5_cycleOf_97 rfl (by decide) rfl rfl ?_
        refine wd_iinc (j := 101) (lv' := [(4, .int (st.2.2.1 + 1)), (3, .int u9.1), (2, .int u8.1), (0, .ref (ad 0))]) C 3 dX5_cycleOf_98 rfl rfl (by decide) rfl rfl ?_
        refine wd_goto (t := 66) C dX5_cycleOf_101 (by decide) ?_
        obtain rfl := Option.some.inj h
        refine wd_lv (lv' := [(0, .ref (ad 0)), (2, .int u8.1), (3, .int u9.1), (4, .int (st.2.2.1 + 1))]) [3, 2, 1, 0] rfl ?_
        exact ih (u8.1, u9.1, (st.2.2.1 + 1), u8.2, u9.2) E hk kx
set_option maxRecDepth 100000 in
set_option maxHeartbeats 4000000 in
theorem c_X5_cycleOf (l : Launch) (D : va_G) (cI cD : ClassId) (ad : Nat → Nat) (N : Nat) (mlen : Int32) (mnodes : Int32) (mlinks : Int32) (mwk : Int32) (bcode : Int32) (hass : Int32) (kwk : Int32) (hsh : Int64) (tab : Nat → Int32) (mdeg : Nat → Int32) (mrot : Nat → Int32) (plc : Nat → Int32) (fsr : Nat → Int32) (snr : Nat → Int32) (p1 : Int32) (u : Int32 × (Nat → Int32) × (Nat → Int32)) (h : f_X5_cycleOf N mnodes mlinks tab mdeg mrot plc fsr snr p1 = some u) : MetI l yX5_cycleOf wsX5_cycleOf { frames := 1, cells := 0, slots := 0, locals := 23 } D [(cI, .int), (cD, .double)] [.ref (ad 0), .int p1] (w_X5_cycleOf ad cI cD mlen mnodes mlinks mwk bcode hass kwk hsh tab mdeg mrot plc fsr snr) u.1 (w_X5_cycleOf ad cI cD mlen mnodes mlinks mwk bcode hass kwk hsh tab mdeg mrot plc u.2.1 u.2.2) := by
  refine MetI.of (own := RX5) (cc := cX5_cycleOf) (nL := 5) (ret := (some .int)) (by decide) rfl rfl (Nat.le_of_ble_eq_true rfl) rfl ?_
  intro p e s m args below meth c A hA C hr hlk
  unfold f_X5_cycleOf at h
  refine wd_aload_n (j := 1) C 0 dX5_cycleOf_0 rfl rfl rfl ?_
  refine wd_aload_n (j := 2) C 0 dX5_cycleOf_1 rfl rfl rfl ?_
  refine wd_get (j := 5) (q0 := 0) (f := 6) (ci := 5) (v := .ref (ad 4)) C inX5_cycleOf_X5 kX5_cycleOf_1 rfl (by decide) rfl rfl dX5_cycleOf_2 rfl ?_
  refine wd_aload_n (j := 6) C 0 dX5_cycleOf_5 rfl rfl rfl ?_
  refine wd_get (j := 9) (q0 := 0) (f := 11) (ci := 5) (v := .ref (ad 8)) C inX5_cycleOf_X5 kX5_cycleOf_2 rfl (by decide) rfl rfl dX5_cycleOf_6 rfl ?_
  obtain ⟨u10, hu10, h⟩ := bnd_some h
  refine wd_callVv (j := 12) (q0 := 0) (ci := 5) (As := [.ref (ad 4), .ref (ad 8)]) (rest := []) (ws' := (w_X5_cycleOf ad cI cD mlen mnodes mlinks mwk bcode hass kwk hsh tab mdeg mrot plc u10 snr)) C (c_X5_copyRotors l D cI cD ad (ad 4) (ad 8) N mlen mnodes mlinks mwk bcode hass kwk hsh mrot fsr u10 hu10) (cwV 2 C.1.2.2.2.2 gX5_cycleOf_X5_copyRotors rfl rfl rfl (by decide +kernel) ⟨Nat.le_of_ble_eq_true rfl, Nat.le_of_ble_eq_true rfl⟩) rfl rfl [0, 3, 5] [1, 2, 4, 6] rfl rfl rfl rfl (by decide) [4, 0, 1, 5, 2, 6, 3] rfl rfl rfl (Nat.le_of_ble_eq_true rfl) (Nat.le_of_ble_eq_true rfl) (Nat.le_of_ble_eq_true rfl) dX5_cycleOf_9 rfl ?_
  refine wd_aload_n (j := 13) C 0 dX5_cycleOf_12 rfl rfl rfl ?_
  refine wd_aload_n (j := 14) C 0 dX5_cycleOf_13 rfl rfl rfl ?_
  refine wd_get (j := 17) (q0 := 0) (f := 6) (ci := 5) (v := .ref (ad 4)) C inX5_cycleOf_X5 kX5_cycleOf_1 rfl (by decide) rfl rfl dX5_cycleOf_14 rfl ?_
  refine wd_aload_n (j := 18) C 0 dX5_cycleOf_17 rfl rfl rfl ?_
  refine wd_get (j := 21) (q0 := 0) (f := 12) (ci := 5) (v := .ref (ad 9)) C inX5_cycleOf_X5 kX5_cycleOf_3 rfl (by decide) rfl rfl dX5_cycleOf_18 rfl ?_
  obtain ⟨u11, hu11, h⟩ := bnd_some h
  refine wd_callVv (j := 24) (q0 := 0) (ci := 5) (As := [.ref (ad 4), .ref (ad 9)]) (rest := []) (ws' := (w_X5_cycleOf ad cI cD mlen mnodes mlinks mwk bcode hass kwk hsh tab mdeg mrot plc u10 u11)) C (c_X5_copyRotors l D cI cD ad (ad 4) (ad 9) N mlen mnodes mlinks mwk bcode hass kwk hsh mrot snr u11 hu11) (cwV 2 C.1.2.2.2.2 gX5_cycleOf_X5_copyRotors rfl rfl rfl (by decide +kernel) ⟨Nat.le_of_ble_eq_true rfl, Nat.le_of_ble_eq_true rfl⟩) rfl rfl [0, 3, 6] [1, 2, 4, 5] rfl rfl rfl rfl (by decide) [4, 0, 1, 5, 2, 3, 6] rfl rfl rfl (Nat.le_of_ble_eq_true rfl) (Nat.le_of_ble_eq_true rfl) (Nat.le_of_ble_eq_true rfl) dX5_cycleOf_21 rfl ?_
  refine wd_aload_n (j := 25) C 0 dX5_cycleOf_24 rfl rfl rfl ?_
  refine wd_get (j := 28) (q0 := 0) (f := 8) (ci := 5) (v := .ref (ad 5)) C inX5_cycleOf_X5 kX5_cycleOf_4 rfl (by decide) rfl rfl dX5_cycleOf_25 rfl ?_
  refine wd_iload_n (j := 29) C 1 dX5_cycleOf_28 rfl rfl rfl ?_
  obtain ⟨g12, h⟩ := grd_some h
  refine wd_iald (j := 30) (q0 := 4) (t0 := 0) C rfl rfl (inB_in g12) dX5_cycleOf_29 rfl ?_
  refine wd_istore_n (j := 31) (lv' := [(2, .int (plc p1.toNatClampNeg)), (0, .ref (ad 0)), (1, .int p1)]) C dX5_cycleOf_30 rfl (by decide) rfl rfl ?_
  refine wd_iload_n (j := 32) C 0 dX5_cycleOf_31 rfl rfl rfl ?_
  refine wd_istore_n (j := 33) (lv' := [(3, .int (plc p1.toNatClampNeg)), (2, .int (plc p1.toNatClampNeg)), (0, .ref (ad 0)), (1, .int p1)]) C dX5_cycleOf_32 rfl (by decide) rfl rfl ?_
  refine wd_iconst (j := 34) (v := 0) C dX5_cycleOf_33 (by decide) rfl ?_
  refine wd_istore (j := 36) (lv' := [(4, .int (0 : Int32)), (3, .int (plc p1.toNatClampNeg)), (2, .int (plc p1.toNatClampNeg)), (0, .ref (ad 0)), (1, .int p1)]) C dX5_cycleOf_34 (by decide) rfl rfl ?_
  refine wd_lv (lv' := [(0, .ref (ad 0)), (2, .int (plc p1.toNatClampNeg)), (3, .int (plc p1.toNatClampNeg)), (4, .int (0 : Int32))]) [3, 2, 1, 0] rfl ?_
  obtain ⟨u13, hu13, h⟩ := bnd_some h
  refine lw_X5_cycleOf_36 l D cI cD ad N mlen mnodes mwk bcode hass kwk hsh mrot plc u10 mlinks tab mdeg (plc p1.toNatClampNeg) C N ((plc p1.toNatClampNeg), (0 : Int32), u11) u13 hu13 ?_
  refine wd_iconst (j := 64) (v := 0) C dX5_cycleOf_63 (by decide) rfl ?_
  refine wd_istore (j := 66) (lv' := [(4, .int (0 : Int32)), (0, .ref (ad 0)), (2, .int (plc p1.toNatClampNeg)), (3, .int u13.1)]) C dX5_cycleOf_64 (by decide) rfl rfl ?_
  refine wd_lv (lv' := [(0, .ref (ad 0)), (2, .int (plc p1.toNatClampNeg)), (3, .int u13.1), (4, .int (0 : Int32))]) [1, 2, 3, 0] rfl ?_
  obtain ⟨u14, hu14, h⟩ := bnd_some h
  refine lw_X5_cycleOf_66 l D cI cD ad N mlen mlinks mwk bcode hass kwk hsh mrot plc mnodes tab mdeg C N ((plc p1.toNatClampNeg), u13.1, (0 : Int32), u10, u13.2) u14 hu14 ?_
  refine wd_iload (j := 106) C 0 dX5_cycleOf_104 rfl rfl ?_
  obtain rfl := Option.some.inj h
  exact wd_iret C hA hr hlk rfl rfl rfl dX5_cycleOf_106
abbrev w_X5_stepsToCycle (ad : Nat → Nat) (cI cD : ClassId) (mlen : Int32) (mnodes : Int32) (mlinks : Int32) (mwk : Int32) (bcode : Int32) (hass : Int32) (kwk : Int32) (hsh : Int64) (tab : Nat → Int32) (mdeg : Nat → Int32) (mrot : Nat → Int32) (plc : Nat → Int32) (fsr : Nat → Int32) (snr : Nat → Int32) : va_W := [((ad 0), .inr (5, [.int mlen, .ref (ad 1), .int mnodes, .int mlinks, .ref (ad 2), .ref (ad 3), .ref (ad 4), .int mwk, .ref (ad 5), .ref (ad 6), .ref (ad 7), .ref (ad 8), .ref (ad 9), .int bcode, .ref (ad 10), .ref (ad 11), .int hass, .int kwk, .ref (ad 12), .ref (ad 13), .ref (ad 14), .ref (ad 15), .long hsh])), ((ad 2), .inl (cI, 64, .inl tab)), ((ad 3), .inl (cI, 8, .inl mdeg)), ((ad 4), .inl (cI, 8, .inl mrot)), ((ad 5), .inl (cI, 4, .inl plc)), ((ad 8), .inl (cI, 8, .inl fsr)), ((ad 9), .inl (cI, 8, .inl snr))]
set_option maxRecDepth 100000 in
set_option maxHeartbeats 4000000 in
theorem c_X5_stepsToCycle (l : Launch) (D : va_G) (cI cD : ClassId) (ad : Nat → Nat) (N : Nat) (mlen : Int32) (mnodes : Int32) (mlinks : Int32) (mwk : Int32) (bcode : Int32) (hass : Int32) (kwk : Int32) (hsh : Int64) (tab : Nat → Int32) (mdeg : Nat → Int32) (mrot : Nat → Int32) (plc : Nat → Int32) (fsr : Nat → Int32) (snr : Nat → Int32) (p1 : Int32) (u : Int32 × (Nat → Int32) × (Nat → Int32)) (h : f_X5_stepsToCycle N mnodes mlinks mwk tab mdeg mrot plc fsr snr p1 = some u) : MetI l yX5_stepsToCycle wsX5_stepsToCycle { frames := 2, cells := 0, slots := 0, locals := 47 } D [(cI, .int), (cD, .double)] [.ref (ad 0), .int p1] (w_X5_stepsToCycle ad cI cD mlen mnodes mlinks mwk bcode hass kwk hsh tab mdeg mrot plc fsr snr) u.1 (w_X5_stepsToCycle ad cI cD mlen mnodes mlinks mwk bcode hass kwk hsh tab mdeg mrot plc u.2.1 u.2.2) := by
  refine MetI.of (own := RX5) (cc := cX5_stepsToCycle) (nL := 2) (ret := (some .int)) (by decide) rfl rfl (Nat.le_of_ble_eq_true rfl) rfl ?_
  intro p e s m args below meth c A hA C hr hlk
  unfold f_X5_stepsToCycle at h
  refine wd_aload_n (j := 1) C 0 dX5_stepsToCycle_0 rfl rfl rfl ?_
  refine wd_iload_n (j := 2) C 1 dX5_stepsToCycle_1 rfl rfl rfl ?_
  obtain ⟨u1, hu1, h⟩ := bnd_some h
  refine wd_callVi (j := 5) (q0 := 0) (ci := 5) (As := [.int p1]) (rest := []) (ws' := (w_X5_stepsToCycle ad cI cD mlen mnodes mlinks mwk bcode hass kwk hsh tab mdeg mrot plc fsr snr)) C (c_X5_isWalker l D cI cD ad mlen mnodes mlinks mwk bcode hass kwk hsh p1 u1 hu1) (cwV 1 C.1.2.2.2.2 gX5_stepsToCycle_X5_isWalker rfl rfl rfl (by decide +kernel) ⟨Nat.le_of_ble_eq_true rfl, Nat.le_of_ble_eq_true rfl⟩) rfl rfl [0] [1, 2, 3, 4, 5, 6] rfl rfl rfl rfl (by decide) [6, 0, 1, 2, 3, 4, 5] rfl rfl rfl (Nat.le_of_ble_eq_true rfl) (Nat.le_of_ble_eq_true rfl) (Nat.le_of_ble_eq_true rfl) dX5_stepsToCycle_2 rfl ?_
  refine wd_if_eq (j := 8) (t := 16) C dX5_stepsToCycle_5 (by decide) rfl (fun c2 => ?_) (fun c2 => ?_)
  · replace h := (if_pos c2).symm.trans h
    refine wd_bipush (j := 18) (v := -5) C dX5_stepsToCycle_16 (by decide) rfl ?_
    obtain rfl := Option.some.inj h
    exact wd_iret C hA hr hlk rfl rfl rfl dX5_stepsToCycle_18
  · replace h := (if_neg c2).symm.trans h
    refine wd_aload_n (j := 9) C 0 dX5_stepsToCycle_8 rfl rfl rfl ?_
    refine wd_iload_n (j := 10) C 1 dX5_stepsToCycle_9 rfl rfl rfl ?_
    obtain ⟨u3, hu3, h⟩ := bnd_some h
    refine wd_callVi (j := 13) (q0 := 0) (ci := 5) (As := [.int p1]) (rest := []) (ws' := (w_X5_stepsToCycle ad cI cD mlen mnodes mlinks mwk bcode hass kwk hsh tab mdeg mrot plc u3.2.1 u3.2.2)) C (c_X5_cycleOf l D cI cD ad N mlen mnodes mlinks mwk bcode hass kwk hsh tab mdeg mrot plc fsr snr p1 u3 hu3) (cwV 1 C.1.2.2.2.2 gX5_stepsToCycle_X5_cycleOf rfl rfl rfl (by decide +kernel) ⟨Nat.le_of_ble_eq_true rfl, Nat.le_of_ble_eq_true rfl⟩) rfl rfl [0, 1, 2, 3, 4, 5, 6] [] rfl rfl rfl rfl (by decide) [0, 1, 2, 3, 4, 5, 6] rfl rfl rfl (Nat.le_of_ble_eq_true rfl) (Nat.le_of_ble_eq_true rfl) (Nat.le_of_ble_eq_true rfl) dX5_stepsToCycle_10 rfl ?_
    refine wd_goto (t := 18) C dX5_stepsToCycle_13 (by decide) ?_
    obtain rfl := Option.some.inj h
    exact wd_iret C hA hr hlk rfl rfl rfl dX5_stepsToCycle_18
abbrev w_X5_coverFrom (ad : Nat → Nat) (cI cD : ClassId) (mlen : Int32) (mnodes : Int32) (mlinks : Int32) (mwk : Int32) (bcode : Int32) (hass : Int32) (kwk : Int32) (hsh : Int64) (tab : Nat → Int32) (mdeg : Nat → Int32) (fsr : Nat → Int32) : va_W := [((ad 0), .inr (5, [.int mlen, .ref (ad 1), .int mnodes, .int mlinks, .ref (ad 2), .ref (ad 3), .ref (ad 4), .int mwk, .ref (ad 5), .ref (ad 6), .ref (ad 7), .ref (ad 8), .ref (ad 9), .int bcode, .ref (ad 10), .ref (ad 11), .int hass, .int kwk, .ref (ad 12), .ref (ad 13), .ref (ad 14), .ref (ad 15), .long hsh])), ((ad 2), .inl (cI, 64, .inl tab)), ((ad 3), .inl (cI, 8, .inl mdeg)), ((ad 8), .inl (cI, 8, .inl fsr))]
theorem kX5_coverFrom_1 : Cond.fieldLink "RotorRouterModel" 82 "RotorRouterModel" "nodes" "I" ∈ wsX5_coverFrom := List.mem_of_getElem? (i := 1) rfl
theorem kX5_coverFrom_2 : Cond.fieldLink "RotorRouterModel" 31 "RotorRouterModel" "first" "[I" ∈ wsX5_coverFrom := List.mem_of_getElem? (i := 2) rfl
theorem inX5_coverFrom_X5 : ∀ w ∈ wsX50, w ∈ wsX5_coverFrom := fun _ h => List.mem_cons_of_mem _ (List.mem_append_right _ h)
set_option maxRecDepth 100000 in
set_option maxHeartbeats 4000000 in
theorem lw_X5_coverFrom_9 (l : Launch) (D : va_G) (cI cD : ClassId) (ad : Nat → Nat) (N : Nat) (mlen : Int32) (mlinks : Int32) (mwk : Int32) (bcode : Int32) (hass : Int32) (kwk : Int32) (hsh : Int64) (mnodes : Int32) (tab : Nat → Int32) (mdeg : Nat → Int32)  {p : Program} {e : Env} {s : State} {m : MethodId} {args : Array Value} {below : List Frame} {meth : Method} {c : Code} {A : Nat → Prop} {Q : State → Prop} (C : wd_C p m c cX5_coverFrom 5 s args wsX5_coverFrom RX5 D [(cI, .int), (cD, .double)] A) : ∀ (n : Nat) (st : Int32 × Int32 × Int32 × (Nat → Int32)) (E : Int32 × (Nat → Int32)), iter (b_X5_coverFrom_9 mnodes tab mdeg) n st = some E → (Wd p l e { frames := 1, cells := 0, slots := 0, locals := 23 } s m args below meth c 5 D A 0 0 Q 43 [(4, .int E.1)] [] (w_X5_coverFrom ad cI cD mlen mnodes mlinks mwk bcode hass kwk hsh tab mdeg E.2)) → Wd p l e { frames := 1, cells := 0, slots := 0, locals := 23 } s m args below meth c 5 D A 0 0 Q 9 [(0, .ref (ad 0)), (2, .int st.1), (3, .int st.2.1), (4, .int st.2.2.1)] [] (w_X5_coverFrom ad cI cD mlen mnodes mlinks mwk bcode hass kwk hsh tab mdeg st.2.2.2) := by
  intro n
  induction n with
  | zero => intro st E h; cases h
  | succ n ih =>
    intro st E h kx
    obtain ⟨b, h, hk⟩ := iter_step h
    unfold b_X5_coverFrom_9 at h
    refine wd_iload_n (j := 10) C 2 dX5_coverFrom_9 rfl rfl rfl ?_
    refine wd_iconst (j := 11) (v := 1) C dX5_coverFrom_10 (by decide) rfl ?_
    refine wd_aload_n (j := 12) C 0 dX5_coverFrom_11 rfl rfl rfl ?_
    refine wd_get (j := 15) (q0 := 0) (f := 2) (ci := 5) (v := .int mnodes) C inX5_coverFrom_X5 kX5_coverFrom_1 rfl (by decide) rfl rfl dX5_coverFrom_12 rfl ?_
    refine wd_ishl (j := 16) C dX5_coverFrom_15 rfl ?_
    refine wd_iconst (j := 17) (v := 1) C dX5_coverFrom_16 (by decide) rfl ?_
    refine wd_isub (j := 18) C dX5_coverFrom_17 rfl ?_
    refine wd_icmp_eq (j := 21) (t := 43) C dX5_coverFrom_18 (by decide) rfl (fun c1 => ?_) (fun c1 => ?_)
    · replace h := (if_pos c1).symm.trans h
      obtain rfl := Option.some.inj h
      obtain rfl := hk
      refine wd_lv (lv' := [(4, .int st.2.2.1)]) [3] rfl ?_
      exact kx
    · replace h := (if_neg c1).symm.trans h
      refine wd_aload_n (j := 22) C 0 dX5_coverFrom_21 rfl rfl rfl ?_
      refine wd_iload_n (j := 23) C 1 dX5_coverFrom_22 rfl rfl rfl ?_
      refine wd_aload_n (j := 24) C 0 dX5_coverFrom_23 rfl rfl rfl ?_
      refine wd_get (j := 27) (q0 := 0) (f := 11) (ci := 5) (v := .ref (ad 8)) C inX5_coverFrom_X5 kX5_coverFrom_2 rfl (by decide) rfl rfl dX5_coverFrom_24 rfl ?_
      obtain ⟨u2, hu2, h⟩ := bnd_some h
      refine wd_callVi (j := 30) (q0 := 0) (ci := 5) (As := [.int st.1, .ref (ad 8)]) (rest := []) (ws' := (w_X5_coverFrom ad cI cD mlen mnodes mlinks mwk bcode hass kwk hsh tab mdeg u2.2)) C (c_X5_go l D cI cD ad (ad 8) mlen mnodes mlinks mwk bcode hass kwk hsh tab mdeg st.2.2.2 st.1 u2 hu2) (cwV 2 C.1.2.2.2.2 gX5_coverFrom_X5_go rfl rfl rfl (by decide +kernel) ⟨Nat.le_of_ble_eq_true rfl, Nat.le_of_ble_eq_true rfl⟩) rfl rfl [0, 1, 2, 3] [] rfl rfl rfl rfl (by decide) [0, 1, 2, 3] rfl rfl rfl (Nat.le_of_ble_eq_true rfl) (Nat.le_of_ble_eq_true rfl) (Nat.le_of_ble_eq_true rfl) dX5_coverFrom_27 rfl ?_
      refine wd_istore_n (j := 31) (lv' := [(2, .int u2.1), (0, .ref (ad 0)), (3, .int st.2.1), (4, .int st.2.2.1)]) C dX5_coverFrom_30 rfl (by decide) rfl rfl ?_
      refine wd_iload_n (j := 32) C 2 dX5_coverFrom_31 rfl rfl rfl ?_
      refine wd_iconst (j := 33) (v := 1) C dX5_coverFrom_32 (by decide) rfl ?_
      refine wd_iload_n (j := 34) C 0 dX5_coverFrom_33 rfl rfl rfl ?_
      refine wd_ishl (j := 35) C dX5_coverFrom_34 rfl ?_
      refine wd_ior (j := 36) C dX5_coverFrom_35 rfl ?_
      refine wd_istore_n (j := 37) (lv' := [(3, .int (st.2.1 ||| ((1 : Int32) <<< (u2.1 &&& 31)))), (2, .int u2.1), (0, .ref (ad 0)), (4, .int st.2.2.1)]) C dX5_coverFrom_36 rfl (by decide) rfl rfl ?_
      refine wd_iinc (j := 40) (lv' := [(4, .int (st.2.2.1 + 1)), (3, .int (st.2.1 ||| ((1 : Int32) <<< (u2.1 &&& 31)))), (2, .int u2.1), (0, .ref (ad 0))]) C 3 dX5_coverFrom_37 rfl rfl (by decide) rfl rfl ?_
      refine wd_goto (t := 9) C dX5_coverFrom_40 (by decide) ?_
      obtain rfl := Option.some.inj h
      refine wd_lv (lv' := [(0, .ref (ad 0)), (2, .int u2.1), (3, .int (st.2.1 ||| ((1 : Int32) <<< (u2.1 &&& 31)))), (4, .int (st.2.2.1 + 1))]) [3, 2, 1, 0] rfl ?_
      exact ih (u2.1, (st.2.1 ||| ((1 : Int32) <<< (u2.1 &&& 31))), (st.2.2.1 + 1), u2.2) E hk kx
set_option maxRecDepth 100000 in
set_option maxHeartbeats 4000000 in
theorem c_X5_coverFrom (l : Launch) (D : va_G) (cI cD : ClassId) (ad : Nat → Nat) (N : Nat) (mlen : Int32) (mnodes : Int32) (mlinks : Int32) (mwk : Int32) (bcode : Int32) (hass : Int32) (kwk : Int32) (hsh : Int64) (tab : Nat → Int32) (mdeg : Nat → Int32) (fsr : Nat → Int32) (p1 : Int32) (u : Int32 × (Nat → Int32)) (h : f_X5_coverFrom N mnodes tab mdeg fsr p1 = some u) : MetI l yX5_coverFrom wsX5_coverFrom { frames := 1, cells := 0, slots := 0, locals := 23 } D [(cI, .int), (cD, .double)] [.ref (ad 0), .int p1] (w_X5_coverFrom ad cI cD mlen mnodes mlinks mwk bcode hass kwk hsh tab mdeg fsr) u.1 (w_X5_coverFrom ad cI cD mlen mnodes mlinks mwk bcode hass kwk hsh tab mdeg u.2) := by
  refine MetI.of (own := RX5) (cc := cX5_coverFrom) (nL := 5) (ret := (some .int)) (by decide) rfl rfl (Nat.le_of_ble_eq_true rfl) rfl ?_
  intro p e s m args below meth c A hA C hr hlk
  unfold f_X5_coverFrom at h
  refine wd_iload_n (j := 1) C 1 dX5_coverFrom_0 rfl rfl rfl ?_
  refine wd_istore_n (j := 2) (lv' := [(2, .int p1), (0, .ref (ad 0)), (1, .int p1)]) C dX5_coverFrom_1 rfl (by decide) rfl rfl ?_
  refine wd_iconst (j := 3) (v := 1) C dX5_coverFrom_2 (by decide) rfl ?_
  refine wd_iload_n (j := 4) C 0 dX5_coverFrom_3 rfl rfl rfl ?_
  refine wd_ishl (j := 5) C dX5_coverFrom_4 rfl ?_
  refine wd_istore_n (j := 6) (lv' := [(3, .int ((1 : Int32) <<< (p1 &&& 31))), (2, .int p1), (0, .ref (ad 0)), (1, .int p1)]) C dX5_coverFrom_5 rfl (by decide) rfl rfl ?_
  refine wd_iconst (j := 7) (v := 0) C dX5_coverFrom_6 (by decide) rfl ?_
  refine wd_istore (j := 9) (lv' := [(4, .int (0 : Int32)), (3, .int ((1 : Int32) <<< (p1 &&& 31))), (2, .int p1), (0, .ref (ad 0)), (1, .int p1)]) C dX5_coverFrom_7 (by decide) rfl rfl ?_
  refine wd_lv (lv' := [(0, .ref (ad 0)), (2, .int p1), (3, .int ((1 : Int32) <<< (p1 &&& 31))), (4, .int (0 : Int32))]) [3, 2, 1, 0] rfl ?_
  obtain ⟨u3, hu3, h⟩ := bnd_some h
  refine lw_X5_coverFrom_9 l D cI cD ad N mlen mlinks mwk bcode hass kwk hsh mnodes tab mdeg C N (p1, ((1 : Int32) <<< (p1 &&& 31)), (0 : Int32), fsr) u3 hu3 ?_
  refine wd_iload (j := 45) C 0 dX5_coverFrom_43 rfl rfl ?_
  obtain rfl := Option.some.inj h
  exact wd_iret C hA hr hlk rfl rfl rfl dX5_coverFrom_45
abbrev w_X5_coverOf (ad : Nat → Nat) (cI cD : ClassId) (mlen : Int32) (mnodes : Int32) (mlinks : Int32) (mwk : Int32) (bcode : Int32) (hass : Int32) (kwk : Int32) (hsh : Int64) (tab : Nat → Int32) (mdeg : Nat → Int32) (mrot : Nat → Int32) (plc : Nat → Int32) (fsr : Nat → Int32) : va_W := [((ad 0), .inr (5, [.int mlen, .ref (ad 1), .int mnodes, .int mlinks, .ref (ad 2), .ref (ad 3), .ref (ad 4), .int mwk, .ref (ad 5), .ref (ad 6), .ref (ad 7), .ref (ad 8), .ref (ad 9), .int bcode, .ref (ad 10), .ref (ad 11), .int hass, .int kwk, .ref (ad 12), .ref (ad 13), .ref (ad 14), .ref (ad 15), .long hsh])), ((ad 2), .inl (cI, 64, .inl tab)), ((ad 3), .inl (cI, 8, .inl mdeg)), ((ad 4), .inl (cI, 8, .inl mrot)), ((ad 5), .inl (cI, 4, .inl plc)), ((ad 8), .inl (cI, 8, .inl fsr))]
theorem kX5_coverOf_1 : Cond.fieldLink "RotorRouterModel" 19 "RotorRouterModel" "rotors" "[I" ∈ wsX5_coverOf := List.mem_of_getElem? (i := 1) rfl
theorem kX5_coverOf_2 : Cond.fieldLink "RotorRouterModel" 31 "RotorRouterModel" "first" "[I" ∈ wsX5_coverOf := List.mem_of_getElem? (i := 2) rfl
theorem kX5_coverOf_3 : Cond.fieldLink "RotorRouterModel" 22 "RotorRouterModel" "places" "[I" ∈ wsX5_coverOf := List.mem_of_getElem? (i := 3) rfl
theorem inX5_coverOf_X5 : ∀ w ∈ wsX50, w ∈ wsX5_coverOf := fun _ h => List.mem_cons_of_mem _ (List.mem_append_right _ h)
set_option maxRecDepth 100000 in
set_option maxHeartbeats 4000000 in
theorem c_X5_coverOf (l : Launch) (D : va_G) (cI cD : ClassId) (ad : Nat → Nat) (N : Nat) (mlen : Int32) (mnodes : Int32) (mlinks : Int32) (mwk : Int32) (bcode : Int32) (hass : Int32) (kwk : Int32) (hsh : Int64) (tab : Nat → Int32) (mdeg : Nat → Int32) (mrot : Nat → Int32) (plc : Nat → Int32) (fsr : Nat → Int32) (p1 : Int32) (u : Int32 × (Nat → Int32)) (h : f_X5_coverOf N mnodes tab mdeg mrot plc fsr p1 = some u) : MetI l yX5_coverOf wsX5_coverOf { frames := 2, cells := 0, slots := 0, locals := 47 } D [(cI, .int), (cD, .double)] [.ref (ad 0), .int p1] (w_X5_coverOf ad cI cD mlen mnodes mlinks mwk bcode hass kwk hsh tab mdeg mrot plc fsr) u.1 (w_X5_coverOf ad cI cD mlen mnodes mlinks mwk bcode hass kwk hsh tab mdeg mrot plc u.2) := by
  refine MetI.of (own := RX5) (cc := cX5_coverOf) (nL := 2) (ret := (some .int)) (by decide) rfl rfl (Nat.le_of_ble_eq_true rfl) rfl ?_
  intro p e s m args below meth c A hA C hr hlk
  unfold f_X5_coverOf at h
  refine wd_aload_n (j := 1) C 0 dX5_coverOf_0 rfl rfl rfl ?_
  refine wd_aload_n (j := 2) C 0 dX5_coverOf_1 rfl rfl rfl ?_
  refine wd_get (j := 5) (q0 := 0) (f := 6) (ci := 5) (v := .ref (ad 4)) C inX5_coverOf_X5 kX5_coverOf_1 rfl (by decide) rfl rfl dX5_coverOf_2 rfl ?_
  refine wd_aload_n (j := 6) C 0 dX5_coverOf_5 rfl rfl rfl ?_
  refine wd_get (j := 9) (q0 := 0) (f := 11) (ci := 5) (v := .ref (ad 8)) C inX5_coverOf_X5 kX5_coverOf_2 rfl (by decide) rfl rfl dX5_coverOf_6 rfl ?_
  obtain ⟨u1, hu1, h⟩ := bnd_some h
  refine wd_callVv (j := 12) (q0 := 0) (ci := 5) (As := [.ref (ad 4), .ref (ad 8)]) (rest := []) (ws' := (w_X5_coverOf ad cI cD mlen mnodes mlinks mwk bcode hass kwk hsh tab mdeg mrot plc u1)) C (c_X5_copyRotors l D cI cD ad (ad 4) (ad 8) N mlen mnodes mlinks mwk bcode hass kwk hsh mrot fsr u1 hu1) (cwV 2 C.1.2.2.2.2 gX5_coverOf_X5_copyRotors rfl rfl rfl (by decide +kernel) ⟨Nat.le_of_ble_eq_true rfl, Nat.le_of_ble_eq_true rfl⟩) rfl rfl [0, 3, 5] [1, 2, 4] rfl rfl rfl rfl (by decide) [3, 0, 1, 4, 2, 5] rfl rfl rfl (Nat.le_of_ble_eq_true rfl) (Nat.le_of_ble_eq_true rfl) (Nat.le_of_ble_eq_true rfl) dX5_coverOf_9 rfl ?_
  refine wd_aload_n (j := 13) C 0 dX5_coverOf_12 rfl rfl rfl ?_
  refine wd_aload_n (j := 14) C 0 dX5_coverOf_13 rfl rfl rfl ?_
  refine wd_get (j := 17) (q0 := 0) (f := 8) (ci := 5) (v := .ref (ad 5)) C inX5_coverOf_X5 kX5_coverOf_3 rfl (by decide) rfl rfl dX5_coverOf_14 rfl ?_
  refine wd_iload_n (j := 18) C 1 dX5_coverOf_17 rfl rfl rfl ?_
  obtain ⟨g2, h⟩ := grd_some h
  refine wd_iald (j := 19) (q0 := 4) (t0 := 0) C rfl rfl (inB_in g2) dX5_coverOf_18 rfl ?_
  obtain ⟨u3, hu3, h⟩ := bnd_some h
  refine wd_callVi (j := 22) (q0 := 0) (ci := 5) (As := [.int (plc p1.toNatClampNeg)]) (rest := []) (ws' := (w_X5_coverOf ad cI cD mlen mnodes mlinks mwk bcode hass kwk hsh tab mdeg mrot plc u3.2)) C (c_X5_coverFrom l D cI cD ad N mlen mnodes mlinks mwk bcode hass kwk hsh tab mdeg u1 (plc p1.toNatClampNeg) u3 hu3) (cwV 1 C.1.2.2.2.2 gX5_coverOf_X5_coverFrom rfl rfl rfl (by decide +kernel) ⟨Nat.le_of_ble_eq_true rfl, Nat.le_of_ble_eq_true rfl⟩) rfl rfl [0, 1, 2, 5] [3, 4] rfl rfl rfl rfl (by decide) [2, 3, 4, 0, 1, 5] rfl rfl rfl (Nat.le_of_ble_eq_true rfl) (Nat.le_of_ble_eq_true rfl) (Nat.le_of_ble_eq_true rfl) dX5_coverOf_19 rfl ?_
  obtain rfl := Option.some.inj h
  exact wd_iret C hA hr hlk rfl rfl rfl dX5_coverOf_22
abbrev w_X5_coverTime (ad : Nat → Nat) (cI cD : ClassId) (mlen : Int32) (mnodes : Int32) (mlinks : Int32) (mwk : Int32) (bcode : Int32) (hass : Int32) (kwk : Int32) (hsh : Int64) (tab : Nat → Int32) (mdeg : Nat → Int32) (mrot : Nat → Int32) (plc : Nat → Int32) (fsr : Nat → Int32) : va_W := [((ad 0), .inr (5, [.int mlen, .ref (ad 1), .int mnodes, .int mlinks, .ref (ad 2), .ref (ad 3), .ref (ad 4), .int mwk, .ref (ad 5), .ref (ad 6), .ref (ad 7), .ref (ad 8), .ref (ad 9), .int bcode, .ref (ad 10), .ref (ad 11), .int hass, .int kwk, .ref (ad 12), .ref (ad 13), .ref (ad 14), .ref (ad 15), .long hsh])), ((ad 2), .inl (cI, 64, .inl tab)), ((ad 3), .inl (cI, 8, .inl mdeg)), ((ad 4), .inl (cI, 8, .inl mrot)), ((ad 5), .inl (cI, 4, .inl plc)), ((ad 8), .inl (cI, 8, .inl fsr))]
set_option maxRecDepth 100000 in
set_option maxHeartbeats 4000000 in
theorem c_X5_coverTime (l : Launch) (D : va_G) (cI cD : ClassId) (ad : Nat → Nat) (N : Nat) (mlen : Int32) (mnodes : Int32) (mlinks : Int32) (mwk : Int32) (bcode : Int32) (hass : Int32) (kwk : Int32) (hsh : Int64) (tab : Nat → Int32) (mdeg : Nat → Int32) (mrot : Nat → Int32) (plc : Nat → Int32) (fsr : Nat → Int32) (p1 : Int32) (u : Int32 × (Nat → Int32)) (h : f_X5_coverTime N mnodes mwk tab mdeg mrot plc fsr p1 = some u) : MetI l yX5_coverTime wsX5_coverTime { frames := 3, cells := 0, slots := 0, locals := 68 } D [(cI, .int), (cD, .double)] [.ref (ad 0), .int p1] (w_X5_coverTime ad cI cD mlen mnodes mlinks mwk bcode hass kwk hsh tab mdeg mrot plc fsr) u.1 (w_X5_coverTime ad cI cD mlen mnodes mlinks mwk bcode hass kwk hsh tab mdeg mrot plc u.2) := by
  refine MetI.of (own := RX5) (cc := cX5_coverTime) (nL := 2) (ret := (some .int)) (by decide) rfl rfl (Nat.le_of_ble_eq_true rfl) rfl ?_
  intro p e s m args below meth c A hA C hr hlk
  unfold f_X5_coverTime at h
  refine wd_aload_n (j := 1) C 0 dX5_coverTime_0 rfl rfl rfl ?_
  refine wd_iload_n (j := 2) C 1 dX5_coverTime_1 rfl rfl rfl ?_
  obtain ⟨u1, hu1, h⟩ := bnd_some h
  refine wd_callVi (j := 5) (q0 := 0) (ci := 5) (As := [.int p1]) (rest := []) (ws' := (w_X5_coverTime ad cI cD mlen mnodes mlinks mwk bcode hass kwk hsh tab mdeg mrot plc fsr)) C (c_X5_isWalker l D cI cD ad mlen mnodes mlinks mwk bcode hass kwk hsh p1 u1 hu1) (cwV 1 C.1.2.2.2.2 gX5_coverTime_X5_isWalker rfl rfl rfl (by decide +kernel) ⟨Nat.le_of_ble_eq_true rfl, Nat.le_of_ble_eq_true rfl⟩) rfl rfl [0] [1, 2, 3, 4, 5] rfl rfl rfl rfl (by decide) [5, 0, 1, 2, 3, 4] rfl rfl rfl (Nat.le_of_ble_eq_true rfl) (Nat.le_of_ble_eq_true rfl) (Nat.le_of_ble_eq_true rfl) dX5_coverTime_2 rfl ?_
  refine wd_if_eq (j := 8) (t := 16) C dX5_coverTime_5 (by decide) rfl (fun c2 => ?_) (fun c2 => ?_)
  · replace h := (if_pos c2).symm.trans h
    refine wd_bipush (j := 18) (v := -5) C dX5_coverTime_16 (by decide) rfl ?_
    obtain rfl := Option.some.inj h
    exact wd_iret C hA hr hlk rfl rfl rfl dX5_coverTime_18
  · replace h := (if_neg c2).symm.trans h
    refine wd_aload_n (j := 9) C 0 dX5_coverTime_8 rfl rfl rfl ?_
    refine wd_iload_n (j := 10) C 1 dX5_coverTime_9 rfl rfl rfl ?_
    obtain ⟨u3, hu3, h⟩ := bnd_some h
    refine wd_callVi (j := 13) (q0 := 0) (ci := 5) (As := [.int p1]) (rest := []) (ws' := (w_X5_coverTime ad cI cD mlen mnodes mlinks mwk bcode hass kwk hsh tab mdeg mrot plc u3.2)) C (c_X5_coverOf l D cI cD ad N mlen mnodes mlinks mwk bcode hass kwk hsh tab mdeg mrot plc fsr p1 u3 hu3) (cwV 1 C.1.2.2.2.2 gX5_coverTime_X5_coverOf rfl rfl rfl (by decide +kernel) ⟨Nat.le_of_ble_eq_true rfl, Nat.le_of_ble_eq_true rfl⟩) rfl rfl [0, 1, 2, 3, 4, 5] [] rfl rfl rfl rfl (by decide) [0, 1, 2, 3, 4, 5] rfl rfl rfl (Nat.le_of_ble_eq_true rfl) (Nat.le_of_ble_eq_true rfl) (Nat.le_of_ble_eq_true rfl) dX5_coverTime_10 rfl ?_
    refine wd_goto (t := 18) C dX5_coverTime_13 (by decide) ?_
    obtain rfl := Option.some.inj h
    exact wd_iret C hA hr hlk rfl rfl rfl dX5_coverTime_18
abbrev w_X5_assignments (ad : Nat → Nat) (cI cD : ClassId) (mlen : Int32) (mnodes : Int32) (mlinks : Int32) (mwk : Int32) (bcode : Int32) (hass : Int32) (kwk : Int32) (hsh : Int64) (mdeg : Nat → Int32) : va_W := [((ad 0), .inr (5, [.int mlen, .ref (ad 1), .int mnodes, .int mlinks, .ref (ad 2), .ref (ad 3), .ref (ad 4), .int mwk, .ref (ad 5), .ref (ad 6), .ref (ad 7), .ref (ad 8), .ref (ad 9), .int bcode, .ref (ad 10), .ref (ad 11), .int hass, .int kwk, .ref (ad 12), .ref (ad 13), .ref (ad 14), .ref (ad 15), .long hsh])), ((ad 3), .inl (cI, 8, .inl mdeg))]
theorem kX5_assignments_1 : Cond.fieldLink "RotorRouterModel" 82 "RotorRouterModel" "nodes" "I" ∈ wsX5_assignments := List.mem_of_getElem? (i := 1) rfl
theorem kX5_assignments_2 : Cond.fieldLink "RotorRouterModel" 16 "RotorRouterModel" "degrees" "[I" ∈ wsX5_assignments := List.mem_of_getElem? (i := 2) rfl
theorem inX5_assignments_X5 : ∀ w ∈ wsX50, w ∈ wsX5_assignments := fun _ h => List.mem_cons_of_mem _ (List.mem_append_right _ h)
set_option maxRecDepth 100000 in
set_option maxHeartbeats 4000000 in
theorem lw_X5_assignments_4 (l : Launch) (D : va_G) (cI cD : ClassId) (ad : Nat → Nat) (N : Nat) (mlen : Int32) (mlinks : Int32) (mwk : Int32) (bcode : Int32) (hass : Int32) (kwk : Int32) (hsh : Int64) (mnodes : Int32) (mdeg : Nat → Int32)  {p : Program} {e : Env} {s : State} {m : MethodId} {args : Array Value} {below : List Frame} {meth : Method} {c : Code} {A : Nat → Prop} {Q : State → Prop} (C : wd_C p m c cX5_assignments 3 s args wsX5_assignments RX5 D [(cI, .int), (cD, .double)] A) : ∀ (n : Nat) (st : Int32 × Int32) (E : Int32), iter (b_X5_assignments_4 mnodes mdeg) n st = some E → (Wd p l e { frames := 0, cells := 0, slots := 0, locals := 0 } s m args below meth c 3 D A 0 0 Q 40 [(1, .int E)] [] (w_X5_assignments ad cI cD mlen mnodes mlinks mwk bcode hass kwk hsh mdeg)) → Wd p l e { frames := 0, cells := 0, slots := 0, locals := 0 } s m args below meth c 3 D A 0 0 Q 4 [(0, .ref (ad 0)), (1, .int st.1), (2, .int st.2)] [] (w_X5_assignments ad cI cD mlen mnodes mlinks mwk bcode hass kwk hsh mdeg) := by
  intro n
  induction n with
  | zero => intro st E h; cases h
  | succ n ih =>
    intro st E h kx
    obtain ⟨b, h, hk⟩ := iter_step h
    unfold b_X5_assignments_4 at h
    refine wd_iload_n (j := 5) C 2 dX5_assignments_4 rfl rfl rfl ?_
    refine wd_aload_n (j := 6) C 0 dX5_assignments_5 rfl rfl rfl ?_
    refine wd_get (j := 9) (q0 := 0) (f := 2) (ci := 5) (v := .int mnodes) C inX5_assignments_X5 kX5_assignments_1 rfl (by decide) rfl rfl dX5_assignments_6 rfl ?_
    refine wd_icmp_ge (j := 12) (t := 40) C dX5_assignments_9 (by decide) rfl (fun c1 => ?_) (fun c1 => ?_)
    · replace h := (if_pos c1).symm.trans h
      obtain rfl := Option.some.inj h
      obtain rfl := hk
      refine wd_lv (lv' := [(1, .int st.1)]) [1] rfl ?_
      exact kx
    · replace h := (if_neg c1).symm.trans h
      refine wd_iload_n (j := 13) C 1 dX5_assignments_12 rfl rfl rfl ?_
      refine wd_aload_n (j := 14) C 0 dX5_assignments_13 rfl rfl rfl ?_
      refine wd_get (j := 17) (q0 := 0) (f := 5) (ci := 5) (v := .ref (ad 3)) C inX5_assignments_X5 kX5_assignments_2 rfl (by decide) rfl rfl dX5_assignments_14 rfl ?_
      refine wd_iload_n (j := 18) C 2 dX5_assignments_17 rfl rfl rfl ?_
      obtain ⟨g2, h⟩ := grd_some h
      refine wd_iald (j := 19) (q0 := 1) (t0 := 0) C rfl rfl (inB_in g2) dX5_assignments_18 rfl ?_
      refine wd_if_ne (j := 22) (t := 26) C dX5_assignments_19 (by decide) rfl (fun c3 => ?_) (fun c3 => ?_)
      · replace h := (if_neg c3).symm.trans h
        refine wd_aload_n (j := 27) C 0 dX5_assignments_26 rfl rfl rfl ?_
        refine wd_get (j := 30) (q0 := 0) (f := 5) (ci := 5) (v := .ref (ad 3)) C inX5_assignments_X5 kX5_assignments_2 rfl (by decide) rfl rfl dX5_assignments_27 rfl ?_
        refine wd_iload_n (j := 31) C 2 dX5_assignments_30 rfl rfl rfl ?_
        obtain ⟨g4, h⟩ := grd_some h
        refine wd_iald (j := 32) (q0 := 1) (t0 := 0) C rfl rfl (inB_in g4) dX5_assignments_31 rfl ?_
        refine wd_imul (j := 33) C dX5_assignments_32 rfl ?_
        refine wd_istore_n (j := 34) (lv' := [(1, .int (st.1 * (mdeg st.2.toNatClampNeg))), (0, .ref (ad 0)), (2, .int st.2)]) C dX5_assignments_33 rfl (by decide) rfl rfl ?_
        refine wd_iinc (j := 37) (lv' := [(2, .int (st.2 + 1)), (1, .int (st.1 * (mdeg st.2.toNatClampNeg))), (0, .ref (ad 0))]) C 2 dX5_assignments_34 rfl rfl (by decide) rfl rfl ?_
        refine wd_goto (t := 4) C dX5_assignments_37 (by decide) ?_
        obtain rfl := Option.some.inj h
        refine wd_lv (lv' := [(0, .ref (ad 0)), (1, .int (st.1 * (mdeg st.2.toNatClampNeg))), (2, .int (st.2 + 1))]) [2, 1, 0] rfl ?_
        exact ih ((st.1 * (mdeg st.2.toNatClampNeg)), (st.2 + 1)) E hk kx
      · replace h := (if_pos c3).symm.trans h
        refine wd_iconst (j := 23) (v := 1) C dX5_assignments_22 (by decide) rfl ?_
        refine wd_goto (t := 32) C dX5_assignments_23 (by decide) ?_
        refine wd_imul (j := 33) C dX5_assignments_32 rfl ?_
        refine wd_istore_n (j := 34) (lv' := [(1, .int (st.1 * (1 : Int32))), (0, .ref (ad 0)), (2, .int st.2)]) C dX5_assignments_33 rfl (by decide) rfl rfl ?_
        refine wd_iinc (j := 37) (lv' := [(2, .int (st.2 + 1)), (1, .int (st.1 * (1 : Int32))), (0, .ref (ad 0))]) C 2 dX5_assignments_34 rfl rfl (by decide) rfl rfl ?_
        refine wd_goto (t := 4) C dX5_assignments_37 (by decide) ?_
        obtain rfl := Option.some.inj h
        refine wd_lv (lv' := [(0, .ref (ad 0)), (1, .int (st.1 * (1 : Int32))), (2, .int (st.2 + 1))]) [2, 1, 0] rfl ?_
        exact ih ((st.1 * (1 : Int32)), (st.2 + 1)) E hk kx
set_option maxRecDepth 100000 in
set_option maxHeartbeats 4000000 in
theorem c_X5_assignments (l : Launch) (D : va_G) (cI cD : ClassId) (ad : Nat → Nat) (N : Nat) (mlen : Int32) (mnodes : Int32) (mlinks : Int32) (mwk : Int32) (bcode : Int32) (hass : Int32) (kwk : Int32) (hsh : Int64) (mdeg : Nat → Int32)  (u : Int32) (h : f_X5_assignments N mnodes mdeg = some u) : MetI l yX5_assignments wsX5_assignments { frames := 0, cells := 0, slots := 0, locals := 0 } D [(cI, .int), (cD, .double)] [.ref (ad 0)] (w_X5_assignments ad cI cD mlen mnodes mlinks mwk bcode hass kwk hsh mdeg) u (w_X5_assignments ad cI cD mlen mnodes mlinks mwk bcode hass kwk hsh mdeg) := by
  refine MetI.of (own := RX5) (cc := cX5_assignments) (nL := 3) (ret := (some .int)) (by decide) rfl rfl (Nat.le_of_ble_eq_true rfl) rfl ?_
  intro p e s m args below meth c A hA C hr hlk
  unfold f_X5_assignments at h
  refine wd_iconst (j := 1) (v := 1) C dX5_assignments_0 (by decide) rfl ?_
  refine wd_istore_n (j := 2) (lv' := [(1, .int (1 : Int32)), (0, .ref (ad 0))]) C dX5_assignments_1 rfl (by decide) rfl rfl ?_
  refine wd_iconst (j := 3) (v := 0) C dX5_assignments_2 (by decide) rfl ?_
  refine wd_istore_n (j := 4) (lv' := [(2, .int (0 : Int32)), (1, .int (1 : Int32)), (0, .ref (ad 0))]) C dX5_assignments_3 rfl (by decide) rfl rfl ?_
  refine wd_lv (lv' := [(0, .ref (ad 0)), (1, .int (1 : Int32)), (2, .int (0 : Int32))]) [2, 1, 0] rfl ?_
  obtain ⟨u5, hu5, h⟩ := bnd_some h
  refine lw_X5_assignments_4 l D cI cD ad N mlen mlinks mwk bcode hass kwk hsh mnodes mdeg C N ((1 : Int32), (0 : Int32)) u5 hu5 ?_
  refine wd_iload_n (j := 41) C 0 dX5_assignments_40 rfl rfl rfl ?_
  obtain rfl := Option.some.inj h
  exact wd_iret C hA hr hlk rfl rfl rfl dX5_assignments_41
abbrev w_X5_layAssignment (ad : Nat → Nat) (cI cD : ClassId) (mlen : Int32) (mnodes : Int32) (mlinks : Int32) (mwk : Int32) (bcode : Int32) (hass : Int32) (kwk : Int32) (hsh : Int64) (mdeg : Nat → Int32) (fsr : Nat → Int32) : va_W := [((ad 0), .inr (5, [.int mlen, .ref (ad 1), .int mnodes, .int mlinks, .ref (ad 2), .ref (ad 3), .ref (ad 4), .int mwk, .ref (ad 5), .ref (ad 6), .ref (ad 7), .ref (ad 8), .ref (ad 9), .int bcode, .ref (ad 10), .ref (ad 11), .int hass, .int kwk, .ref (ad 12), .ref (ad 13), .ref (ad 14), .ref (ad 15), .long hsh])), ((ad 3), .inl (cI, 8, .inl mdeg)), ((ad 8), .inl (cI, 8, .inl fsr))]
theorem kX5_layAssignment_1 : Cond.fieldLink "RotorRouterModel" 82 "RotorRouterModel" "nodes" "I" ∈ wsX5_layAssignment := List.mem_of_getElem? (i := 1) rfl
theorem kX5_layAssignment_2 : Cond.fieldLink "RotorRouterModel" 31 "RotorRouterModel" "first" "[I" ∈ wsX5_layAssignment := List.mem_of_getElem? (i := 2) rfl
theorem kX5_layAssignment_3 : Cond.fieldLink "RotorRouterModel" 16 "RotorRouterModel" "degrees" "[I" ∈ wsX5_layAssignment := List.mem_of_getElem? (i := 3) rfl
theorem inX5_layAssignment_X5 : ∀ w ∈ wsX50, w ∈ wsX5_layAssignment := fun _ h => List.mem_cons_of_mem _ (List.mem_append_right _ h)
set_option maxRecDepth 100000 in
set_option maxHeartbeats 4000000 in
theorem lw_X5_layAssignment_9 (l : Launch) (D : va_G) (cI cD : ClassId) (ad : Nat → Nat) (N : Nat) (mlen : Int32) (mnodes : Int32) (mlinks : Int32) (mwk : Int32) (bcode : Int32) (hass : Int32) (kwk : Int32) (hsh : Int64) (mdeg : Nat → Int32)  {p : Program} {e : Env} {s : State} {m : MethodId} {args : Array Value} {below : List Frame} {meth : Method} {c : Code} {A : Nat → Prop} {Q : State → Prop} (C : wd_C p m c cX5_layAssignment 4 s args wsX5_layAssignment RX5 D [(cI, .int), (cD, .double)] A) : ∀ (n : Nat) (st : Int32 × Int32 × (Nat → Int32)) (E : (Nat → Int32)), iter (b_X5_layAssignment_9 mdeg) n st = some E → (Wd p l e { frames := 0, cells := 0, slots := 0, locals := 0 } s m args below meth c 4 D A 0 0 Q 42 [] [] (w_X5_layAssignment ad cI cD mlen mnodes mlinks mwk bcode hass kwk hsh mdeg E)) → Wd p l e { frames := 0, cells := 0, slots := 0, locals := 0 } s m args below meth c 4 D A 0 0 Q 9 [(0, .ref (ad 0)), (2, .int st.1), (3, .int st.2.1)] [] (w_X5_layAssignment ad cI cD mlen mnodes mlinks mwk bcode hass kwk hsh mdeg st.2.2) := by
  intro n
  induction n with
  | zero => intro st E h; cases h
  | succ n ih =>
    intro st E h kx
    obtain ⟨b, h, hk⟩ := iter_step h
    unfold b_X5_layAssignment_9 at h
    refine wd_iload_n (j := 10) C 2 dX5_layAssignment_9 rfl rfl rfl ?_
    refine wd_if_lt (j := 13) (t := 42) C dX5_layAssignment_10 (by decide) rfl (fun c1 => ?_) (fun c1 => ?_)
    · replace h := (if_pos c1).symm.trans h
      obtain rfl := Option.some.inj h
      obtain rfl := hk
      refine wd_lv (lv' := []) [] rfl ?_
      exact kx
    · replace h := (if_neg c1).symm.trans h
      refine wd_aload_n (j := 14) C 0 dX5_layAssignment_13 rfl rfl rfl ?_
      refine wd_get (j := 17) (q0 := 0) (f := 11) (ci := 5) (v := .ref (ad 8)) C inX5_layAssignment_X5 kX5_layAssignment_2 rfl (by decide) rfl rfl dX5_layAssignment_14 rfl ?_
      refine wd_iload_n (j := 18) C 2 dX5_layAssignment_17 rfl rfl rfl ?_
      refine wd_iload_n (j := 19) C 1 dX5_layAssignment_18 rfl rfl rfl ?_
      refine wd_aload_n (j := 20) C 0 dX5_layAssignment_19 rfl rfl rfl ?_
      refine wd_get (j := 23) (q0 := 0) (f := 5) (ci := 5) (v := .ref (ad 3)) C inX5_layAssignment_X5 kX5_layAssignment_3 rfl (by decide) rfl rfl dX5_layAssignment_20 rfl ?_
      refine wd_iload_n (j := 24) C 2 dX5_layAssignment_23 rfl rfl rfl ?_
      obtain ⟨g2, h⟩ := grd_some h
      refine wd_iald (j := 25) (q0 := 1) (t0 := 0) C rfl rfl (inB_in g2) dX5_layAssignment_24 rfl ?_
      obtain ⟨g3, h⟩ := grd_some h
      refine wd_irem (j := 26) C dX5_layAssignment_25 g3 rfl ?_
      obtain ⟨g4, h⟩ := grd_some h
      refine wd_iast (j := 27) (q0 := 2) (t0 := 0) (ws' := (w_X5_layAssignment ad cI cD mlen mnodes mlinks mwk bcode hass kwk hsh mdeg (upd st.2.2 st.2.1.toNatClampNeg (st.1 - st.1 / (mdeg st.2.1.toNatClampNeg) * (mdeg st.2.1.toNatClampNeg))))) C rfl rfl (inB_in g4) rfl dX5_layAssignment_26 rfl ?_
      refine wd_iload_n (j := 28) C 1 dX5_layAssignment_27 rfl rfl rfl ?_
      refine wd_aload_n (j := 29) C 0 dX5_layAssignment_28 rfl rfl rfl ?_
      refine wd_get (j := 32) (q0 := 0) (f := 5) (ci := 5) (v := .ref (ad 3)) C inX5_layAssignment_X5 kX5_layAssignment_3 rfl (by decide) rfl rfl dX5_layAssignment_29 rfl ?_
      refine wd_iload_n (j := 33) C 2 dX5_layAssignment_32 rfl rfl rfl ?_
      obtain ⟨g5, h⟩ := grd_some h
      refine wd_iald (j := 34) (q0 := 1) (t0 := 0) C rfl rfl (inB_in g5) dX5_layAssignment_33 rfl ?_
      obtain ⟨g6, h⟩ := grd_some h
      refine wd_idiv (j := 35) C dX5_layAssignment_34 g6 rfl ?_
      refine wd_istore_n (j := 36) (lv' := [(2, .int (st.1 / (mdeg st.2.1.toNatClampNeg))), (0, .ref (ad 0)), (3, .int st.2.1)]) C dX5_layAssignment_35 rfl (by decide) rfl rfl ?_
      refine wd_iinc (j := 39) (lv' := [(3, .int (st.2.1 + (-1))), (2, .int (st.1 / (mdeg st.2.1.toNatClampNeg))), (0, .ref (ad 0))]) C 2 dX5_layAssignment_36 rfl rfl (by decide) rfl rfl ?_
      refine wd_goto (t := 9) C dX5_layAssignment_39 (by decide) ?_
      obtain rfl := Option.some.inj h
      refine wd_lv (lv' := [(0, .ref (ad 0)), (2, .int (st.1 / (mdeg st.2.1.toNatClampNeg))), (3, .int (st.2.1 + (-1)))]) [2, 1, 0] rfl ?_
      exact ih ((st.1 / (mdeg st.2.1.toNatClampNeg)), (st.2.1 + (-1)), (upd st.2.2 st.2.1.toNatClampNeg (st.1 - st.1 / (mdeg st.2.1.toNatClampNeg) * (mdeg st.2.1.toNatClampNeg)))) E hk kx
set_option maxRecDepth 100000 in
set_option maxHeartbeats 4000000 in
theorem c_X5_layAssignment (l : Launch) (D : va_G) (cI cD : ClassId) (ad : Nat → Nat) (N : Nat) (mlen : Int32) (mnodes : Int32) (mlinks : Int32) (mwk : Int32) (bcode : Int32) (hass : Int32) (kwk : Int32) (hsh : Int64) (mdeg : Nat → Int32) (fsr : Nat → Int32) (p1 : Int32) (u : (Nat → Int32)) (h : f_X5_layAssignment N mnodes mdeg fsr p1 = some u) : MetV l yX5_layAssignment wsX5_layAssignment { frames := 0, cells := 0, slots := 0, locals := 0 } D [(cI, .int), (cD, .double)] [.ref (ad 0), .int p1] (w_X5_layAssignment ad cI cD mlen mnodes mlinks mwk bcode hass kwk hsh mdeg fsr) (w_X5_layAssignment ad cI cD mlen mnodes mlinks mwk bcode hass kwk hsh mdeg u) := by
  refine MetV.of (own := RX5) (cc := cX5_layAssignment) (nL := 4) (ret := none) (by decide) rfl rfl (Nat.le_of_ble_eq_true rfl) rfl ?_
  intro p e s m args below meth c A hA C hr hlk
  unfold f_X5_layAssignment at h
  refine wd_iload_n (j := 1) C 1 dX5_layAssignment_0 rfl rfl rfl ?_
  refine wd_istore_n (j := 2) (lv' := [(2, .int p1), (0, .ref (ad 0)), (1, .int p1)]) C dX5_layAssignment_1 rfl (by decide) rfl rfl ?_
  refine wd_aload_n (j := 3) C 1 dX5_layAssignment_2 rfl rfl rfl ?_
  refine wd_get (j := 6) (q0 := 0) (f := 2) (ci := 5) (v := .int mnodes) C inX5_layAssignment_X5 kX5_layAssignment_1 rfl (by decide) rfl rfl dX5_layAssignment_3 rfl ?_
  refine wd_iconst (j := 7) (v := 1) C dX5_layAssignment_6 (by decide) rfl ?_
  refine wd_isub (j := 8) C dX5_layAssignment_7 rfl ?_
  refine wd_istore_n (j := 9) (lv' := [(3, .int (mnodes - (1 : Int32))), (2, .int p1), (0, .ref (ad 0)), (1, .int p1)]) C dX5_layAssignment_8 rfl (by decide) rfl rfl ?_
  refine wd_lv (lv' := [(0, .ref (ad 0)), (2, .int p1), (3, .int (mnodes - (1 : Int32)))]) [2, 1, 0] rfl ?_
  obtain ⟨u7, hu7, h⟩ := bnd_some h
  refine lw_X5_layAssignment_9 l D cI cD ad N mlen mnodes mlinks mwk bcode hass kwk hsh mdeg C N (p1, (mnodes - (1 : Int32)), fsr) u7 hu7 ?_
  obtain rfl := Option.some.inj h
  exact wd_vret C hA hr hlk rfl dX5_layAssignment_42
abbrev w_X5_leastFrom (ad : Nat → Nat) (cI cD : ClassId) (mlen : Int32) (mnodes : Int32) (mlinks : Int32) (mwk : Int32) (bcode : Int32) (hass : Int32) (kwk : Int32) (hsh : Int64) (tab : Nat → Int32) (mdeg : Nat → Int32) (fsr : Nat → Int32) : va_W := [((ad 0), .inr (5, [.int mlen, .ref (ad 1), .int mnodes, .int mlinks, .ref (ad 2), .ref (ad 3), .ref (ad 4), .int mwk, .ref (ad 5), .ref (ad 6), .ref (ad 7), .ref (ad 8), .ref (ad 9), .int bcode, .ref (ad 10), .ref (ad 11), .int hass, .int kwk, .ref (ad 12), .ref (ad 13), .ref (ad 14), .ref (ad 15), .long hsh])), ((ad 2), .inl (cI, 64, .inl tab)), ((ad 3), .inl (cI, 8, .inl mdeg)), ((ad 8), .inl (cI, 8, .inl fsr))]
theorem kX5_leastFrom_1 : Cond.constant "RotorRouterModel" 140 1073741824 ∈ wsX5_leastFrom := List.mem_of_getElem? (i := 1) rfl
theorem kX5_leastFrom_2 : Cond.fieldLink "RotorRouterModel" 144 "RotorRouterModel" "bestCode" "I" ∈ wsX5_leastFrom := List.mem_of_getElem? (i := 2) rfl
theorem inX5_leastFrom_X5 : ∀ w ∈ wsX50, w ∈ wsX5_leastFrom := fun _ h => List.mem_cons_of_mem _ (List.mem_append_right _ h)
set_option maxRecDepth 100000 in
set_option maxHeartbeats 4000000 in
theorem lw_X5_leastFrom_11 (l : Launch) (D : va_G) (cI cD : ClassId) (ad : Nat → Nat) (N : Nat) (mlen : Int32) (mlinks : Int32) (mwk : Int32) (hass : Int32) (kwk : Int32) (hsh : Int64) (mnodes : Int32) (tab : Nat → Int32) (mdeg : Nat → Int32) (p1 : Int32) (p2 : Int32) {p : Program} {e : Env} {s : State} {m : MethodId} {args : Array Value} {below : List Frame} {meth : Method} {c : Code} {A : Nat → Prop} {Q : State → Prop} (C : wd_C p m c cX5_leastFrom 6 s args wsX5_leastFrom RX5 D [(cI, .int), (cD, .double)] A) : ∀ (n : Nat) (st : Int32 × Int32 × Int32 × (Nat → Int32)) (E : Int32 × Int32 × (Nat → Int32)), iter (b_X5_leastFrom_11 N mnodes tab mdeg p1 p2) n st = some E → (Wd p l e { frames := 2, cells := 0, slots := 0, locals := 47 } s m args below meth c 6 D A 0 0 Q 68 [(3, .int E.1)] [] (w_X5_leastFrom ad cI cD mlen mnodes mlinks mwk E.2.1 hass kwk hsh tab mdeg E.2.2)) → Wd p l e { frames := 2, cells := 0, slots := 0, locals := 47 } s m args below meth c 6 D A 0 0 Q 11 [(0, .ref (ad 0)), (1, .int p1), (2, .int p2), (3, .int st.1), (4, .int st.2.1)] [] (w_X5_leastFrom ad cI cD mlen mnodes mlinks mwk st.2.2.1 hass kwk hsh tab mdeg st.2.2.2) := by
  intro n
  induction n with
  | zero => intro st E h; cases h
  | succ n ih =>
    intro st E h kx
    obtain ⟨b, h, hk⟩ := iter_step h
    unfold b_X5_leastFrom_11 at h
    refine wd_iload (j := 13) C 4 dX5_leastFrom_11 rfl rfl ?_
    refine wd_iload_n (j := 14) C 2 dX5_leastFrom_13 rfl rfl rfl ?_
    refine wd_icmp_ge (j := 17) (t := 68) C dX5_leastFrom_14 (by decide) rfl (fun c1 => ?_) (fun c1 => ?_)
    · replace h := (if_pos c1).symm.trans h
      obtain rfl := Option.some.inj h
      obtain rfl := hk
      refine wd_lv (lv' := [(3, .int st.1)]) [3] rfl ?_
      exact kx
    · replace h := (if_neg c1).symm.trans h
      refine wd_aload_n (j := 18) C 0 dX5_leastFrom_17 rfl rfl rfl ?_
      refine wd_iload (j := 20) C 4 dX5_leastFrom_18 rfl rfl ?_
      obtain ⟨u2, hu2, h⟩ := bnd_some h
      refine wd_callVv (j := 23) (q0 := 0) (ci := 5) (As := [.int st.2.1]) (rest := []) (ws' := (w_X5_leastFrom ad cI cD mlen mnodes mlinks mwk st.2.2.1 hass kwk hsh tab mdeg u2)) C (c_X5_layAssignment l D cI cD ad N mlen mnodes mlinks mwk st.2.2.1 hass kwk hsh mdeg st.2.2.2 st.2.1 u2 hu2) (cwV 1 C.1.2.2.2.2 gX5_leastFrom_X5_layAssignment rfl rfl rfl (by decide +kernel) ⟨Nat.le_of_ble_eq_true rfl, Nat.le_of_ble_eq_true rfl⟩) rfl rfl [0, 2, 3] [1] rfl rfl rfl rfl (by decide) [1, 0, 2, 3] rfl rfl rfl (Nat.le_of_ble_eq_true rfl) (Nat.le_of_ble_eq_true rfl) (Nat.le_of_ble_eq_true rfl) dX5_leastFrom_20 rfl ?_
      refine wd_aload_n (j := 24) C 0 dX5_leastFrom_23 rfl rfl rfl ?_
      refine wd_iload_n (j := 25) C 1 dX5_leastFrom_24 rfl rfl rfl ?_
      obtain ⟨u3, hu3, h⟩ := bnd_some h
      refine wd_callVi (j := 28) (q0 := 0) (ci := 5) (As := [.int p1]) (rest := []) (ws' := (w_X5_leastFrom ad cI cD mlen mnodes mlinks mwk st.2.2.1 hass kwk hsh tab mdeg u3.2)) C (c_X5_coverFrom l D cI cD ad N mlen mnodes mlinks mwk st.2.2.1 hass kwk hsh tab mdeg u2 p1 u3 hu3) (cwV 1 C.1.2.2.2.2 gX5_leastFrom_X5_coverFrom rfl rfl rfl (by decide +kernel) ⟨Nat.le_of_ble_eq_true rfl, Nat.le_of_ble_eq_true rfl⟩) rfl rfl [0, 1, 2, 3] [] rfl rfl rfl rfl (by decide) [0, 1, 2, 3] rfl rfl rfl (Nat.le_of_ble_eq_true rfl) (Nat.le_of_ble_eq_true rfl) (Nat.le_of_ble_eq_true rfl) dX5_leastFrom_25 rfl ?_
      refine wd_istore (j := 30) (lv' := [(5, .int u3.1), (0, .ref (ad 0)), (1, .int p1), (2, .int p2), (3, .int st.1), (4, .int st.2.1)]) C dX5_leastFrom_28 (by decide) rfl rfl ?_
      refine wd_aload_n (j := 31) C 1 dX5_leastFrom_30 rfl rfl rfl ?_
      refine wd_iload (j := 33) C 0 dX5_leastFrom_31 rfl rfl ?_
      refine wd_iload_n (j := 34) C 4 dX5_leastFrom_33 rfl rfl rfl ?_
      refine wd_icmp_ge (j := 37) (t := 42) C dX5_leastFrom_34 (by decide) rfl (fun c4 => ?_) (fun c4 => ?_)
      · replace h := (if_pos c4).symm.trans h
        refine wd_aload_n (j := 43) C 1 dX5_leastFrom_42 rfl rfl rfl ?_
        refine wd_get (j := 46) (q0 := 0) (f := 13) (ci := 5) (v := .int st.2.2.1) C inX5_leastFrom_X5 kX5_leastFrom_2 rfl (by decide) rfl rfl dX5_leastFrom_43 rfl ?_
        refine wd_put (j := 49) (q0 := 0) (f := 13) (ci := 5) (ws' := (w_X5_leastFrom ad cI cD mlen mnodes mlinks mwk st.2.2.1 hass kwk hsh tab mdeg u3.2)) C inX5_leastFrom_X5 tyX5 tyX5_ok nmX5 kX5_leastFrom_2 rfl (by decide) rfl rfl rfl rfl (Nat.le_of_ble_eq_true rfl) rfl dX5_leastFrom_46 rfl ?_
        refine wd_iload (j := 51) C 0 dX5_leastFrom_49 rfl rfl ?_
        refine wd_iload_n (j := 52) C 4 dX5_leastFrom_51 rfl rfl rfl ?_
        refine wd_icmp_ge (j := 55) (t := 60) C dX5_leastFrom_52 (by decide) rfl (fun c5 => ?_) (fun c5 => ?_)
        · replace h := (if_pos c5).symm.trans h
          refine wd_iload_n (j := 61) C 4 dX5_leastFrom_60 rfl rfl rfl ?_
          refine wd_istore_n (j := 62) (lv' := [(3, .int st.1), (5, .int u3.1), (0, .ref (ad 0)), (1, .int p1), (2, .int p2), (4, .int st.2.1)]) C dX5_leastFrom_61 rfl (by decide) rfl rfl ?_
          refine wd_iinc (j := 65) (lv' := [(4, .int (st.2.1 + 1)), (3, .int st.1), (5, .int u3.1), (0, .ref (ad 0)), (1, .int p1), (2, .int p2)]) C 5 dX5_leastFrom_62 rfl rfl (by decide) rfl rfl ?_
          refine wd_goto (t := 11) C dX5_leastFrom_65 (by decide) ?_
          obtain rfl := Option.some.inj h
          refine wd_lv (lv' := [(0, .ref (ad 0)), (1, .int p1), (2, .int p2), (3, .int st.1), (4, .int (st.2.1 + 1))]) [3, 4, 5, 1, 0] rfl ?_
          exact ih (st.1, (st.2.1 + 1), st.2.2.1, u3.2) E hk kx
        · replace h := (if_neg c5).symm.trans h
          refine wd_iload (j := 57) C 0 dX5_leastFrom_55 rfl rfl ?_
          refine wd_goto (t := 61) C dX5_leastFrom_57 (by decide) ?_
          refine wd_istore_n (j := 62) (lv' := [(3, .int u3.1), (5, .int u3.1), (0, .ref (ad 0)), (1, .int p1), (2, .int p2), (4, .int st.2.1)]) C dX5_leastFrom_61 rfl (by decide) rfl rfl ?_
          refine wd_iinc (j := 65) (lv' := [(4, .int (st.2.1 + 1)), (3, .int u3.1), (5, .int u3.1), (0, .ref (ad 0)), (1, .int p1), (2, .int p2)]) C 5 dX5_leastFrom_62 rfl rfl (by decide) rfl rfl ?_
          refine wd_goto (t := 11) C dX5_leastFrom_65 (by decide) ?_
          obtain rfl := Option.some.inj h
          refine wd_lv (lv' := [(0, .ref (ad 0)), (1, .int p1), (2, .int p2), (3, .int u3.1), (4, .int (st.2.1 + 1))]) [3, 4, 5, 1, 0] rfl ?_
          exact ih (u3.1, (st.2.1 + 1), st.2.2.1, u3.2) E hk kx
      · replace h := (if_neg c4).symm.trans h
        refine wd_iload (j := 39) C 5 dX5_leastFrom_37 rfl rfl ?_
        refine wd_goto (t := 46) C dX5_leastFrom_39 (by decide) ?_
        refine wd_put (j := 49) (q0 := 0) (f := 13) (ci := 5) (ws' := (w_X5_leastFrom ad cI cD mlen mnodes mlinks mwk st.2.1 hass kwk hsh tab mdeg u3.2)) C inX5_leastFrom_X5 tyX5 tyX5_ok nmX5 kX5_leastFrom_2 rfl (by decide) rfl rfl rfl rfl (Nat.le_of_ble_eq_true rfl) rfl dX5_leastFrom_46 rfl ?_
        refine wd_iload (j := 51) C 0 dX5_leastFrom_49 rfl rfl ?_
        refine wd_iload_n (j := 52) C 4 dX5_leastFrom_51 rfl rfl rfl ?_
        refine wd_icmp_ge (j := 55) (t := 60) C dX5_leastFrom_52 (by decide) rfl (fun c6 => ?_) (fun c6 => ?_)
        · replace h := (if_pos c6).symm.trans h
          refine wd_iload_n (j := 61) C 4 dX5_leastFrom_60 rfl rfl rfl ?_
          refine wd_istore_n (j := 62) (lv' := [(3, .int st.1), (5, .int u3.1), (0, .ref (ad 0)), (1, .int p1), (2, .int p2), (4, .int st.2.1)]) C dX5_leastFrom_61 rfl (by decide) rfl rfl ?_
          refine wd_iinc (j := 65) (lv' := [(4, .int (st.2.1 + 1)), (3, .int st.1), (5, .int u3.1), (0, .ref (ad 0)), (1, .int p1), (2, .int p2)]) C 5 dX5_leastFrom_62 rfl rfl (by decide) rfl rfl ?_
          refine wd_goto (t := 11) C dX5_leastFrom_65 (by decide) ?_
          obtain rfl := Option.some.inj h
          refine wd_lv (lv' := [(0, .ref (ad 0)), (1, .int p1), (2, .int p2), (3, .int st.1), (4, .int (st.2.1 + 1))]) [3, 4, 5, 1, 0] rfl ?_
          exact ih (st.1, (st.2.1 + 1), st.2.1, u3.2) E hk kx
        · replace h := (if_neg c6).symm.trans h
          refine wd_iload (j := 57) C 0 dX5_leastFrom_55 rfl rfl ?_
          refine wd_goto (t := 61) C dX5_leastFrom_57 (by decide) ?_
          refine wd_istore_n (j := 62) (lv' := [(3, .int u3.1), (5, .int u3.1), (0, .ref (ad 0)), (1, .int p1), (2, .int p2), (4, .int st.2.1)]) C dX5_leastFrom_61 rfl (by decide) rfl rfl ?_
          refine wd_iinc (j := 65) (lv' := [(4, .int (st.2.1 + 1)), (3, .int u3.1), (5, .int u3.1), (0, .ref (ad 0)), (1, .int p1), (2, .int p2)]) C 5 dX5_leastFrom_62 rfl rfl (by decide) rfl rfl ?_
          refine wd_goto (t := 11) C dX5_leastFrom_65 (by decide) ?_
          obtain rfl := Option.some.inj h
          refine wd_lv (lv' := [(0, .ref (ad 0)), (1, .int p1), (2, .int p2), (3, .int u3.1), (4, .int (st.2.1 + 1))]) [3, 4, 5, 1, 0] rfl ?_
          exact ih (u3.1, (st.2.1 + 1), st.2.1, u3.2) E hk kx
set_option maxRecDepth 100000 in
set_option maxHeartbeats 4000000 in
theorem c_X5_leastFrom (l : Launch) (D : va_G) (cI cD : ClassId) (ad : Nat → Nat) (N : Nat) (mlen : Int32) (mnodes : Int32) (mlinks : Int32) (mwk : Int32) (bcode : Int32) (hass : Int32) (kwk : Int32) (hsh : Int64) (tab : Nat → Int32) (mdeg : Nat → Int32) (fsr : Nat → Int32) (p1 : Int32) (u : Int32 × Int32 × (Nat → Int32)) (h : f_X5_leastFrom N mnodes bcode tab mdeg fsr p1 = some u) : MetI l yX5_leastFrom wsX5_leastFrom { frames := 2, cells := 0, slots := 0, locals := 47 } D [(cI, .int), (cD, .double)] [.ref (ad 0), .int p1] (w_X5_leastFrom ad cI cD mlen mnodes mlinks mwk bcode hass kwk hsh tab mdeg fsr) u.1 (w_X5_leastFrom ad cI cD mlen mnodes mlinks mwk u.2.1 hass kwk hsh tab mdeg u.2.2) := by
  refine MetI.of (own := RX5) (cc := cX5_leastFrom) (nL := 6) (ret := (some .int)) (by decide) rfl rfl (Nat.le_of_ble_eq_true rfl) rfl ?_
  intro p e s m args below meth c A hA C hr hlk
  unfold f_X5_leastFrom at h
  refine wd_aload_n (j := 1) C 0 dX5_leastFrom_0 rfl rfl rfl ?_
  obtain ⟨u7, hu7, h⟩ := bnd_some h
  refine wd_callVi (j := 4) (q0 := 0) (ci := 5) (As := []) (rest := []) (ws' := (w_X5_leastFrom ad cI cD mlen mnodes mlinks mwk bcode hass kwk hsh tab mdeg fsr)) C (c_X5_assignments l D cI cD ad N mlen mnodes mlinks mwk bcode hass kwk hsh mdeg u7 hu7) (cwV 0 C.1.2.2.2.2 gX5_leastFrom_X5_assignments rfl rfl rfl (by decide +kernel) ⟨Nat.le_of_ble_eq_true rfl, Nat.le_of_ble_eq_true rfl⟩) rfl rfl [0, 2] [1, 3] rfl rfl rfl rfl (by decide) [2, 0, 3, 1] rfl rfl rfl (Nat.le_of_ble_eq_true rfl) (Nat.le_of_ble_eq_true rfl) (Nat.le_of_ble_eq_true rfl) dX5_leastFrom_1 rfl ?_
  refine wd_istore_n (j := 5) (lv' := [(2, .int u7), (0, .ref (ad 0)), (1, .int p1)]) C dX5_leastFrom_4 rfl (by decide) rfl rfl ?_
  refine wd_ldc (j := 7) C dX5_leastFrom_5 kX5_leastFrom_1 rfl ?_
  refine wd_istore_n (j := 8) (lv' := [(3, .int (1073741824 : Int32)), (2, .int u7), (0, .ref (ad 0)), (1, .int p1)]) C dX5_leastFrom_7 rfl (by decide) rfl rfl ?_
  refine wd_iconst (j := 9) (v := 0) C dX5_leastFrom_8 (by decide) rfl ?_
  refine wd_istore (j := 11) (lv' := [(4, .int (0 : Int32)), (3, .int (1073741824 : Int32)), (2, .int u7), (0, .ref (ad 0)), (1, .int p1)]) C dX5_leastFrom_9 (by decide) rfl rfl ?_
  refine wd_lv (lv' := [(0, .ref (ad 0)), (1, .int p1), (2, .int u7), (3, .int (1073741824 : Int32)), (4, .int (0 : Int32))]) [3, 4, 2, 1, 0] rfl ?_
  obtain ⟨u8, hu8, h⟩ := bnd_some h
  refine lw_X5_leastFrom_11 l D cI cD ad N mlen mlinks mwk hass kwk hsh mnodes tab mdeg p1 u7 C N ((1073741824 : Int32), (0 : Int32), bcode, fsr) u8 hu8 ?_
  refine wd_iload_n (j := 69) C 0 dX5_leastFrom_68 rfl rfl rfl ?_
  obtain rfl := Option.some.inj h
  exact wd_iret C hA hr hlk rfl rfl rfl dX5_leastFrom_69
abbrev w_X5_leastCoverTime (ad : Nat → Nat) (cI cD : ClassId) (mlen : Int32) (mnodes : Int32) (mlinks : Int32) (mwk : Int32) (bcode : Int32) (hass : Int32) (kwk : Int32) (hsh : Int64) (tab : Nat → Int32) (mdeg : Nat → Int32) (fsr : Nat → Int32) : va_W := [((ad 0), .inr (5, [.int mlen, .ref (ad 1), .int mnodes, .int mlinks, .ref (ad 2), .ref (ad 3), .ref (ad 4), .int mwk, .ref (ad 5), .ref (ad 6), .ref (ad 7), .ref (ad 8), .ref (ad 9), .int bcode, .ref (ad 10), .ref (ad 11), .int hass, .int kwk, .ref (ad 12), .ref (ad 13), .ref (ad 14), .ref (ad 15), .long hsh])), ((ad 2), .inl (cI, 64, .inl tab)), ((ad 3), .inl (cI, 8, .inl mdeg)), ((ad 8), .inl (cI, 8, .inl fsr))]
set_option maxRecDepth 100000 in
set_option maxHeartbeats 4000000 in
theorem c_X5_leastCoverTime (l : Launch) (D : va_G) (cI cD : ClassId) (ad : Nat → Nat) (N : Nat) (mlen : Int32) (mnodes : Int32) (mlinks : Int32) (mwk : Int32) (bcode : Int32) (hass : Int32) (kwk : Int32) (hsh : Int64) (tab : Nat → Int32) (mdeg : Nat → Int32) (fsr : Nat → Int32) (p1 : Int32) (u : Int32 × Int32 × (Nat → Int32)) (h : f_X5_leastCoverTime N mnodes bcode tab mdeg fsr p1 = some u) : MetI l yX5_leastCoverTime wsX5_leastCoverTime { frames := 3, cells := 0, slots := 0, locals := 72 } D [(cI, .int), (cD, .double)] [.ref (ad 0), .int p1] (w_X5_leastCoverTime ad cI cD mlen mnodes mlinks mwk bcode hass kwk hsh tab mdeg fsr) u.1 (w_X5_leastCoverTime ad cI cD mlen mnodes mlinks mwk u.2.1 hass kwk hsh tab mdeg u.2.2) := by
  refine MetI.of (own := RX5) (cc := cX5_leastCoverTime) (nL := 2) (ret := (some .int)) (by decide) rfl rfl (Nat.le_of_ble_eq_true rfl) rfl ?_
  intro p e s m args below meth c A hA C hr hlk
  unfold f_X5_leastCoverTime at h
  refine wd_aload_n (j := 1) C 0 dX5_leastCoverTime_0 rfl rfl rfl ?_
  refine wd_iload_n (j := 2) C 1 dX5_leastCoverTime_1 rfl rfl rfl ?_
  obtain ⟨u1, hu1, h⟩ := bnd_some h
  refine wd_callVi (j := 5) (q0 := 0) (ci := 5) (As := [.int p1]) (rest := []) (ws' := (w_X5_leastCoverTime ad cI cD mlen mnodes mlinks mwk bcode hass kwk hsh tab mdeg fsr)) C (c_X5_isNode l D cI cD ad mlen mnodes mlinks mwk bcode hass kwk hsh p1 u1 hu1) (cwV 1 C.1.2.2.2.2 gX5_leastCoverTime_X5_isNode rfl rfl rfl (by decide +kernel) ⟨Nat.le_of_ble_eq_true rfl, Nat.le_of_ble_eq_true rfl⟩) rfl rfl [0] [1, 2, 3] rfl rfl rfl rfl (by decide) [3, 0, 1, 2] rfl rfl rfl (Nat.le_of_ble_eq_true rfl) (Nat.le_of_ble_eq_true rfl) (Nat.le_of_ble_eq_true rfl) dX5_leastCoverTime_2 rfl ?_
  refine wd_if_ne (j := 8) (t := 11) C dX5_leastCoverTime_5 (by decide) rfl (fun c2 => ?_) (fun c2 => ?_)
  · replace h := (if_neg c2).symm.trans h
    refine wd_aload_n (j := 12) C 0 dX5_leastCoverTime_11 rfl rfl rfl ?_
    obtain ⟨u3, hu3, h⟩ := bnd_some h
    refine wd_callVi (j := 15) (q0 := 0) (ci := 5) (As := []) (rest := []) (ws' := (w_X5_leastCoverTime ad cI cD mlen mnodes mlinks mwk bcode hass kwk hsh tab mdeg fsr)) C (c_X5_assignments l D cI cD ad N mlen mnodes mlinks mwk bcode hass kwk hsh mdeg u3 hu3) (cwV 0 C.1.2.2.2.2 gX5_leastCoverTime_X5_assignments rfl rfl rfl (by decide +kernel) ⟨Nat.le_of_ble_eq_true rfl, Nat.le_of_ble_eq_true rfl⟩) rfl rfl [0, 2] [1, 3] rfl rfl rfl rfl (by decide) [2, 0, 3, 1] rfl rfl rfl (Nat.le_of_ble_eq_true rfl) (Nat.le_of_ble_eq_true rfl) (Nat.le_of_ble_eq_true rfl) dX5_leastCoverTime_12 rfl ?_
    refine wd_sipush (j := 18) (v := 2000) C dX5_leastCoverTime_15 (by decide) rfl ?_
    refine wd_icmp_le (j := 21) (t := 26) C dX5_leastCoverTime_18 (by decide) rfl (fun c4 => ?_) (fun c4 => ?_)
    · replace h := (if_pos c4).symm.trans h
      refine wd_aload_n (j := 27) C 0 dX5_leastCoverTime_26 rfl rfl rfl ?_
      refine wd_iload_n (j := 28) C 1 dX5_leastCoverTime_27 rfl rfl rfl ?_
      obtain ⟨u5, hu5, h⟩ := bnd_some h
      refine wd_callVi (j := 31) (q0 := 0) (ci := 5) (As := [.int p1]) (rest := []) (ws' := (w_X5_leastCoverTime ad cI cD mlen mnodes mlinks mwk u5.2.1 hass kwk hsh tab mdeg u5.2.2)) C (c_X5_leastFrom l D cI cD ad N mlen mnodes mlinks mwk bcode hass kwk hsh tab mdeg fsr p1 u5 hu5) (cwV 1 C.1.2.2.2.2 gX5_leastCoverTime_X5_leastFrom rfl rfl rfl (by decide +kernel) ⟨Nat.le_of_ble_eq_true rfl, Nat.le_of_ble_eq_true rfl⟩) rfl rfl [0, 1, 2, 3] [] rfl rfl rfl rfl (by decide) [0, 1, 2, 3] rfl rfl rfl (Nat.le_of_ble_eq_true rfl) (Nat.le_of_ble_eq_true rfl) (Nat.le_of_ble_eq_true rfl) dX5_leastCoverTime_28 rfl ?_
      obtain rfl := Option.some.inj h
      exact wd_iret C hA hr hlk rfl rfl rfl dX5_leastCoverTime_31
    · replace h := (if_neg c4).symm.trans h
      refine wd_bipush (j := 23) (v := -8) C dX5_leastCoverTime_21 (by decide) rfl ?_
      refine wd_goto (t := 31) C dX5_leastCoverTime_23 (by decide) ?_
      obtain rfl := Option.some.inj h
      exact wd_iret C hA hr hlk rfl rfl rfl dX5_leastCoverTime_31
  · replace h := (if_pos c2).symm.trans h
    refine wd_bipush (j := 10) (v := -4) C dX5_leastCoverTime_8 (by decide) rfl ?_
    obtain rfl := Option.some.inj h
    exact wd_iret C hA hr hlk rfl rfl rfl dX5_leastCoverTime_10
abbrev w_X5_bestRotor (ad : Nat → Nat) (cI cD : ClassId) (mlen : Int32) (mnodes : Int32) (mlinks : Int32) (mwk : Int32) (bcode : Int32) (hass : Int32) (kwk : Int32) (hsh : Int64) (tab : Nat → Int32) (mdeg : Nat → Int32) (fsr : Nat → Int32) : va_W := [((ad 0), .inr (5, [.int mlen, .ref (ad 1), .int mnodes, .int mlinks, .ref (ad 2), .ref (ad 3), .ref (ad 4), .int mwk, .ref (ad 5), .ref (ad 6), .ref (ad 7), .ref (ad 8), .ref (ad 9), .int bcode, .ref (ad 10), .ref (ad 11), .int hass, .int kwk, .ref (ad 12), .ref (ad 13), .ref (ad 14), .ref (ad 15), .long hsh])), ((ad 2), .inl (cI, 64, .inl tab)), ((ad 3), .inl (cI, 8, .inl mdeg)), ((ad 8), .inl (cI, 8, .inl fsr))]
theorem kX5_bestRotor_1 : Cond.fieldLink "RotorRouterModel" 144 "RotorRouterModel" "bestCode" "I" ∈ wsX5_bestRotor := List.mem_of_getElem? (i := 1) rfl
theorem kX5_bestRotor_2 : Cond.fieldLink "RotorRouterModel" 31 "RotorRouterModel" "first" "[I" ∈ wsX5_bestRotor := List.mem_of_getElem? (i := 2) rfl
theorem inX5_bestRotor_X5 : ∀ w ∈ wsX50, w ∈ wsX5_bestRotor := fun _ h => List.mem_cons_of_mem _ (List.mem_append_right _ h)
set_option maxRecDepth 100000 in
set_option maxHeartbeats 4000000 in
theorem c_X5_bestRotor (l : Launch) (D : va_G) (cI cD : ClassId) (ad : Nat → Nat) (N : Nat) (mlen : Int32) (mnodes : Int32) (mlinks : Int32) (mwk : Int32) (bcode : Int32) (hass : Int32) (kwk : Int32) (hsh : Int64) (tab : Nat → Int32) (mdeg : Nat → Int32) (fsr : Nat → Int32) (p1 : Int32) (p2 : Int32) (u : Int32 × Int32 × (Nat → Int32)) (h : f_X5_bestRotor N mnodes bcode tab mdeg fsr p1 p2 = some u) : MetI l yX5_bestRotor wsX5_bestRotor { frames := 3, cells := 0, slots := 0, locals := 72 } D [(cI, .int), (cD, .double)] [.ref (ad 0), .int p1, .int p2] (w_X5_bestRotor ad cI cD mlen mnodes mlinks mwk bcode hass kwk hsh tab mdeg fsr) u.1 (w_X5_bestRotor ad cI cD mlen mnodes mlinks mwk u.2.1 hass kwk hsh tab mdeg u.2.2) := by
  refine MetI.of (own := RX5) (cc := cX5_bestRotor) (nL := 4) (ret := (some .int)) (by decide) rfl rfl (Nat.le_of_ble_eq_true rfl) rfl ?_
  intro p e s m args below meth c A hA C hr hlk
  unfold f_X5_bestRotor at h
  refine wd_aload_n (j := 1) C 0 dX5_bestRotor_0 rfl rfl rfl ?_
  refine wd_iload_n (j := 2) C 1 dX5_bestRotor_1 rfl rfl rfl ?_
  obtain ⟨u1, hu1, h⟩ := bnd_some h
  refine wd_callVi (j := 5) (q0 := 0) (ci := 5) (As := [.int p1]) (rest := []) (ws' := (w_X5_bestRotor ad cI cD mlen mnodes mlinks mwk bcode hass kwk hsh tab mdeg fsr)) C (c_X5_isNode l D cI cD ad mlen mnodes mlinks mwk bcode hass kwk hsh p1 u1 hu1) (cwV 1 C.1.2.2.2.2 gX5_bestRotor_X5_isNode rfl rfl rfl (by decide +kernel) ⟨Nat.le_of_ble_eq_true rfl, Nat.le_of_ble_eq_true rfl⟩) rfl rfl [0] [1, 2, 3] rfl rfl rfl rfl (by decide) [3, 0, 1, 2] rfl rfl rfl (Nat.le_of_ble_eq_true rfl) (Nat.le_of_ble_eq_true rfl) (Nat.le_of_ble_eq_true rfl) dX5_bestRotor_2 rfl ?_
  refine wd_if_eq (j := 8) (t := 16) C dX5_bestRotor_5 (by decide) rfl (fun c2 => ?_) (fun c2 => ?_)
  · replace h := (if_pos c2).symm.trans h
    refine wd_bipush (j := 18) (v := -4) C dX5_bestRotor_16 (by decide) rfl ?_
    obtain rfl := Option.some.inj h
    exact wd_iret C hA hr hlk rfl rfl rfl dX5_bestRotor_18
  · replace h := (if_neg c2).symm.trans h
    refine wd_aload_n (j := 9) C 0 dX5_bestRotor_8 rfl rfl rfl ?_
    refine wd_iload_n (j := 10) C 2 dX5_bestRotor_9 rfl rfl rfl ?_
    obtain ⟨u3, hu3, h⟩ := bnd_some h
    refine wd_callVi (j := 13) (q0 := 0) (ci := 5) (As := [.int p2]) (rest := []) (ws' := (w_X5_bestRotor ad cI cD mlen mnodes mlinks mwk bcode hass kwk hsh tab mdeg fsr)) C (c_X5_isNode l D cI cD ad mlen mnodes mlinks mwk bcode hass kwk hsh p2 u3 hu3) (cwV 1 C.1.2.2.2.2 gX5_bestRotor_X5_isNode rfl rfl rfl (by decide +kernel) ⟨Nat.le_of_ble_eq_true rfl, Nat.le_of_ble_eq_true rfl⟩) rfl rfl [0] [1, 2, 3] rfl rfl rfl rfl (by decide) [3, 0, 1, 2] rfl rfl rfl (Nat.le_of_ble_eq_true rfl) (Nat.le_of_ble_eq_true rfl) (Nat.le_of_ble_eq_true rfl) dX5_bestRotor_10 rfl ?_
    refine wd_if_ne (j := 16) (t := 19) C dX5_bestRotor_13 (by decide) rfl (fun c4 => ?_) (fun c4 => ?_)
    · replace h := (if_neg c4).symm.trans h
      refine wd_aload_n (j := 20) C 0 dX5_bestRotor_19 rfl rfl rfl ?_
      obtain ⟨u5, hu5, h⟩ := bnd_some h
      refine wd_callVi (j := 23) (q0 := 0) (ci := 5) (As := []) (rest := []) (ws' := (w_X5_bestRotor ad cI cD mlen mnodes mlinks mwk bcode hass kwk hsh tab mdeg fsr)) C (c_X5_assignments l D cI cD ad N mlen mnodes mlinks mwk bcode hass kwk hsh mdeg u5 hu5) (cwV 0 C.1.2.2.2.2 gX5_bestRotor_X5_assignments rfl rfl rfl (by decide +kernel) ⟨Nat.le_of_ble_eq_true rfl, Nat.le_of_ble_eq_true rfl⟩) rfl rfl [0, 2] [1, 3] rfl rfl rfl rfl (by decide) [2, 0, 3, 1] rfl rfl rfl (Nat.le_of_ble_eq_true rfl) (Nat.le_of_ble_eq_true rfl) (Nat.le_of_ble_eq_true rfl) dX5_bestRotor_20 rfl ?_
      refine wd_sipush (j := 26) (v := 2000) C dX5_bestRotor_23 (by decide) rfl ?_
      refine wd_icmp_le (j := 29) (t := 32) C dX5_bestRotor_26 (by decide) rfl (fun c6 => ?_) (fun c6 => ?_)
      · replace h := (if_pos c6).symm.trans h
        refine wd_aload_n (j := 33) C 0 dX5_bestRotor_32 rfl rfl rfl ?_
        refine wd_iload_n (j := 34) C 1 dX5_bestRotor_33 rfl rfl rfl ?_
        obtain ⟨u7, hu7, h⟩ := bnd_some h
        refine wd_callVi (j := 37) (q0 := 0) (ci := 5) (As := [.int p1]) (rest := []) (ws' := (w_X5_bestRotor ad cI cD mlen mnodes mlinks mwk u7.2.1 hass kwk hsh tab mdeg u7.2.2)) C (c_X5_leastFrom l D cI cD ad N mlen mnodes mlinks mwk bcode hass kwk hsh tab mdeg fsr p1 u7 hu7) (cwV 1 C.1.2.2.2.2 gX5_bestRotor_X5_leastFrom rfl rfl rfl (by decide +kernel) ⟨Nat.le_of_ble_eq_true rfl, Nat.le_of_ble_eq_true rfl⟩) rfl rfl [0, 1, 2, 3] [] rfl rfl rfl rfl (by decide) [0, 1, 2, 3] rfl rfl rfl (Nat.le_of_ble_eq_true rfl) (Nat.le_of_ble_eq_true rfl) (Nat.le_of_ble_eq_true rfl) dX5_bestRotor_34 rfl ?_
        refine wd_istore_n (j := 38) (lv' := [(3, .int u7.1), (0, .ref (ad 0)), (1, .int p1), (2, .int p2)]) C dX5_bestRotor_37 rfl (by decide) rfl rfl ?_
        refine wd_aload_n (j := 39) C 1 dX5_bestRotor_38 rfl rfl rfl ?_
        refine wd_aload_n (j := 40) C 1 dX5_bestRotor_39 rfl rfl rfl ?_
        refine wd_get (j := 43) (q0 := 0) (f := 13) (ci := 5) (v := .int u7.2.1) C inX5_bestRotor_X5 kX5_bestRotor_1 rfl (by decide) rfl rfl dX5_bestRotor_40 rfl ?_
        obtain ⟨u8, hu8, h⟩ := bnd_some h
        refine wd_callVv (j := 46) (q0 := 0) (ci := 5) (As := [.int u7.2.1]) (rest := []) (ws' := (w_X5_bestRotor ad cI cD mlen mnodes mlinks mwk u7.2.1 hass kwk hsh tab mdeg u8)) C (c_X5_layAssignment l D cI cD ad N mlen mnodes mlinks mwk u7.2.1 hass kwk hsh mdeg u7.2.2 u7.2.1 u8 hu8) (cwV 1 C.1.2.2.2.2 gX5_bestRotor_X5_layAssignment rfl rfl rfl (by decide +kernel) ⟨Nat.le_of_ble_eq_true rfl, Nat.le_of_ble_eq_true rfl⟩) rfl rfl [0, 2, 3] [1] rfl rfl rfl rfl (by decide) [1, 0, 2, 3] rfl rfl rfl (Nat.le_of_ble_eq_true rfl) (Nat.le_of_ble_eq_true rfl) (Nat.le_of_ble_eq_true rfl) dX5_bestRotor_43 rfl ?_
        refine wd_aload_n (j := 47) C 1 dX5_bestRotor_46 rfl rfl rfl ?_
        refine wd_get (j := 50) (q0 := 0) (f := 11) (ci := 5) (v := .ref (ad 8)) C inX5_bestRotor_X5 kX5_bestRotor_2 rfl (by decide) rfl rfl dX5_bestRotor_47 rfl ?_
        refine wd_iload_n (j := 51) C 3 dX5_bestRotor_50 rfl rfl rfl ?_
        obtain ⟨g9, h⟩ := grd_some h
        refine wd_iald (j := 52) (q0 := 3) (t0 := 0) C rfl rfl (inB_in g9) dX5_bestRotor_51 rfl ?_
        obtain rfl := Option.some.inj h
        exact wd_iret C hA hr hlk rfl rfl rfl dX5_bestRotor_52
      · replace h := (if_neg c6).symm.trans h
        refine wd_bipush (j := 31) (v := -8) C dX5_bestRotor_29 (by decide) rfl ?_
        obtain rfl := Option.some.inj h
        exact wd_iret C hA hr hlk rfl rfl rfl dX5_bestRotor_31
    · replace h := (if_pos c4).symm.trans h
      refine wd_bipush (j := 18) (v := -4) C dX5_bestRotor_16 (by decide) rfl ?_
      obtain rfl := Option.some.inj h
      exact wd_iret C hA hr hlk rfl rfl rfl dX5_bestRotor_18
abbrev w_X5_spread (ad : Nat → Nat) (cI cD : ClassId) (mlen : Int32) (mnodes : Int32) (mlinks : Int32) (mwk : Int32) (bcode : Int32) (hass : Int32) (kwk : Int32) (hsh : Int64) (tab : Nat → Int32) (mdeg : Nat → Int32) (chn : Nat → UInt64) (aft : Nat → UInt64) : va_W := [((ad 0), .inr (5, [.int mlen, .ref (ad 1), .int mnodes, .int mlinks, .ref (ad 2), .ref (ad 3), .ref (ad 4), .int mwk, .ref (ad 5), .ref (ad 6), .ref (ad 7), .ref (ad 8), .ref (ad 9), .int bcode, .ref (ad 10), .ref (ad 11), .int hass, .int kwk, .ref (ad 12), .ref (ad 13), .ref (ad 14), .ref (ad 15), .long hsh])), ((ad 2), .inl (cI, 64, .inl tab)), ((ad 3), .inl (cI, 8, .inl mdeg)), ((ad 10), .inl (cD, 8, .inr (.inr (.inr (.inl chn))))), ((ad 11), .inl (cD, 8, .inr (.inr (.inr (.inl aft)))))]
theorem kX5_spread_1 : Cond.fieldLink "RotorRouterModel" 41 "RotorRouterModel" "after" "[D" ∈ wsX5_spread := List.mem_of_getElem? (i := 1) rfl
theorem kX5_spread_2 : Cond.fieldLink "RotorRouterModel" 82 "RotorRouterModel" "nodes" "I" ∈ wsX5_spread := List.mem_of_getElem? (i := 2) rfl
theorem kX5_spread_3 : Cond.fieldLink "RotorRouterModel" 16 "RotorRouterModel" "degrees" "[I" ∈ wsX5_spread := List.mem_of_getElem? (i := 3) rfl
theorem kX5_spread_4 : Cond.fieldLink "RotorRouterModel" 13 "RotorRouterModel" "table" "[I" ∈ wsX5_spread := List.mem_of_getElem? (i := 4) rfl
theorem kX5_spread_5 : Cond.fieldLink "RotorRouterModel" 37 "RotorRouterModel" "chance" "[D" ∈ wsX5_spread := List.mem_of_getElem? (i := 5) rfl
theorem inX5_spread_X5 : ∀ w ∈ wsX50, w ∈ wsX5_spread := fun _ h => List.mem_cons_of_mem _ (List.mem_append_right _ h)
set_option maxRecDepth 100000 in
set_option maxHeartbeats 4000000 in
theorem lw_X5_spread_2 (l : Launch) (D : va_G) (cI cD : ClassId) (ad : Nat → Nat) (N : Nat) (mlen : Int32) (mnodes : Int32) (mlinks : Int32) (mwk : Int32) (bcode : Int32) (hass : Int32) (kwk : Int32) (hsh : Int64) (tab : Nat → Int32) (mdeg : Nat → Int32) (chn : Nat → UInt64)  {p : Program} {e : Env} {s : State} {m : MethodId} {args : Array Value} {below : List Frame} {meth : Method} {c : Code} {A : Nat → Prop} {Q : State → Prop} (C : wd_C p m c cX5_spread 3 s args wsX5_spread RX5 D [(cI, .int), (cD, .double)] A) : ∀ (n : Nat) (st : Int32 × (Nat → UInt64)) (E : (Nat → UInt64)), iter (b_X5_spread_2) n st = some E → (Wd p l e { frames := 0, cells := 0, slots := 0, locals := 0 } s m args below meth c 3 D A 0 0 Q 21 [(0, .ref (ad 0))] [] (w_X5_spread ad cI cD mlen mnodes mlinks mwk bcode hass kwk hsh tab mdeg chn E)) → Wd p l e { frames := 0, cells := 0, slots := 0, locals := 0 } s m args below meth c 3 D A 0 0 Q 2 [(0, .ref (ad 0)), (1, .int st.1)] [] (w_X5_spread ad cI cD mlen mnodes mlinks mwk bcode hass kwk hsh tab mdeg chn st.2) := by
  intro n
  induction n with
  | zero => intro st E h; cases h
  | succ n ih =>
    intro st E h kx
    obtain ⟨b, h, hk⟩ := iter_step h
    unfold b_X5_spread_2 at h
    refine wd_iload_n (j := 3) C 1 dX5_spread_2 rfl rfl rfl ?_
    refine wd_bipush (j := 5) (v := 8) C dX5_spread_3 (by decide) rfl ?_
    refine wd_icmp_ge (j := 8) (t := 21) C dX5_spread_5 (by decide) rfl (fun c1 => ?_) (fun c1 => ?_)
    · replace h := (if_pos c1).symm.trans h
      obtain rfl := Option.some.inj h
      obtain rfl := hk
      refine wd_lv (lv' := [(0, .ref (ad 0))]) [0] rfl ?_
      exact kx
    · replace h := (if_neg c1).symm.trans h
      refine wd_aload_n (j := 9) C 0 dX5_spread_8 rfl rfl rfl ?_
      refine wd_get (j := 12) (q0 := 0) (f := 15) (ci := 5) (v := .ref (ad 11)) C inX5_spread_X5 kX5_spread_1 rfl (by decide) rfl rfl dX5_spread_9 rfl ?_
      refine wd_iload_n (j := 13) C 1 dX5_spread_12 rfl rfl rfl ?_
      refine wd_dconst0 (j := 14) C dX5_spread_13 rfl ?_
      obtain ⟨g2, h⟩ := grd_some h
      refine wd_dast (j := 15) (q0 := 4) (t0 := 1) (ws' := (w_X5_spread ad cI cD mlen mnodes mlinks mwk bcode hass kwk hsh tab mdeg chn (vf_upd st.2 st.1.toNatClampNeg FP.dconst0))) C rfl rfl (inB_in g2) rfl dX5_spread_14 rfl ?_
      refine wd_iinc (j := 18) (lv' := [(1, .int (st.1 + 1)), (0, .ref (ad 0))]) C 1 dX5_spread_15 rfl rfl (by decide) rfl rfl ?_
      refine wd_goto (t := 2) C dX5_spread_18 (by decide) ?_
      obtain rfl := Option.some.inj h
      refine wd_lv (lv' := [(0, .ref (ad 0)), (1, .int (st.1 + 1))]) [1, 0] rfl ?_
      exact ih ((st.1 + 1), (vf_upd st.2 st.1.toNatClampNeg FP.dconst0)) E hk kx
set_option maxRecDepth 100000 in
set_option maxHeartbeats 4000000 in
theorem lw_X5_spread_90 (l : Launch) (D : va_G) (cI cD : ClassId) (ad : Nat → Nat) (N : Nat) (mlen : Int32) (mnodes : Int32) (mlinks : Int32) (mwk : Int32) (bcode : Int32) (hass : Int32) (kwk : Int32) (hsh : Int64) (tab : Nat → Int32) (mdeg : Nat → Int32) (aft : Nat → UInt64)  {p : Program} {e : Env} {s : State} {m : MethodId} {args : Array Value} {below : List Frame} {meth : Method} {c : Code} {A : Nat → Prop} {Q : State → Prop} (C : wd_C p m c cX5_spread 3 s args wsX5_spread RX5 D [(cI, .int), (cD, .double)] A) : ∀ (n : Nat) (st : Int32 × (Nat → UInt64)) (E : (Nat → UInt64)), iter (b_X5_spread_90 aft) n st = some E → (Wd p l e { frames := 0, cells := 0, slots := 0, locals := 0 } s m args below meth c 3 D A 0 0 Q 114 [] [] (w_X5_spread ad cI cD mlen mnodes mlinks mwk bcode hass kwk hsh tab mdeg E aft)) → Wd p l e { frames := 0, cells := 0, slots := 0, locals := 0 } s m args below meth c 3 D A 0 0 Q 90 [(0, .ref (ad 0)), (1, .int st.1)] [] (w_X5_spread ad cI cD mlen mnodes mlinks mwk bcode hass kwk hsh tab mdeg st.2 aft) := by
  intro n
  induction n with
  | zero => intro st E h; cases h
  | succ n ih =>
    intro st E h kx
    obtain ⟨b, h, hk⟩ := iter_step h
    unfold b_X5_spread_90 at h
    refine wd_iload_n (j := 91) C 1 dX5_spread_90 rfl rfl rfl ?_
    refine wd_bipush (j := 93) (v := 8) C dX5_spread_91 (by decide) rfl ?_
    refine wd_icmp_ge (j := 96) (t := 114) C dX5_spread_93 (by decide) rfl (fun c3 => ?_) (fun c3 => ?_)
    · replace h := (if_pos c3).symm.trans h
      obtain rfl := Option.some.inj h
      obtain rfl := hk
      refine wd_lv (lv' := []) [] rfl ?_
      exact kx
    · replace h := (if_neg c3).symm.trans h
      refine wd_aload_n (j := 97) C 0 dX5_spread_96 rfl rfl rfl ?_
      refine wd_get (j := 100) (q0 := 0) (f := 14) (ci := 5) (v := .ref (ad 10)) C inX5_spread_X5 kX5_spread_5 rfl (by decide) rfl rfl dX5_spread_97 rfl ?_
      refine wd_iload_n (j := 101) C 1 dX5_spread_100 rfl rfl rfl ?_
      refine wd_aload_n (j := 102) C 0 dX5_spread_101 rfl rfl rfl ?_
      refine wd_get (j := 105) (q0 := 0) (f := 15) (ci := 5) (v := .ref (ad 11)) C inX5_spread_X5 kX5_spread_1 rfl (by decide) rfl rfl dX5_spread_102 rfl ?_
      refine wd_iload_n (j := 106) C 1 dX5_spread_105 rfl rfl rfl ?_
      obtain ⟨g4, h⟩ := grd_some h
      refine wd_dald (j := 107) (q0 := 4) (t0 := 1) C rfl rfl (inB_in g4) dX5_spread_106 rfl ?_
      obtain ⟨g5, h⟩ := grd_some h
      refine wd_dast (j := 108) (q0 := 3) (t0 := 1) (ws' := (w_X5_spread ad cI cD mlen mnodes mlinks mwk bcode hass kwk hsh tab mdeg (vf_upd st.2 st.1.toNatClampNeg (aft st.1.toNatClampNeg)) aft)) C rfl rfl (inB_in g5) rfl dX5_spread_107 rfl ?_
      refine wd_iinc (j := 111) (lv' := [(1, .int (st.1 + 1)), (0, .ref (ad 0))]) C 1 dX5_spread_108 rfl rfl (by decide) rfl rfl ?_
      refine wd_goto (t := 90) C dX5_spread_111 (by decide) ?_
      obtain rfl := Option.some.inj h
      refine wd_lv (lv' := [(0, .ref (ad 0)), (1, .int (st.1 + 1))]) [1, 0] rfl ?_
      exact ih ((st.1 + 1), (vf_upd st.2 st.1.toNatClampNeg (aft st.1.toNatClampNeg))) E hk kx
set_option maxRecDepth 100000 in
set_option maxHeartbeats 4000000 in
theorem lw_X5_spread_33 (l : Launch) (D : va_G) (cI cD : ClassId) (ad : Nat → Nat) (N : Nat) (mlen : Int32) (mnodes : Int32) (mlinks : Int32) (mwk : Int32) (bcode : Int32) (hass : Int32) (kwk : Int32) (hsh : Int64) (tab : Nat → Int32) (mdeg : Nat → Int32) (chn : Nat → UInt64) (p1 : Int32) {p : Program} {e : Env} {s : State} {m : MethodId} {args : Array Value} {below : List Frame} {meth : Method} {c : Code} {A : Nat → Prop} {Q : State → Prop} (C : wd_C p m c cX5_spread 3 s args wsX5_spread RX5 D [(cI, .int), (cD, .double)] A) : ∀ (n : Nat) (st : Int32 × (Nat → UInt64)) (E : (Nat → UInt64)), iter (b_X5_spread_33 tab mdeg chn p1) n st = some E → (Wd p l e { frames := 0, cells := 0, slots := 0, locals := 0 } s m args below meth c 3 D A 0 0 Q 82 [(0, .ref (ad 0)), (1, .int p1)] [] (w_X5_spread ad cI cD mlen mnodes mlinks mwk bcode hass kwk hsh tab mdeg chn E)) → Wd p l e { frames := 0, cells := 0, slots := 0, locals := 0 } s m args below meth c 3 D A 0 0 Q 33 [(0, .ref (ad 0)), (1, .int p1), (2, .int st.1)] [] (w_X5_spread ad cI cD mlen mnodes mlinks mwk bcode hass kwk hsh tab mdeg chn st.2) := by
  intro n
  induction n with
  | zero => intro st E h; cases h
  | succ n ih =>
    intro st E h kx
    obtain ⟨b, h, hk⟩ := iter_step h
    unfold b_X5_spread_33 at h
    refine wd_iload_n (j := 34) C 2 dX5_spread_33 rfl rfl rfl ?_
    refine wd_aload_n (j := 35) C 0 dX5_spread_34 rfl rfl rfl ?_
    refine wd_get (j := 38) (q0 := 0) (f := 5) (ci := 5) (v := .ref (ad 3)) C inX5_spread_X5 kX5_spread_3 rfl (by decide) rfl rfl dX5_spread_35 rfl ?_
    refine wd_iload_n (j := 39) C 1 dX5_spread_38 rfl rfl rfl ?_
    obtain ⟨g6, h⟩ := grd_some h
    refine wd_iald (j := 40) (q0 := 2) (t0 := 0) C rfl rfl (inB_in g6) dX5_spread_39 rfl ?_
    refine wd_icmp_ge (j := 43) (t := 82) C dX5_spread_40 (by decide) rfl (fun c7 => ?_) (fun c7 => ?_)
    · replace h := (if_pos c7).symm.trans h
      obtain rfl := Option.some.inj h
      obtain rfl := hk
      refine wd_lv (lv' := [(0, .ref (ad 0)), (1, .int p1)]) [0, 1] rfl ?_
      exact kx
    · replace h := (if_neg c7).symm.trans h
      refine wd_aload_n (j := 44) C 0 dX5_spread_43 rfl rfl rfl ?_
      refine wd_get (j := 47) (q0 := 0) (f := 15) (ci := 5) (v := .ref (ad 11)) C inX5_spread_X5 kX5_spread_1 rfl (by decide) rfl rfl dX5_spread_44 rfl ?_
      refine wd_aload_n (j := 48) C 0 dX5_spread_47 rfl rfl rfl ?_
      refine wd_get (j := 51) (q0 := 0) (f := 4) (ci := 5) (v := .ref (ad 2)) C inX5_spread_X5 kX5_spread_4 rfl (by decide) rfl rfl dX5_spread_48 rfl ?_
      refine wd_bipush (j := 53) (v := 8) C dX5_spread_51 (by decide) rfl ?_
      refine wd_iload_n (j := 54) C 1 dX5_spread_53 rfl rfl rfl ?_
      refine wd_imul (j := 55) C dX5_spread_54 rfl ?_
      refine wd_iload_n (j := 56) C 2 dX5_spread_55 rfl rfl rfl ?_
      refine wd_iadd (j := 57) C dX5_spread_56 rfl ?_
      obtain ⟨g8, h⟩ := grd_some h
      refine wd_iald (j := 58) (q0 := 1) (t0 := 0) C rfl rfl (inB_in g8) dX5_spread_57 rfl ?_
      refine wd_dup2 (j := 59) C dX5_spread_58 rfl rfl rfl ?_
      obtain ⟨g9, h⟩ := grd_some h
      refine wd_dald (j := 60) (q0 := 4) (t0 := 1) C rfl rfl (inB_in g9) dX5_spread_59 rfl ?_
      refine wd_aload_n (j := 61) C 0 dX5_spread_60 rfl rfl rfl ?_
      refine wd_get (j := 64) (q0 := 0) (f := 14) (ci := 5) (v := .ref (ad 10)) C inX5_spread_X5 kX5_spread_5 rfl (by decide) rfl rfl dX5_spread_61 rfl ?_
      refine wd_iload_n (j := 65) C 1 dX5_spread_64 rfl rfl rfl ?_
      obtain ⟨g10, h⟩ := grd_some h
      refine wd_dald (j := 66) (q0 := 3) (t0 := 1) C rfl rfl (inB_in g10) dX5_spread_65 rfl ?_
      refine wd_aload_n (j := 67) C 0 dX5_spread_66 rfl rfl rfl ?_
      refine wd_get (j := 70) (q0 := 0) (f := 5) (ci := 5) (v := .ref (ad 3)) C inX5_spread_X5 kX5_spread_3 rfl (by decide) rfl rfl dX5_spread_67 rfl ?_
      refine wd_iload_n (j := 71) C 1 dX5_spread_70 rfl rfl rfl ?_
      obtain ⟨g11, h⟩ := grd_some h
      refine wd_iald (j := 72) (q0 := 2) (t0 := 0) C rfl rfl (inB_in g11) dX5_spread_71 rfl ?_
      refine wd_i2d (j := 73) C dX5_spread_72 rfl ?_
      obtain ⟨g12, h⟩ := grd_some h
      refine wd_ddiv (j := 74) C dX5_spread_73 (nnB_in g12) rfl ?_
      obtain ⟨g13, h⟩ := grd_some h
      refine wd_dadd (j := 75) C dX5_spread_74 (nnB_in g13) rfl ?_
      obtain ⟨g14, h⟩ := grd_some h
      refine wd_dast (j := 76) (q0 := 4) (t0 := 1) (ws' := (w_X5_spread ad cI cD mlen mnodes mlinks mwk bcode hass kwk hsh tab mdeg chn (vf_upd st.2 (tab (((8 : Int32) * p1) + st.1).toNatClampNeg).toNatClampNeg (FP.dadd (st.2 (tab (((8 : Int32) * p1) + st.1).toNatClampNeg).toNatClampNeg) (FP.ddiv (chn p1.toNatClampNeg) (FP.i2d (mdeg p1.toNatClampNeg))))))) C rfl rfl (inB_in g14) rfl dX5_spread_75 rfl ?_
      refine wd_iinc (j := 79) (lv' := [(2, .int (st.1 + 1)), (0, .ref (ad 0)), (1, .int p1)]) C 2 dX5_spread_76 rfl rfl (by decide) rfl rfl ?_
      refine wd_goto (t := 33) C dX5_spread_79 (by decide) ?_
      obtain rfl := Option.some.inj h
      refine wd_lv (lv' := [(0, .ref (ad 0)), (1, .int p1), (2, .int (st.1 + 1))]) [1, 2, 0] rfl ?_
      exact ih ((st.1 + 1), (vf_upd st.2 (tab (((8 : Int32) * p1) + st.1).toNatClampNeg).toNatClampNeg (FP.dadd (st.2 (tab (((8 : Int32) * p1) + st.1).toNatClampNeg).toNatClampNeg) (FP.ddiv (chn p1.toNatClampNeg) (FP.i2d (mdeg p1.toNatClampNeg)))))) E hk kx
set_option maxRecDepth 100000 in
set_option maxHeartbeats 4000000 in
theorem lw_X5_spread_23 (l : Launch) (D : va_G) (cI cD : ClassId) (ad : Nat → Nat) (N : Nat) (mlen : Int32) (mlinks : Int32) (mwk : Int32) (bcode : Int32) (hass : Int32) (kwk : Int32) (hsh : Int64) (mnodes : Int32) (tab : Nat → Int32) (mdeg : Nat → Int32) (chn : Nat → UInt64)  {p : Program} {e : Env} {s : State} {m : MethodId} {args : Array Value} {below : List Frame} {meth : Method} {c : Code} {A : Nat → Prop} {Q : State → Prop} (C : wd_C p m c cX5_spread 3 s args wsX5_spread RX5 D [(cI, .int), (cD, .double)] A) : ∀ (n : Nat) (st : Int32 × (Nat → UInt64)) (E : (Nat → UInt64)), iter (b_X5_spread_23 N mnodes tab mdeg chn) n st = some E → (Wd p l e { frames := 0, cells := 0, slots := 0, locals := 0 } s m args below meth c 3 D A 0 0 Q 88 [(0, .ref (ad 0))] [] (w_X5_spread ad cI cD mlen mnodes mlinks mwk bcode hass kwk hsh tab mdeg chn E)) → Wd p l e { frames := 0, cells := 0, slots := 0, locals := 0 } s m args below meth c 3 D A 0 0 Q 23 [(0, .ref (ad 0)), (1, .int st.1)] [] (w_X5_spread ad cI cD mlen mnodes mlinks mwk bcode hass kwk hsh tab mdeg chn st.2) := by
  intro n
  induction n with
  | zero => intro st E h; cases h
  | succ n ih =>
    intro st E h kx
    obtain ⟨b, h, hk⟩ := iter_step h
    unfold b_X5_spread_23 at h
    refine wd_iload_n (j := 24) C 1 dX5_spread_23 rfl rfl rfl ?_
    refine wd_aload_n (j := 25) C 0 dX5_spread_24 rfl rfl rfl ?_
    refine wd_get (j := 28) (q0 := 0) (f := 2) (ci := 5) (v := .int mnodes) C inX5_spread_X5 kX5_spread_2 rfl (by decide) rfl rfl dX5_spread_25 rfl ?_
    refine wd_icmp_ge (j := 31) (t := 88) C dX5_spread_28 (by decide) rfl (fun c15 => ?_) (fun c15 => ?_)
    · replace h := (if_pos c15).symm.trans h
      obtain rfl := Option.some.inj h
      obtain rfl := hk
      refine wd_lv (lv' := [(0, .ref (ad 0))]) [0] rfl ?_
      exact kx
    · replace h := (if_neg c15).symm.trans h
      refine wd_iconst (j := 32) (v := 0) C dX5_spread_31 (by decide) rfl ?_
      refine wd_istore_n (j := 33) (lv' := [(2, .int (0 : Int32)), (0, .ref (ad 0)), (1, .int st.1)]) C dX5_spread_32 rfl (by decide) rfl rfl ?_
      refine wd_lv (lv' := [(0, .ref (ad 0)), (1, .int st.1), (2, .int (0 : Int32))]) [1, 2, 0] rfl ?_
      obtain ⟨u16, hu16, h⟩ := bnd_some h
      refine lw_X5_spread_33 l D cI cD ad N mlen mnodes mlinks mwk bcode hass kwk hsh tab mdeg chn st.1 C N ((0 : Int32), st.2) u16 hu16 ?_
      refine wd_iinc (j := 85) (lv' := [(1, .int (st.1 + 1)), (0, .ref (ad 0))]) C 1 dX5_spread_82 rfl rfl (by decide) rfl rfl ?_
      refine wd_goto (t := 23) C dX5_spread_85 (by decide) ?_
      obtain rfl := Option.some.inj h
      refine wd_lv (lv' := [(0, .ref (ad 0)), (1, .int (st.1 + 1))]) [1, 0] rfl ?_
      exact ih ((st.1 + 1), u16) E hk kx
set_option maxRecDepth 100000 in
set_option maxHeartbeats 4000000 in
theorem c_X5_spread (l : Launch) (D : va_G) (cI cD : ClassId) (ad : Nat → Nat) (N : Nat) (mlen : Int32) (mnodes : Int32) (mlinks : Int32) (mwk : Int32) (bcode : Int32) (hass : Int32) (kwk : Int32) (hsh : Int64) (tab : Nat → Int32) (mdeg : Nat → Int32) (chn : Nat → UInt64) (aft : Nat → UInt64)  (u : (Nat → UInt64) × (Nat → UInt64)) (h : f_X5_spread N mnodes tab mdeg chn aft = some u) : MetV l yX5_spread wsX5_spread { frames := 0, cells := 0, slots := 0, locals := 0 } D [(cI, .int), (cD, .double)] [.ref (ad 0)] (w_X5_spread ad cI cD mlen mnodes mlinks mwk bcode hass kwk hsh tab mdeg chn aft) (w_X5_spread ad cI cD mlen mnodes mlinks mwk bcode hass kwk hsh tab mdeg u.1 u.2) := by
  refine MetV.of (own := RX5) (cc := cX5_spread) (nL := 3) (ret := none) (by decide) rfl rfl (Nat.le_of_ble_eq_true rfl) rfl ?_
  intro p e s m args below meth c A hA C hr hlk
  unfold f_X5_spread at h
  refine wd_iconst (j := 1) (v := 0) C dX5_spread_0 (by decide) rfl ?_
  refine wd_istore_n (j := 2) (lv' := [(1, .int (0 : Int32)), (0, .ref (ad 0))]) C dX5_spread_1 rfl (by decide) rfl rfl ?_
  refine wd_lv (lv' := [(0, .ref (ad 0)), (1, .int (0 : Int32))]) [1, 0] rfl ?_
  obtain ⟨u17, hu17, h⟩ := bnd_some h
  refine lw_X5_spread_2 l D cI cD ad N mlen mnodes mlinks mwk bcode hass kwk hsh tab mdeg chn C N ((0 : Int32), aft) u17 hu17 ?_
  refine wd_iconst (j := 22) (v := 0) C dX5_spread_21 (by decide) rfl ?_
  refine wd_istore_n (j := 23) (lv' := [(1, .int (0 : Int32)), (0, .ref (ad 0))]) C dX5_spread_22 rfl (by decide) rfl rfl ?_
  refine wd_lv (lv' := [(0, .ref (ad 0)), (1, .int (0 : Int32))]) [1, 0] rfl ?_
  obtain ⟨u18, hu18, h⟩ := bnd_some h
  refine lw_X5_spread_23 l D cI cD ad N mlen mlinks mwk bcode hass kwk hsh mnodes tab mdeg chn C N ((0 : Int32), u17) u18 hu18 ?_
  refine wd_iconst (j := 89) (v := 0) C dX5_spread_88 (by decide) rfl ?_
  refine wd_istore_n (j := 90) (lv' := [(1, .int (0 : Int32)), (0, .ref (ad 0))]) C dX5_spread_89 rfl (by decide) rfl rfl ?_
  refine wd_lv (lv' := [(0, .ref (ad 0)), (1, .int (0 : Int32))]) [1, 0] rfl ?_
  obtain ⟨u19, hu19, h⟩ := bnd_some h
  refine lw_X5_spread_90 l D cI cD ad N mlen mnodes mlinks mwk bcode hass kwk hsh tab mdeg u18 C N ((0 : Int32), chn) u19 hu19 ?_
  obtain rfl := Option.some.inj h
  exact wd_vret C hA hr hlk rfl dX5_spread_114
abbrev w_Jxe99ae_isNaN_b9ae7  (cI cD : ClassId)  : va_W := []
set_option maxRecDepth 100000 in
set_option maxHeartbeats 4000000 in
theorem c_Jxe99ae_isNaN_b9ae7 (l : Launch) (D : va_G) (cI cD : ClassId)   (p0 : UInt64) (u : Int32) (h : f_Jxe99ae_isNaN_b9ae7 p0 = some u) : MetI l yJxe99ae_isNaN_b9ae7 wsJxe99ae_isNaN_b9ae7 { frames := 0, cells := 0, slots := 0, locals := 0 } D [(cI, .int), (cD, .double)] [.double p0] (w_Jxe99ae_isNaN_b9ae7 cI cD) u (w_Jxe99ae_isNaN_b9ae7 cI cD) := by
  refine MetI.of (own := RJxe99ae) (cc := cJxe99ae_isNaN_b9ae7) (nL := 2) (ret := (some .boolean)) (by decide) rfl rfl (Nat.le_of_ble_eq_true rfl) rfl ?_
  intro p e s m args below meth c A hA C hr hlk
  unfold f_Jxe99ae_isNaN_b9ae7 at h
  refine wd_dload_n (j := 1) C 0 dJxe99ae_isNaN_b9ae7_0 rfl rfl rfl ?_
  refine wd_dload_n (j := 2) C 0 dJxe99ae_isNaN_b9ae7_1 rfl rfl rfl ?_
  refine wd_dcmp (j := 3) C dJxe99ae_isNaN_b9ae7_2 rfl ?_
  refine wd_if_eq (j := 6) (t := 10) C dJxe99ae_isNaN_b9ae7_3 (by decide) rfl (fun c1 => ?_) (fun c1 => ?_)
  · replace h := (if_pos c1).symm.trans h
    refine wd_iconst (j := 11) (v := 0) C dJxe99ae_isNaN_b9ae7_10 (by decide) rfl ?_
    obtain rfl := Option.some.inj h
    exact wd_iret C hA hr hlk rfl rfl rfl dJxe99ae_isNaN_b9ae7_11
  · replace h := (if_neg c1).symm.trans h
    refine wd_iconst (j := 7) (v := 1) C dJxe99ae_isNaN_b9ae7_6 (by decide) rfl ?_
    refine wd_goto (t := 11) C dJxe99ae_isNaN_b9ae7_7 (by decide) ?_
    obtain rfl := Option.some.inj h
    exact wd_iret C hA hr hlk rfl rfl rfl dJxe99ae_isNaN_b9ae7_11
abbrev w_Jxe99ae_doubleToLongBits_ccdee  (cI cD : ClassId)  : va_W := []
theorem kJxe99ae_doubleToLongBits_ccdee_1 : Cond.methodLink "java/lang/Double" 134 ⟨"java/lang/Double", "doubleToRawLongBits", "(D)J"⟩ ∈ wsJxe99ae_doubleToLongBits_ccdee := List.mem_of_getElem? (i := 1) rfl
theorem kJxe99ae_doubleToLongBits_ccdee_2 : Cond.native ⟨"java/lang/Double", "doubleToRawLongBits", "(D)J"⟩ ∈ wsJxe99ae_doubleToLongBits_ccdee := List.mem_of_getElem? (i := 2) rfl
theorem kJxe99ae_doubleToLongBits_ccdee_3 : Cond.static ⟨"java/lang/Double", "doubleToRawLongBits", "(D)J"⟩ ∈ wsJxe99ae_doubleToLongBits_ccdee := List.mem_of_getElem? (i := 3) rfl
theorem kJxe99ae_doubleToLongBits_ccdee_4 : Cond.initialized "java/lang/Double" ∈ wsJxe99ae_doubleToLongBits_ccdee := List.mem_of_getElem? (i := 4) rfl
theorem kJxe99ae_doubleToLongBits_ccdee_5 : Cond.constantLong "java/lang/Double" 137 9221120237041090560 ∈ wsJxe99ae_doubleToLongBits_ccdee := List.mem_of_getElem? (i := 5) rfl
set_option maxRecDepth 100000 in
set_option maxHeartbeats 4000000 in
theorem c_Jxe99ae_doubleToLongBits_ccdee (l : Launch) (D : va_G) (cI cD : ClassId)   (p0 : UInt64) (u : Int64) (h : f_Jxe99ae_doubleToLongBits_ccdee p0 = some u) : MetL l yJxe99ae_doubleToLongBits_ccdee wsJxe99ae_doubleToLongBits_ccdee { frames := 1, cells := 0, slots := 0, locals := 40 } D [(cI, .int), (cD, .double)] [.double p0] (w_Jxe99ae_doubleToLongBits_ccdee cI cD) u (w_Jxe99ae_doubleToLongBits_ccdee cI cD) := by
  refine MetL.of (own := RJxe99ae) (cc := cJxe99ae_doubleToLongBits_ccdee) (nL := 2) (ret := (some .long)) (by decide) rfl rfl (Nat.le_of_ble_eq_true rfl) rfl ?_
  intro p e s m args below meth c A hA C hr hlk
  unfold f_Jxe99ae_doubleToLongBits_ccdee at h
  refine wd_dload_n (j := 1) C 0 dJxe99ae_doubleToLongBits_ccdee_0 rfl rfl rfl ?_
  obtain ⟨u1, hu1, h⟩ := bnd_some h
  refine wd_callSi (j := 4) (As := [.double p0]) (rest := []) (ws' := (w_Jxe99ae_doubleToLongBits_ccdee cI cD)) C (c_Jxe99ae_isNaN_b9ae7 l D cI cD p0 u1 hu1) (va_cwS 1 C.1.2.2.2.2 gJxe99ae_doubleToLongBits_ccdee_Jxe99ae_isNaN_b9ae7 rfl rfl rfl (by decide +kernel) ⟨Nat.le_of_ble_eq_true rfl, Nat.le_of_ble_eq_true rfl⟩) [] [] rfl rfl rfl rfl (by decide) [] rfl rfl rfl (Nat.le_of_ble_eq_true rfl) (Nat.le_of_ble_eq_true rfl) (Nat.le_of_ble_eq_true rfl) dJxe99ae_doubleToLongBits_ccdee_1 rfl ?_
  refine wd_if_ne (j := 7) (t := 12) C dJxe99ae_doubleToLongBits_ccdee_4 (by decide) rfl (fun c2 => ?_) (fun c2 => ?_)
  · replace h := (if_neg c2).symm.trans h
    refine wd_ldc2 (j := 15) C dJxe99ae_doubleToLongBits_ccdee_12 kJxe99ae_doubleToLongBits_ccdee_5 rfl ?_
    obtain rfl := Option.some.inj h
    exact wd_lret C hA hr hlk rfl rfl dJxe99ae_doubleToLongBits_ccdee_15
  · replace h := (if_pos c2).symm.trans h
    refine wd_dload_n (j := 8) C 0 dJxe99ae_doubleToLongBits_ccdee_7 rfl rfl rfl ?_
    refine wd_raw (j := 11) C kJxe99ae_doubleToLongBits_ccdee_1 kJxe99ae_doubleToLongBits_ccdee_2 kJxe99ae_doubleToLongBits_ccdee_3 kJxe99ae_doubleToLongBits_ccdee_4 (Nat.le_of_ble_eq_true rfl) (Nat.le_of_ble_eq_true rfl) dJxe99ae_doubleToLongBits_ccdee_8 rfl ?_
    obtain rfl := Option.some.inj h
    exact wd_lret C hA hr hlk rfl rfl dJxe99ae_doubleToLongBits_ccdee_11
abbrev w_X5_expected (ad : Nat → Nat) (cI cD : ClassId) (mlen : Int32) (mnodes : Int32) (mlinks : Int32) (mwk : Int32) (bcode : Int32) (hass : Int32) (kwk : Int32) (hsh : Int64) (tab : Nat → Int32) (mdeg : Nat → Int32) (chn : Nat → UInt64) (aft : Nat → UInt64) : va_W := [((ad 0), .inr (5, [.int mlen, .ref (ad 1), .int mnodes, .int mlinks, .ref (ad 2), .ref (ad 3), .ref (ad 4), .int mwk, .ref (ad 5), .ref (ad 6), .ref (ad 7), .ref (ad 8), .ref (ad 9), .int bcode, .ref (ad 10), .ref (ad 11), .int hass, .int kwk, .ref (ad 12), .ref (ad 13), .ref (ad 14), .ref (ad 15), .long hsh])), ((ad 2), .inl (cI, 64, .inl tab)), ((ad 3), .inl (cI, 8, .inl mdeg)), ((ad 10), .inl (cD, 8, .inr (.inr (.inr (.inl chn))))), ((ad 11), .inl (cD, 8, .inr (.inr (.inr (.inl aft)))))]
theorem kX5_expected_1 : Cond.fieldLink "RotorRouterModel" 37 "RotorRouterModel" "chance" "[D" ∈ wsX5_expected := List.mem_of_getElem? (i := 1) rfl
theorem inX5_expected_X5 : ∀ w ∈ wsX50, w ∈ wsX5_expected := fun _ h => List.mem_cons_of_mem _ (List.mem_append_right _ h)
set_option maxRecDepth 100000 in
set_option maxHeartbeats 4000000 in
theorem lw_X5_expected_40 (l : Launch) (D : va_G) (cI cD : ClassId) (ad : Nat → Nat) (N : Nat) (mlen : Int32) (mlinks : Int32) (mwk : Int32) (bcode : Int32) (hass : Int32) (kwk : Int32) (hsh : Int64) (mnodes : Int32) (tab : Nat → Int32) (mdeg : Nat → Int32) (p2 : Int32) (p3 : Int32) {p : Program} {e : Env} {s : State} {m : MethodId} {args : Array Value} {below : List Frame} {meth : Method} {c : Code} {A : Nat → Prop} {Q : State → Prop} (C : wd_C p m c cX5_expected 7 s args wsX5_expected RX5 D [(cI, .int), (cD, .double)] A) : ∀ (n : Nat) (st : UInt64 × Int32 × (Nat → UInt64) × (Nat → UInt64)) (E : UInt64 × (Nat → UInt64) × (Nat → UInt64)), iter (b_X5_expected_40 N mnodes tab mdeg p2 p3) n st = some E → (Wd p l e { frames := 2, cells := 0, slots := 0, locals := 61 } s m args below meth c 7 D A 0 0 Q 67 [(4, .double E.1)] [] (w_X5_expected ad cI cD mlen mnodes mlinks mwk bcode hass kwk hsh tab mdeg E.2.1 E.2.2)) → Wd p l e { frames := 2, cells := 0, slots := 0, locals := 61 } s m args below meth c 7 D A 0 0 Q 40 [(0, .ref (ad 0)), (2, .int p2), (3, .int p3), (4, .double st.1), (6, .int st.2.1)] [] (w_X5_expected ad cI cD mlen mnodes mlinks mwk bcode hass kwk hsh tab mdeg st.2.2.1 st.2.2.2) := by
  intro n
  induction n with
  | zero => intro st E h; cases h
  | succ n ih =>
    intro st E h kx
    obtain ⟨b, h, hk⟩ := iter_step h
    unfold b_X5_expected_40 at h
    refine wd_iload (j := 42) C 4 dX5_expected_40 rfl rfl ?_
    refine wd_iload_n (j := 43) C 1 dX5_expected_42 rfl rfl rfl ?_
    refine wd_icmp_ge (j := 46) (t := 67) C dX5_expected_43 (by decide) rfl (fun c1 => ?_) (fun c1 => ?_)
    · replace h := (if_pos c1).symm.trans h
      obtain rfl := Option.some.inj h
      obtain rfl := hk
      refine wd_lv (lv' := [(4, .double st.1)]) [3] rfl ?_
      exact kx
    · replace h := (if_neg c1).symm.trans h
      refine wd_aload_n (j := 47) C 0 dX5_expected_46 rfl rfl rfl ?_
      obtain ⟨u2, hu2, h⟩ := bnd_some h
      refine wd_callVv (j := 50) (q0 := 0) (ci := 5) (As := []) (rest := []) (ws' := (w_X5_expected ad cI cD mlen mnodes mlinks mwk bcode hass kwk hsh tab mdeg u2.1 u2.2)) C (c_X5_spread l D cI cD ad N mlen mnodes mlinks mwk bcode hass kwk hsh tab mdeg st.2.2.1 st.2.2.2 u2 hu2) (cwV 0 C.1.2.2.2.2 gX5_expected_X5_spread rfl rfl rfl (by decide +kernel) ⟨Nat.le_of_ble_eq_true rfl, Nat.le_of_ble_eq_true rfl⟩) rfl rfl [0, 1, 2, 3, 4] [] rfl rfl rfl rfl (by decide) [0, 1, 2, 3, 4] rfl rfl rfl (Nat.le_of_ble_eq_true rfl) (Nat.le_of_ble_eq_true rfl) (Nat.le_of_ble_eq_true rfl) dX5_expected_47 rfl ?_
      refine wd_dload (j := 52) C 3 dX5_expected_50 rfl rfl ?_
      refine wd_aload_n (j := 53) C 0 dX5_expected_52 rfl rfl rfl ?_
      refine wd_get (j := 56) (q0 := 0) (f := 14) (ci := 5) (v := .ref (ad 10)) C inX5_expected_X5 kX5_expected_1 rfl (by decide) rfl rfl dX5_expected_53 rfl ?_
      refine wd_iload_n (j := 57) C 2 dX5_expected_56 rfl rfl rfl ?_
      obtain ⟨g3, h⟩ := grd_some h
      refine wd_dald (j := 58) (q0 := 3) (t0 := 1) C rfl rfl (inB_in g3) dX5_expected_57 rfl ?_
      obtain ⟨g4, h⟩ := grd_some h
      refine wd_dadd (j := 59) C dX5_expected_58 (nnB_in g4) rfl ?_
      refine wd_dstore (j := 61) (lv' := [(4, .double (FP.dadd st.1 (u2.1 p3.toNatClampNeg))), (0, .ref (ad 0)), (2, .int p2), (3, .int p3), (6, .int st.2.1)]) C dX5_expected_59 (by decide) rfl rfl ?_
      refine wd_iinc (j := 64) (lv' := [(6, .int (st.2.1 + 1)), (4, .double (FP.dadd st.1 (u2.1 p3.toNatClampNeg))), (0, .ref (ad 0)), (2, .int p2), (3, .int p3)]) C 4 dX5_expected_61 rfl rfl (by decide) rfl rfl ?_
      refine wd_goto (t := 40) C dX5_expected_64 (by decide) ?_
      obtain rfl := Option.some.inj h
      refine wd_lv (lv' := [(0, .ref (ad 0)), (2, .int p2), (3, .int p3), (4, .double (FP.dadd st.1 (u2.1 p3.toNatClampNeg))), (6, .int (st.2.1 + 1))]) [2, 3, 4, 1, 0] rfl ?_
      exact ih ((FP.dadd st.1 (u2.1 p3.toNatClampNeg)), (st.2.1 + 1), u2.1, u2.2) E hk kx
set_option maxRecDepth 100000 in
set_option maxHeartbeats 4000000 in
theorem lw_X5_expected_3 (l : Launch) (D : va_G) (cI cD : ClassId) (ad : Nat → Nat) (N : Nat) (mlen : Int32) (mnodes : Int32) (mlinks : Int32) (mwk : Int32) (bcode : Int32) (hass : Int32) (kwk : Int32) (hsh : Int64) (tab : Nat → Int32) (mdeg : Nat → Int32) (aft : Nat → UInt64) (p1 : Int32) (p2 : Int32) (p3 : Int32) {p : Program} {e : Env} {s : State} {m : MethodId} {args : Array Value} {below : List Frame} {meth : Method} {c : Code} {A : Nat → Prop} {Q : State → Prop} (C : wd_C p m c cX5_expected 7 s args wsX5_expected RX5 D [(cI, .int), (cD, .double)] A) : ∀ (n : Nat) (st : Int32 × (Nat → UInt64)) (E : (Nat → UInt64)), iter (b_X5_expected_3 p1) n st = some E → (Wd p l e { frames := 2, cells := 0, slots := 0, locals := 61 } s m args below meth c 7 D A 0 0 Q 34 [(0, .ref (ad 0)), (2, .int p2), (3, .int p3)] [] (w_X5_expected ad cI cD mlen mnodes mlinks mwk bcode hass kwk hsh tab mdeg E aft)) → Wd p l e { frames := 2, cells := 0, slots := 0, locals := 61 } s m args below meth c 7 D A 0 0 Q 3 [(0, .ref (ad 0)), (1, .int p1), (2, .int p2), (3, .int p3), (4, .int st.1)] [] (w_X5_expected ad cI cD mlen mnodes mlinks mwk bcode hass kwk hsh tab mdeg st.2 aft) := by
  intro n
  induction n with
  | zero => intro st E h; cases h
  | succ n ih =>
    intro st E h kx
    obtain ⟨b, h, hk⟩ := iter_step h
    unfold b_X5_expected_3 at h
    refine wd_iload (j := 5) C 4 dX5_expected_3 rfl rfl ?_
    refine wd_bipush (j := 7) (v := 8) C dX5_expected_5 (by decide) rfl ?_
    refine wd_icmp_ge (j := 10) (t := 34) C dX5_expected_7 (by decide) rfl (fun c5 => ?_) (fun c5 => ?_)
    · replace h := (if_pos c5).symm.trans h
      obtain rfl := Option.some.inj h
      obtain rfl := hk
      refine wd_lv (lv' := [(0, .ref (ad 0)), (2, .int p2), (3, .int p3)]) [0, 2, 3] rfl ?_
      exact kx
    · replace h := (if_neg c5).symm.trans h
      refine wd_aload_n (j := 11) C 0 dX5_expected_10 rfl rfl rfl ?_
      refine wd_get (j := 14) (q0 := 0) (f := 14) (ci := 5) (v := .ref (ad 10)) C inX5_expected_X5 kX5_expected_1 rfl (by decide) rfl rfl dX5_expected_11 rfl ?_
      refine wd_iload (j := 16) C 4 dX5_expected_14 rfl rfl ?_
      refine wd_iload (j := 18) C 4 dX5_expected_16 rfl rfl ?_
      refine wd_iload_n (j := 19) C 1 dX5_expected_18 rfl rfl rfl ?_
      refine wd_icmp_ne (j := 22) (t := 26) C dX5_expected_19 (by decide) rfl (fun c6 => ?_) (fun c6 => ?_)
      · replace h := (if_neg c6).symm.trans h
        refine wd_dconst0 (j := 27) C dX5_expected_26 rfl ?_
        obtain ⟨g7, h⟩ := grd_some h
        refine wd_dast (j := 28) (q0 := 3) (t0 := 1) (ws' := (w_X5_expected ad cI cD mlen mnodes mlinks mwk bcode hass kwk hsh tab mdeg (vf_upd st.2 st.1.toNatClampNeg FP.dconst0) aft)) C rfl rfl (inB_in g7) rfl dX5_expected_27 rfl ?_
        refine wd_iinc (j := 31) (lv' := [(4, .int (st.1 + 1)), (0, .ref (ad 0)), (1, .int p1), (2, .int p2), (3, .int p3)]) C 4 dX5_expected_28 rfl rfl (by decide) rfl rfl ?_
        refine wd_goto (t := 3) C dX5_expected_31 (by decide) ?_
        obtain rfl := Option.some.inj h
        refine wd_lv (lv' := [(0, .ref (ad 0)), (1, .int p1), (2, .int p2), (3, .int p3), (4, .int (st.1 + 1))]) [1, 2, 3, 4, 0] rfl ?_
        exact ih ((st.1 + 1), (vf_upd st.2 st.1.toNatClampNeg FP.dconst0)) E hk kx
      · replace h := (if_pos c6).symm.trans h
        refine wd_dconst1 (j := 23) C dX5_expected_22 rfl ?_
        refine wd_goto (t := 27) C dX5_expected_23 (by decide) ?_
        obtain ⟨g8, h⟩ := grd_some h
        refine wd_dast (j := 28) (q0 := 3) (t0 := 1) (ws' := (w_X5_expected ad cI cD mlen mnodes mlinks mwk bcode hass kwk hsh tab mdeg (vf_upd st.2 st.1.toNatClampNeg FP.dconst1) aft)) C rfl rfl (inB_in g8) rfl dX5_expected_27 rfl ?_
        refine wd_iinc (j := 31) (lv' := [(4, .int (st.1 + 1)), (0, .ref (ad 0)), (1, .int p1), (2, .int p2), (3, .int p3)]) C 4 dX5_expected_28 rfl rfl (by decide) rfl rfl ?_
        refine wd_goto (t := 3) C dX5_expected_31 (by decide) ?_
        obtain rfl := Option.some.inj h
        refine wd_lv (lv' := [(0, .ref (ad 0)), (1, .int p1), (2, .int p2), (3, .int p3), (4, .int (st.1 + 1))]) [1, 2, 3, 4, 0] rfl ?_
        exact ih ((st.1 + 1), (vf_upd st.2 st.1.toNatClampNeg FP.dconst1)) E hk kx
set_option maxRecDepth 100000 in
set_option maxHeartbeats 4000000 in
theorem c_X5_expected (l : Launch) (D : va_G) (cI cD : ClassId) (ad : Nat → Nat) (N : Nat) (mlen : Int32) (mnodes : Int32) (mlinks : Int32) (mwk : Int32) (bcode : Int32) (hass : Int32) (kwk : Int32) (hsh : Int64) (tab : Nat → Int32) (mdeg : Nat → Int32) (chn : Nat → UInt64) (aft : Nat → UInt64) (p1 : Int32) (p2 : Int32) (p3 : Int32) (u : Int64 × (Nat → UInt64) × (Nat → UInt64)) (h : f_X5_expected N mnodes tab mdeg chn aft p1 p2 p3 = some u) : MetL l yX5_expected wsX5_expected { frames := 2, cells := 0, slots := 0, locals := 61 } D [(cI, .int), (cD, .double)] [.ref (ad 0), .int p1, .int p2, .int p3] (w_X5_expected ad cI cD mlen mnodes mlinks mwk bcode hass kwk hsh tab mdeg chn aft) u.1 (w_X5_expected ad cI cD mlen mnodes mlinks mwk bcode hass kwk hsh tab mdeg u.2.1 u.2.2) := by
  refine MetL.of (own := RX5) (cc := cX5_expected) (nL := 7) (ret := (some .long)) (by decide) rfl rfl (Nat.le_of_ble_eq_true rfl) rfl ?_
  intro p e s m args below meth c A hA C hr hlk
  unfold f_X5_expected at h
  refine wd_iconst (j := 1) (v := 0) C dX5_expected_0 (by decide) rfl ?_
  refine wd_istore (j := 3) (lv' := [(4, .int (0 : Int32)), (0, .ref (ad 0)), (1, .int p1), (2, .int p2), (3, .int p3)]) C dX5_expected_1 (by decide) rfl rfl ?_
  refine wd_lv (lv' := [(0, .ref (ad 0)), (1, .int p1), (2, .int p2), (3, .int p3), (4, .int (0 : Int32))]) [1, 2, 3, 4, 0] rfl ?_
  obtain ⟨u9, hu9, h⟩ := bnd_some h
  refine lw_X5_expected_3 l D cI cD ad N mlen mnodes mlinks mwk bcode hass kwk hsh tab mdeg aft p1 p2 p3 C N ((0 : Int32), chn) u9 hu9 ?_
  refine wd_dconst0 (j := 35) C dX5_expected_34 rfl ?_
  refine wd_dstore (j := 37) (lv' := [(4, .double FP.dconst0), (0, .ref (ad 0)), (2, .int p2), (3, .int p3)]) C dX5_expected_35 (by decide) rfl rfl ?_
  refine wd_iconst (j := 38) (v := 0) C dX5_expected_37 (by decide) rfl ?_
  refine wd_istore (j := 40) (lv' := [(6, .int (0 : Int32)), (4, .double FP.dconst0), (0, .ref (ad 0)), (2, .int p2), (3, .int p3)]) C dX5_expected_38 (by decide) rfl rfl ?_
  refine wd_lv (lv' := [(0, .ref (ad 0)), (2, .int p2), (3, .int p3), (4, .double FP.dconst0), (6, .int (0 : Int32))]) [2, 3, 4, 1, 0] rfl ?_
  obtain ⟨u10, hu10, h⟩ := bnd_some h
  refine lw_X5_expected_40 l D cI cD ad N mlen mlinks mwk bcode hass kwk hsh mnodes tab mdeg p2 p3 C N (FP.dconst0, (0 : Int32), u9, aft) u10 hu10 ?_
  refine wd_dload (j := 69) C 0 dX5_expected_67 rfl rfl ?_
  obtain ⟨u11, hu11, h⟩ := bnd_some h
  refine wd_callSl (j := 72) (As := [.double u10.1]) (rest := []) (ws' := (w_X5_expected ad cI cD mlen mnodes mlinks mwk bcode hass kwk hsh tab mdeg u10.2.1 u10.2.2)) C (c_Jxe99ae_doubleToLongBits_ccdee l D cI cD u10.1 u11 hu11) (va_cwS 1 C.1.2.2.2.2 gX5_expected_Jxe99ae_doubleToLongBits_ccdee rfl rfl rfl (by decide +kernel) ⟨Nat.le_of_ble_eq_true rfl, Nat.le_of_ble_eq_true rfl⟩) [] [0, 1, 2, 3, 4] rfl rfl rfl rfl (by decide) [0, 1, 2, 3, 4] rfl rfl rfl (Nat.le_of_ble_eq_true rfl) (Nat.le_of_ble_eq_true rfl) (Nat.le_of_ble_eq_true rfl) dX5_expected_69 rfl ?_
  obtain rfl := Option.some.inj h
  exact wd_lret C hA hr hlk rfl rfl dX5_expected_72
abbrev w_X5_expectedArrivals (ad : Nat → Nat) (cI cD : ClassId) (mlen : Int32) (mnodes : Int32) (mlinks : Int32) (mwk : Int32) (bcode : Int32) (hass : Int32) (kwk : Int32) (hsh : Int64) (tab : Nat → Int32) (mdeg : Nat → Int32) (chn : Nat → UInt64) (aft : Nat → UInt64) : va_W := [((ad 0), .inr (5, [.int mlen, .ref (ad 1), .int mnodes, .int mlinks, .ref (ad 2), .ref (ad 3), .ref (ad 4), .int mwk, .ref (ad 5), .ref (ad 6), .ref (ad 7), .ref (ad 8), .ref (ad 9), .int bcode, .ref (ad 10), .ref (ad 11), .int hass, .int kwk, .ref (ad 12), .ref (ad 13), .ref (ad 14), .ref (ad 15), .long hsh])), ((ad 2), .inl (cI, 64, .inl tab)), ((ad 3), .inl (cI, 8, .inl mdeg)), ((ad 10), .inl (cD, 8, .inr (.inr (.inr (.inl chn))))), ((ad 11), .inl (cD, 8, .inr (.inr (.inr (.inl aft)))))]
theorem kX5_expectedArrivals_1 : Cond.constantLong "RotorRouterModel" 159 (-4) ∈ wsX5_expectedArrivals := List.mem_of_getElem? (i := 1) rfl
theorem kX5_expectedArrivals_2 : Cond.constantLong "RotorRouterModel" 165 (-6) ∈ wsX5_expectedArrivals := List.mem_of_getElem? (i := 2) rfl
set_option maxRecDepth 100000 in
set_option maxHeartbeats 4000000 in
theorem c_X5_expectedArrivals (l : Launch) (D : va_G) (cI cD : ClassId) (ad : Nat → Nat) (N : Nat) (mlen : Int32) (mnodes : Int32) (mlinks : Int32) (mwk : Int32) (bcode : Int32) (hass : Int32) (kwk : Int32) (hsh : Int64) (tab : Nat → Int32) (mdeg : Nat → Int32) (chn : Nat → UInt64) (aft : Nat → UInt64) (p1 : Int32) (p2 : Int32) (p3 : Int32) (u : Int64 × (Nat → UInt64) × (Nat → UInt64)) (h : f_X5_expectedArrivals N mnodes tab mdeg chn aft p1 p2 p3 = some u) : MetL l yX5_expectedArrivals wsX5_expectedArrivals { frames := 3, cells := 0, slots := 0, locals := 87 } D [(cI, .int), (cD, .double)] [.ref (ad 0), .int p1, .int p2, .int p3] (w_X5_expectedArrivals ad cI cD mlen mnodes mlinks mwk bcode hass kwk hsh tab mdeg chn aft) u.1 (w_X5_expectedArrivals ad cI cD mlen mnodes mlinks mwk bcode hass kwk hsh tab mdeg u.2.1 u.2.2) := by
  refine MetL.of (own := RX5) (cc := cX5_expectedArrivals) (nL := 4) (ret := (some .long)) (by decide) rfl rfl (Nat.le_of_ble_eq_true rfl) rfl ?_
  intro p e s m args below meth c A hA C hr hlk
  unfold f_X5_expectedArrivals at h
  refine wd_aload_n (j := 1) C 0 dX5_expectedArrivals_0 rfl rfl rfl ?_
  refine wd_iload_n (j := 2) C 1 dX5_expectedArrivals_1 rfl rfl rfl ?_
  obtain ⟨u1, hu1, h⟩ := bnd_some h
  refine wd_callVi (j := 5) (q0 := 0) (ci := 5) (As := [.int p1]) (rest := []) (ws' := (w_X5_expectedArrivals ad cI cD mlen mnodes mlinks mwk bcode hass kwk hsh tab mdeg chn aft)) C (c_X5_isNode l D cI cD ad mlen mnodes mlinks mwk bcode hass kwk hsh p1 u1 hu1) (cwV 1 C.1.2.2.2.2 gX5_expectedArrivals_X5_isNode rfl rfl rfl (by decide +kernel) ⟨Nat.le_of_ble_eq_true rfl, Nat.le_of_ble_eq_true rfl⟩) rfl rfl [0] [1, 2, 3, 4] rfl rfl rfl rfl (by decide) [4, 0, 1, 2, 3] rfl rfl rfl (Nat.le_of_ble_eq_true rfl) (Nat.le_of_ble_eq_true rfl) (Nat.le_of_ble_eq_true rfl) dX5_expectedArrivals_2 rfl ?_
  refine wd_if_eq (j := 8) (t := 16) C dX5_expectedArrivals_5 (by decide) rfl (fun c2 => ?_) (fun c2 => ?_)
  · replace h := (if_pos c2).symm.trans h
    refine wd_ldc2 (j := 19) C dX5_expectedArrivals_16 kX5_expectedArrivals_1 rfl ?_
    obtain rfl := Option.some.inj h
    exact wd_lret C hA hr hlk rfl rfl dX5_expectedArrivals_19
  · replace h := (if_neg c2).symm.trans h
    refine wd_aload_n (j := 9) C 0 dX5_expectedArrivals_8 rfl rfl rfl ?_
    refine wd_iload_n (j := 10) C 3 dX5_expectedArrivals_9 rfl rfl rfl ?_
    obtain ⟨u3, hu3, h⟩ := bnd_some h
    refine wd_callVi (j := 13) (q0 := 0) (ci := 5) (As := [.int p3]) (rest := []) (ws' := (w_X5_expectedArrivals ad cI cD mlen mnodes mlinks mwk bcode hass kwk hsh tab mdeg chn aft)) C (c_X5_isNode l D cI cD ad mlen mnodes mlinks mwk bcode hass kwk hsh p3 u3 hu3) (cwV 1 C.1.2.2.2.2 gX5_expectedArrivals_X5_isNode rfl rfl rfl (by decide +kernel) ⟨Nat.le_of_ble_eq_true rfl, Nat.le_of_ble_eq_true rfl⟩) rfl rfl [0] [1, 2, 3, 4] rfl rfl rfl rfl (by decide) [4, 0, 1, 2, 3] rfl rfl rfl (Nat.le_of_ble_eq_true rfl) (Nat.le_of_ble_eq_true rfl) (Nat.le_of_ble_eq_true rfl) dX5_expectedArrivals_10 rfl ?_
    refine wd_if_ne (j := 16) (t := 20) C dX5_expectedArrivals_13 (by decide) rfl (fun c4 => ?_) (fun c4 => ?_)
    · replace h := (if_neg c4).symm.trans h
      refine wd_iload_n (j := 21) C 2 dX5_expectedArrivals_20 rfl rfl rfl ?_
      refine wd_iconst (j := 22) (v := 0) C dX5_expectedArrivals_21 (by decide) rfl ?_
      refine wd_bipush (j := 24) (v := 50) C dX5_expectedArrivals_22 (by decide) rfl ?_
      obtain ⟨u5, hu5, h⟩ := bnd_some h
      refine wd_callSi (j := 27) (As := [.int p2, .int (0 : Int32), .int (50 : Int32)]) (rest := []) (ws' := (w_X5_expectedArrivals ad cI cD mlen mnodes mlinks mwk bcode hass kwk hsh tab mdeg chn aft)) C (c_X5_within l D cI cD ad p2 (0 : Int32) (50 : Int32) u5 hu5) (va_cwS 3 C.1.2.2.2.2 gX5_expectedArrivals_X5_within rfl rfl rfl (by decide +kernel) ⟨Nat.le_of_ble_eq_true rfl, Nat.le_of_ble_eq_true rfl⟩) [] [0, 1, 2, 3, 4] rfl rfl rfl rfl (by decide) [0, 1, 2, 3, 4] rfl rfl rfl (Nat.le_of_ble_eq_true rfl) (Nat.le_of_ble_eq_true rfl) (Nat.le_of_ble_eq_true rfl) dX5_expectedArrivals_24 rfl ?_
      refine wd_if_eq (j := 30) (t := 40) C dX5_expectedArrivals_27 (by decide) rfl (fun c6 => ?_) (fun c6 => ?_)
      · replace h := (if_pos c6).symm.trans h
        refine wd_ldc2 (j := 43) C dX5_expectedArrivals_40 kX5_expectedArrivals_2 rfl ?_
        obtain rfl := Option.some.inj h
        exact wd_lret C hA hr hlk rfl rfl dX5_expectedArrivals_43
      · replace h := (if_neg c6).symm.trans h
        refine wd_aload_n (j := 31) C 0 dX5_expectedArrivals_30 rfl rfl rfl ?_
        refine wd_iload_n (j := 32) C 1 dX5_expectedArrivals_31 rfl rfl rfl ?_
        refine wd_iload_n (j := 33) C 2 dX5_expectedArrivals_32 rfl rfl rfl ?_
        refine wd_iload_n (j := 34) C 3 dX5_expectedArrivals_33 rfl rfl rfl ?_
        obtain ⟨u7, hu7, h⟩ := bnd_some h
        refine wd_callVl (j := 37) (q0 := 0) (ci := 5) (As := [.int p1, .int p2, .int p3]) (rest := []) (ws' := (w_X5_expectedArrivals ad cI cD mlen mnodes mlinks mwk bcode hass kwk hsh tab mdeg u7.2.1 u7.2.2)) C (c_X5_expected l D cI cD ad N mlen mnodes mlinks mwk bcode hass kwk hsh tab mdeg chn aft p1 p2 p3 u7 hu7) (cwV 3 C.1.2.2.2.2 gX5_expectedArrivals_X5_expected rfl rfl rfl (by decide +kernel) ⟨Nat.le_of_ble_eq_true rfl, Nat.le_of_ble_eq_true rfl⟩) rfl rfl [0, 1, 2, 3, 4] [] rfl rfl rfl rfl (by decide) [0, 1, 2, 3, 4] rfl rfl rfl (Nat.le_of_ble_eq_true rfl) (Nat.le_of_ble_eq_true rfl) (Nat.le_of_ble_eq_true rfl) dX5_expectedArrivals_34 rfl ?_
        refine wd_goto (t := 43) C dX5_expectedArrivals_37 (by decide) ?_
        obtain rfl := Option.some.inj h
        exact wd_lret C hA hr hlk rfl rfl dX5_expectedArrivals_43
    · replace h := (if_pos c4).symm.trans h
      refine wd_ldc2 (j := 19) C dX5_expectedArrivals_16 kX5_expectedArrivals_1 rfl ?_
      obtain rfl := Option.some.inj h
      exact wd_lret C hA hr hlk rfl rfl dX5_expectedArrivals_19
abbrev w_X5_snapshot (ad : Nat → Nat) (cI cD : ClassId) (mlen : Int32) (mnodes : Int32) (mlinks : Int32) (mwk : Int32) (bcode : Int32) (hass : Int32) (kwk : Int32) (hsh : Int64) (mrot : Nat → Int32) (plc : Nat → Int32) (marr : Nat → Int32) (mdep : Nat → Int32) (krot : Nat → Int32) (kplc : Nat → Int32) (karr : Nat → Int32) (kdep : Nat → Int32) : va_W := [((ad 0), .inr (5, [.int mlen, .ref (ad 1), .int mnodes, .int mlinks, .ref (ad 2), .ref (ad 3), .ref (ad 4), .int mwk, .ref (ad 5), .ref (ad 6), .ref (ad 7), .ref (ad 8), .ref (ad 9), .int bcode, .ref (ad 10), .ref (ad 11), .int hass, .int kwk, .ref (ad 12), .ref (ad 13), .ref (ad 14), .ref (ad 15), .long hsh])), ((ad 4), .inl (cI, 8, .inl mrot)), ((ad 5), .inl (cI, 4, .inl plc)), ((ad 6), .inl (cI, 8, .inl marr)), ((ad 7), .inl (cI, 64, .inl mdep)), ((ad 12), .inl (cI, 8, .inl krot)), ((ad 13), .inl (cI, 4, .inl kplc)), ((ad 14), .inl (cI, 8, .inl karr)), ((ad 15), .inl (cI, 64, .inl kdep))]
theorem kX5_snapshot_1 : Cond.fieldLink "RotorRouterModel" 82 "RotorRouterModel" "nodes" "I" ∈ wsX5_snapshot := List.mem_of_getElem? (i := 1) rfl
theorem kX5_snapshot_2 : Cond.fieldLink "RotorRouterModel" 95 "RotorRouterModel" "hasSnapshot" "Z" ∈ wsX5_snapshot := List.mem_of_getElem? (i := 2) rfl
theorem kX5_snapshot_3 : Cond.fieldLink "RotorRouterModel" 92 "RotorRouterModel" "walkers" "I" ∈ wsX5_snapshot := List.mem_of_getElem? (i := 3) rfl
theorem kX5_snapshot_4 : Cond.fieldLink "RotorRouterModel" 167 "RotorRouterModel" "keptWalkers" "I" ∈ wsX5_snapshot := List.mem_of_getElem? (i := 4) rfl
theorem kX5_snapshot_5 : Cond.fieldLink "RotorRouterModel" 19 "RotorRouterModel" "rotors" "[I" ∈ wsX5_snapshot := List.mem_of_getElem? (i := 5) rfl
theorem kX5_snapshot_6 : Cond.fieldLink "RotorRouterModel" 44 "RotorRouterModel" "keptRotors" "[I" ∈ wsX5_snapshot := List.mem_of_getElem? (i := 6) rfl
theorem kX5_snapshot_7 : Cond.fieldLink "RotorRouterModel" 25 "RotorRouterModel" "arrived" "[I" ∈ wsX5_snapshot := List.mem_of_getElem? (i := 7) rfl
theorem kX5_snapshot_8 : Cond.fieldLink "RotorRouterModel" 50 "RotorRouterModel" "keptArrived" "[I" ∈ wsX5_snapshot := List.mem_of_getElem? (i := 8) rfl
theorem kX5_snapshot_9 : Cond.fieldLink "RotorRouterModel" 47 "RotorRouterModel" "keptPlaces" "[I" ∈ wsX5_snapshot := List.mem_of_getElem? (i := 9) rfl
theorem kX5_snapshot_10 : Cond.fieldLink "RotorRouterModel" 22 "RotorRouterModel" "places" "[I" ∈ wsX5_snapshot := List.mem_of_getElem? (i := 10) rfl
theorem kX5_snapshot_11 : Cond.fieldLink "RotorRouterModel" 53 "RotorRouterModel" "keptDeparted" "[I" ∈ wsX5_snapshot := List.mem_of_getElem? (i := 11) rfl
theorem kX5_snapshot_12 : Cond.fieldLink "RotorRouterModel" 28 "RotorRouterModel" "departed" "[I" ∈ wsX5_snapshot := List.mem_of_getElem? (i := 12) rfl
theorem inX5_snapshot_X5 : ∀ w ∈ wsX50, w ∈ wsX5_snapshot := fun _ h => List.mem_cons_of_mem _ (List.mem_append_right _ h)
set_option maxRecDepth 100000 in
set_option maxHeartbeats 4000000 in
theorem lw_X5_snapshot_49 (l : Launch) (D : va_G) (cI cD : ClassId) (ad : Nat → Nat) (N : Nat) (mlen : Int32) (mnodes : Int32) (mlinks : Int32) (mwk : Int32) (bcode : Int32) (hass : Int32) (kwk : Int32) (hsh : Int64) (mrot : Nat → Int32) (marr : Nat → Int32) (mdep : Nat → Int32) (krot : Nat → Int32) (karr : Nat → Int32) (kdep : Nat → Int32) (plc : Nat → Int32)  {p : Program} {e : Env} {s : State} {m : MethodId} {args : Array Value} {below : List Frame} {meth : Method} {c : Code} {A : Nat → Prop} {Q : State → Prop} (C : wd_C p m c cX5_snapshot 2 s args wsX5_snapshot RX5 D [(cI, .int), (cD, .double)] A) : ∀ (n : Nat) (st : Int32 × (Nat → Int32)) (E : (Nat → Int32)), iter (b_X5_snapshot_49 plc) n st = some E → (Wd p l e { frames := 1, cells := 0, slots := 0, locals := 23 } s m args below meth c 2 D A 0 0 Q 72 [(0, .ref (ad 0))] [] (w_X5_snapshot ad cI cD mlen mnodes mlinks mwk bcode hass kwk hsh mrot plc marr mdep krot E karr kdep)) → Wd p l e { frames := 1, cells := 0, slots := 0, locals := 23 } s m args below meth c 2 D A 0 0 Q 49 [(0, .ref (ad 0)), (1, .int st.1)] [] (w_X5_snapshot ad cI cD mlen mnodes mlinks mwk bcode hass kwk hsh mrot plc marr mdep krot st.2 karr kdep) := by
  intro n
  induction n with
  | zero => intro st E h; cases h
  | succ n ih =>
    intro st E h kx
    obtain ⟨b, h, hk⟩ := iter_step h
    unfold b_X5_snapshot_49 at h
    refine wd_iload_n (j := 50) C 1 dX5_snapshot_49 rfl rfl rfl ?_
    refine wd_iconst (j := 51) (v := 4) C dX5_snapshot_50 (by decide) rfl ?_
    refine wd_icmp_ge (j := 54) (t := 72) C dX5_snapshot_51 (by decide) rfl (fun c1 => ?_) (fun c1 => ?_)
    · replace h := (if_pos c1).symm.trans h
      obtain rfl := Option.some.inj h
      obtain rfl := hk
      refine wd_lv (lv' := [(0, .ref (ad 0))]) [0] rfl ?_
      exact kx
    · replace h := (if_neg c1).symm.trans h
      refine wd_aload_n (j := 55) C 0 dX5_snapshot_54 rfl rfl rfl ?_
      refine wd_get (j := 58) (q0 := 0) (f := 19) (ci := 5) (v := .ref (ad 13)) C inX5_snapshot_X5 kX5_snapshot_9 rfl (by decide) rfl rfl dX5_snapshot_55 rfl ?_
      refine wd_iload_n (j := 59) C 1 dX5_snapshot_58 rfl rfl rfl ?_
      refine wd_aload_n (j := 60) C 0 dX5_snapshot_59 rfl rfl rfl ?_
      refine wd_get (j := 63) (q0 := 0) (f := 8) (ci := 5) (v := .ref (ad 5)) C inX5_snapshot_X5 kX5_snapshot_10 rfl (by decide) rfl rfl dX5_snapshot_60 rfl ?_
      refine wd_iload_n (j := 64) C 1 dX5_snapshot_63 rfl rfl rfl ?_
      obtain ⟨g2, h⟩ := grd_some h
      refine wd_iald (j := 65) (q0 := 2) (t0 := 0) C rfl rfl (inB_in g2) dX5_snapshot_64 rfl ?_
      obtain ⟨g3, h⟩ := grd_some h
      refine wd_iast (j := 66) (q0 := 6) (t0 := 0) (ws' := (w_X5_snapshot ad cI cD mlen mnodes mlinks mwk bcode hass kwk hsh mrot plc marr mdep krot (upd st.2 st.1.toNatClampNeg (plc st.1.toNatClampNeg)) karr kdep)) C rfl rfl (inB_in g3) rfl dX5_snapshot_65 rfl ?_
      refine wd_iinc (j := 69) (lv' := [(1, .int (st.1 + 1)), (0, .ref (ad 0))]) C 1 dX5_snapshot_66 rfl rfl (by decide) rfl rfl ?_
      refine wd_goto (t := 49) C dX5_snapshot_69 (by decide) ?_
      obtain rfl := Option.some.inj h
      refine wd_lv (lv' := [(0, .ref (ad 0)), (1, .int (st.1 + 1))]) [1, 0] rfl ?_
      exact ih ((st.1 + 1), (upd st.2 st.1.toNatClampNeg (plc st.1.toNatClampNeg))) E hk kx
set_option maxRecDepth 100000 in
set_option maxHeartbeats 4000000 in
theorem lw_X5_snapshot_74 (l : Launch) (D : va_G) (cI cD : ClassId) (ad : Nat → Nat) (N : Nat) (mlen : Int32) (mnodes : Int32) (mlinks : Int32) (mwk : Int32) (bcode : Int32) (hass : Int32) (kwk : Int32) (hsh : Int64) (mrot : Nat → Int32) (plc : Nat → Int32) (marr : Nat → Int32) (krot : Nat → Int32) (kplc : Nat → Int32) (karr : Nat → Int32) (mdep : Nat → Int32)  {p : Program} {e : Env} {s : State} {m : MethodId} {args : Array Value} {below : List Frame} {meth : Method} {c : Code} {A : Nat → Prop} {Q : State → Prop} (C : wd_C p m c cX5_snapshot 2 s args wsX5_snapshot RX5 D [(cI, .int), (cD, .double)] A) : ∀ (n : Nat) (st : Int32 × (Nat → Int32)) (E : (Nat → Int32)), iter (b_X5_snapshot_74 mdep) n st = some E → (Wd p l e { frames := 1, cells := 0, slots := 0, locals := 23 } s m args below meth c 2 D A 0 0 Q 98 [(0, .ref (ad 0))] [] (w_X5_snapshot ad cI cD mlen mnodes mlinks mwk bcode hass kwk hsh mrot plc marr mdep krot kplc karr E)) → Wd p l e { frames := 1, cells := 0, slots := 0, locals := 23 } s m args below meth c 2 D A 0 0 Q 74 [(0, .ref (ad 0)), (1, .int st.1)] [] (w_X5_snapshot ad cI cD mlen mnodes mlinks mwk bcode hass kwk hsh mrot plc marr mdep krot kplc karr st.2) := by
  intro n
  induction n with
  | zero => intro st E h; cases h
  | succ n ih =>
    intro st E h kx
    obtain ⟨b, h, hk⟩ := iter_step h
    unfold b_X5_snapshot_74 at h
    refine wd_iload_n (j := 75) C 1 dX5_snapshot_74 rfl rfl rfl ?_
    refine wd_bipush (j := 77) (v := 64) C dX5_snapshot_75 (by decide) rfl ?_
    refine wd_icmp_ge (j := 80) (t := 98) C dX5_snapshot_77 (by decide) rfl (fun c4 => ?_) (fun c4 => ?_)
    · replace h := (if_pos c4).symm.trans h
      obtain rfl := Option.some.inj h
      obtain rfl := hk
      refine wd_lv (lv' := [(0, .ref (ad 0))]) [0] rfl ?_
      exact kx
    · replace h := (if_neg c4).symm.trans h
      refine wd_aload_n (j := 81) C 0 dX5_snapshot_80 rfl rfl rfl ?_
      refine wd_get (j := 84) (q0 := 0) (f := 21) (ci := 5) (v := .ref (ad 15)) C inX5_snapshot_X5 kX5_snapshot_11 rfl (by decide) rfl rfl dX5_snapshot_81 rfl ?_
      refine wd_iload_n (j := 85) C 1 dX5_snapshot_84 rfl rfl rfl ?_
      refine wd_aload_n (j := 86) C 0 dX5_snapshot_85 rfl rfl rfl ?_
      refine wd_get (j := 89) (q0 := 0) (f := 10) (ci := 5) (v := .ref (ad 7)) C inX5_snapshot_X5 kX5_snapshot_12 rfl (by decide) rfl rfl dX5_snapshot_86 rfl ?_
      refine wd_iload_n (j := 90) C 1 dX5_snapshot_89 rfl rfl rfl ?_
      obtain ⟨g5, h⟩ := grd_some h
      refine wd_iald (j := 91) (q0 := 4) (t0 := 0) C rfl rfl (inB_in g5) dX5_snapshot_90 rfl ?_
      obtain ⟨g6, h⟩ := grd_some h
      refine wd_iast (j := 92) (q0 := 8) (t0 := 0) (ws' := (w_X5_snapshot ad cI cD mlen mnodes mlinks mwk bcode hass kwk hsh mrot plc marr mdep krot kplc karr (upd st.2 st.1.toNatClampNeg (mdep st.1.toNatClampNeg)))) C rfl rfl (inB_in g6) rfl dX5_snapshot_91 rfl ?_
      refine wd_iinc (j := 95) (lv' := [(1, .int (st.1 + 1)), (0, .ref (ad 0))]) C 1 dX5_snapshot_92 rfl rfl (by decide) rfl rfl ?_
      refine wd_goto (t := 74) C dX5_snapshot_95 (by decide) ?_
      obtain rfl := Option.some.inj h
      refine wd_lv (lv' := [(0, .ref (ad 0)), (1, .int (st.1 + 1))]) [1, 0] rfl ?_
      exact ih ((st.1 + 1), (upd st.2 st.1.toNatClampNeg (mdep st.1.toNatClampNeg))) E hk kx
set_option maxRecDepth 100000 in
set_option maxHeartbeats 4000000 in
theorem c_X5_snapshot (l : Launch) (D : va_G) (cI cD : ClassId) (ad : Nat → Nat) (N : Nat) (mlen : Int32) (mnodes : Int32) (mlinks : Int32) (mwk : Int32) (bcode : Int32) (hass : Int32) (kwk : Int32) (hsh : Int64) (mrot : Nat → Int32) (plc : Nat → Int32) (marr : Nat → Int32) (mdep : Nat → Int32) (krot : Nat → Int32) (kplc : Nat → Int32) (karr : Nat → Int32) (kdep : Nat → Int32)  (u : Int32 × Int32 × Int32 × (Nat → Int32) × (Nat → Int32) × (Nat → Int32) × (Nat → Int32)) (h : f_X5_snapshot N mnodes mwk hass kwk mrot plc marr mdep krot kplc karr kdep = some u) : MetI l yX5_snapshot wsX5_snapshot { frames := 1, cells := 0, slots := 0, locals := 23 } D [(cI, .int), (cD, .double)] [.ref (ad 0)] (w_X5_snapshot ad cI cD mlen mnodes mlinks mwk bcode hass kwk hsh mrot plc marr mdep krot kplc karr kdep) u.1 (w_X5_snapshot ad cI cD mlen mnodes mlinks mwk bcode u.2.1 u.2.2.1 hsh mrot plc marr mdep u.2.2.2.1 u.2.2.2.2.1 u.2.2.2.2.2.1 u.2.2.2.2.2.2) := by
  refine MetI.of (own := RX5) (cc := cX5_snapshot) (nL := 2) (ret := (some .int)) (by decide) rfl rfl (Nat.le_of_ble_eq_true rfl) rfl ?_
  intro p e s m args below meth c A hA C hr hlk
  unfold f_X5_snapshot at h
  refine wd_aload_n (j := 1) C 0 dX5_snapshot_0 rfl rfl rfl ?_
  refine wd_get (j := 4) (q0 := 0) (f := 2) (ci := 5) (v := .int mnodes) C inX5_snapshot_X5 kX5_snapshot_1 rfl (by decide) rfl rfl dX5_snapshot_1 rfl ?_
  refine wd_if_ne (j := 7) (t := 10) C dX5_snapshot_4 (by decide) rfl (fun c7 => ?_) (fun c7 => ?_)
  · replace h := (if_neg c7).symm.trans h
    refine wd_aload_n (j := 11) C 0 dX5_snapshot_10 rfl rfl rfl ?_
    refine wd_iconst (j := 12) (v := 1) C dX5_snapshot_11 (by decide) rfl ?_
    refine wd_put (j := 15) (q0 := 0) (f := 16) (ci := 5) (ws' := (w_X5_snapshot ad cI cD mlen mnodes mlinks mwk bcode (1 : Int32) kwk hsh mrot plc marr mdep krot kplc karr kdep)) C inX5_snapshot_X5 tyX5 tyX5_ok nmX5 kX5_snapshot_2 rfl (by decide) rfl rfl rfl rfl (Nat.le_of_ble_eq_true rfl) rfl dX5_snapshot_12 rfl ?_
    refine wd_aload_n (j := 16) C 0 dX5_snapshot_15 rfl rfl rfl ?_
    refine wd_aload_n (j := 17) C 0 dX5_snapshot_16 rfl rfl rfl ?_
    refine wd_get (j := 20) (q0 := 0) (f := 7) (ci := 5) (v := .int mwk) C inX5_snapshot_X5 kX5_snapshot_3 rfl (by decide) rfl rfl dX5_snapshot_17 rfl ?_
    refine wd_put (j := 23) (q0 := 0) (f := 17) (ci := 5) (ws' := (w_X5_snapshot ad cI cD mlen mnodes mlinks mwk bcode (1 : Int32) mwk hsh mrot plc marr mdep krot kplc karr kdep)) C inX5_snapshot_X5 tyX5 tyX5_ok nmX5 kX5_snapshot_4 rfl (by decide) rfl rfl rfl rfl (Nat.le_of_ble_eq_true rfl) rfl dX5_snapshot_20 rfl ?_
    refine wd_aload_n (j := 24) C 0 dX5_snapshot_23 rfl rfl rfl ?_
    refine wd_aload_n (j := 25) C 0 dX5_snapshot_24 rfl rfl rfl ?_
    refine wd_get (j := 28) (q0 := 0) (f := 6) (ci := 5) (v := .ref (ad 4)) C inX5_snapshot_X5 kX5_snapshot_5 rfl (by decide) rfl rfl dX5_snapshot_25 rfl ?_
    refine wd_aload_n (j := 29) C 0 dX5_snapshot_28 rfl rfl rfl ?_
    refine wd_get (j := 32) (q0 := 0) (f := 18) (ci := 5) (v := .ref (ad 12)) C inX5_snapshot_X5 kX5_snapshot_6 rfl (by decide) rfl rfl dX5_snapshot_29 rfl ?_
    obtain ⟨u8, hu8, h⟩ := bnd_some h
    refine wd_callVv (j := 35) (q0 := 0) (ci := 5) (As := [.ref (ad 4), .ref (ad 12)]) (rest := []) (ws' := (w_X5_snapshot ad cI cD mlen mnodes mlinks mwk bcode (1 : Int32) mwk hsh mrot plc marr mdep u8 kplc karr kdep)) C (c_X5_copyRotors l D cI cD ad (ad 4) (ad 12) N mlen mnodes mlinks mwk bcode (1 : Int32) mwk hsh mrot krot u8 hu8) (cwV 2 C.1.2.2.2.2 gX5_snapshot_X5_copyRotors rfl rfl rfl (by decide +kernel) ⟨Nat.le_of_ble_eq_true rfl, Nat.le_of_ble_eq_true rfl⟩) rfl rfl [0, 1, 5] [2, 3, 4, 6, 7, 8] rfl rfl rfl rfl (by decide) [6, 7, 0, 1, 2, 8, 3, 4, 5] rfl rfl rfl (Nat.le_of_ble_eq_true rfl) (Nat.le_of_ble_eq_true rfl) (Nat.le_of_ble_eq_true rfl) dX5_snapshot_32 rfl ?_
    refine wd_aload_n (j := 36) C 0 dX5_snapshot_35 rfl rfl rfl ?_
    refine wd_aload_n (j := 37) C 0 dX5_snapshot_36 rfl rfl rfl ?_
    refine wd_get (j := 40) (q0 := 0) (f := 9) (ci := 5) (v := .ref (ad 6)) C inX5_snapshot_X5 kX5_snapshot_7 rfl (by decide) rfl rfl dX5_snapshot_37 rfl ?_
    refine wd_aload_n (j := 41) C 0 dX5_snapshot_40 rfl rfl rfl ?_
    refine wd_get (j := 44) (q0 := 0) (f := 20) (ci := 5) (v := .ref (ad 14)) C inX5_snapshot_X5 kX5_snapshot_8 rfl (by decide) rfl rfl dX5_snapshot_41 rfl ?_
    obtain ⟨u9, hu9, h⟩ := bnd_some h
    refine wd_callVv (j := 47) (q0 := 0) (ci := 5) (As := [.ref (ad 6), .ref (ad 14)]) (rest := []) (ws' := (w_X5_snapshot ad cI cD mlen mnodes mlinks mwk bcode (1 : Int32) mwk hsh mrot plc marr mdep u8 kplc u9 kdep)) C (c_X5_copyRotors l D cI cD ad (ad 6) (ad 14) N mlen mnodes mlinks mwk bcode (1 : Int32) mwk hsh marr karr u9 hu9) (cwV 2 C.1.2.2.2.2 gX5_snapshot_X5_copyRotors rfl rfl rfl (by decide +kernel) ⟨Nat.le_of_ble_eq_true rfl, Nat.le_of_ble_eq_true rfl⟩) rfl rfl [0, 3, 7] [1, 2, 4, 5, 6, 8] rfl rfl rfl rfl (by decide) [6, 0, 1, 7, 2, 3, 4, 8, 5] rfl rfl rfl (Nat.le_of_ble_eq_true rfl) (Nat.le_of_ble_eq_true rfl) (Nat.le_of_ble_eq_true rfl) dX5_snapshot_44 rfl ?_
    refine wd_iconst (j := 48) (v := 0) C dX5_snapshot_47 (by decide) rfl ?_
    refine wd_istore_n (j := 49) (lv' := [(1, .int (0 : Int32)), (0, .ref (ad 0))]) C dX5_snapshot_48 rfl (by decide) rfl rfl ?_
    refine wd_lv (lv' := [(0, .ref (ad 0)), (1, .int (0 : Int32))]) [1, 0] rfl ?_
    obtain ⟨u10, hu10, h⟩ := bnd_some h
    refine lw_X5_snapshot_49 l D cI cD ad N mlen mnodes mlinks mwk bcode (1 : Int32) mwk hsh mrot marr mdep u8 u9 kdep plc C N ((0 : Int32), kplc) u10 hu10 ?_
    refine wd_iconst (j := 73) (v := 0) C dX5_snapshot_72 (by decide) rfl ?_
    refine wd_istore_n (j := 74) (lv' := [(1, .int (0 : Int32)), (0, .ref (ad 0))]) C dX5_snapshot_73 rfl (by decide) rfl rfl ?_
    refine wd_lv (lv' := [(0, .ref (ad 0)), (1, .int (0 : Int32))]) [1, 0] rfl ?_
    obtain ⟨u11, hu11, h⟩ := bnd_some h
    refine lw_X5_snapshot_74 l D cI cD ad N mlen mnodes mlinks mwk bcode (1 : Int32) mwk hsh mrot plc marr u8 u10 u9 mdep C N ((0 : Int32), kdep) u11 hu11 ?_
    refine wd_aload_n (j := 99) C 0 dX5_snapshot_98 rfl rfl rfl ?_
    refine wd_get (j := 102) (q0 := 0) (f := 7) (ci := 5) (v := .int mwk) C inX5_snapshot_X5 kX5_snapshot_3 rfl (by decide) rfl rfl dX5_snapshot_99 rfl ?_
    obtain rfl := Option.some.inj h
    exact wd_iret C hA hr hlk rfl rfl rfl dX5_snapshot_102
  · replace h := (if_pos c7).symm.trans h
    refine wd_bipush (j := 9) (v := -9) C dX5_snapshot_7 (by decide) rfl ?_
    obtain rfl := Option.some.inj h
    exact wd_iret C hA hr hlk rfl rfl rfl dX5_snapshot_9
abbrev w_X5_restore (ad : Nat → Nat) (cI cD : ClassId) (mlen : Int32) (mnodes : Int32) (mlinks : Int32) (mwk : Int32) (bcode : Int32) (hass : Int32) (kwk : Int32) (hsh : Int64) (mrot : Nat → Int32) (plc : Nat → Int32) (marr : Nat → Int32) (mdep : Nat → Int32) (krot : Nat → Int32) (kplc : Nat → Int32) (karr : Nat → Int32) (kdep : Nat → Int32) : va_W := [((ad 0), .inr (5, [.int mlen, .ref (ad 1), .int mnodes, .int mlinks, .ref (ad 2), .ref (ad 3), .ref (ad 4), .int mwk, .ref (ad 5), .ref (ad 6), .ref (ad 7), .ref (ad 8), .ref (ad 9), .int bcode, .ref (ad 10), .ref (ad 11), .int hass, .int kwk, .ref (ad 12), .ref (ad 13), .ref (ad 14), .ref (ad 15), .long hsh])), ((ad 4), .inl (cI, 8, .inl mrot)), ((ad 5), .inl (cI, 4, .inl plc)), ((ad 6), .inl (cI, 8, .inl marr)), ((ad 7), .inl (cI, 64, .inl mdep)), ((ad 12), .inl (cI, 8, .inl krot)), ((ad 13), .inl (cI, 4, .inl kplc)), ((ad 14), .inl (cI, 8, .inl karr)), ((ad 15), .inl (cI, 64, .inl kdep))]
theorem kX5_restore_1 : Cond.fieldLink "RotorRouterModel" 95 "RotorRouterModel" "hasSnapshot" "Z" ∈ wsX5_restore := List.mem_of_getElem? (i := 1) rfl
theorem kX5_restore_2 : Cond.fieldLink "RotorRouterModel" 167 "RotorRouterModel" "keptWalkers" "I" ∈ wsX5_restore := List.mem_of_getElem? (i := 2) rfl
theorem kX5_restore_3 : Cond.fieldLink "RotorRouterModel" 92 "RotorRouterModel" "walkers" "I" ∈ wsX5_restore := List.mem_of_getElem? (i := 3) rfl
theorem kX5_restore_4 : Cond.fieldLink "RotorRouterModel" 44 "RotorRouterModel" "keptRotors" "[I" ∈ wsX5_restore := List.mem_of_getElem? (i := 4) rfl
theorem kX5_restore_5 : Cond.fieldLink "RotorRouterModel" 19 "RotorRouterModel" "rotors" "[I" ∈ wsX5_restore := List.mem_of_getElem? (i := 5) rfl
theorem kX5_restore_6 : Cond.fieldLink "RotorRouterModel" 50 "RotorRouterModel" "keptArrived" "[I" ∈ wsX5_restore := List.mem_of_getElem? (i := 6) rfl
theorem kX5_restore_7 : Cond.fieldLink "RotorRouterModel" 25 "RotorRouterModel" "arrived" "[I" ∈ wsX5_restore := List.mem_of_getElem? (i := 7) rfl
theorem kX5_restore_8 : Cond.fieldLink "RotorRouterModel" 22 "RotorRouterModel" "places" "[I" ∈ wsX5_restore := List.mem_of_getElem? (i := 8) rfl
theorem kX5_restore_9 : Cond.fieldLink "RotorRouterModel" 47 "RotorRouterModel" "keptPlaces" "[I" ∈ wsX5_restore := List.mem_of_getElem? (i := 9) rfl
theorem kX5_restore_10 : Cond.fieldLink "RotorRouterModel" 28 "RotorRouterModel" "departed" "[I" ∈ wsX5_restore := List.mem_of_getElem? (i := 10) rfl
theorem kX5_restore_11 : Cond.fieldLink "RotorRouterModel" 53 "RotorRouterModel" "keptDeparted" "[I" ∈ wsX5_restore := List.mem_of_getElem? (i := 11) rfl
theorem inX5_restore_X5 : ∀ w ∈ wsX50, w ∈ wsX5_restore := fun _ h => List.mem_cons_of_mem _ (List.mem_append_right _ h)
set_option maxRecDepth 100000 in
set_option maxHeartbeats 4000000 in
theorem lw_X5_restore_44 (l : Launch) (D : va_G) (cI cD : ClassId) (ad : Nat → Nat) (N : Nat) (mlen : Int32) (mnodes : Int32) (mlinks : Int32) (mwk : Int32) (bcode : Int32) (hass : Int32) (kwk : Int32) (hsh : Int64) (mrot : Nat → Int32) (marr : Nat → Int32) (mdep : Nat → Int32) (krot : Nat → Int32) (karr : Nat → Int32) (kdep : Nat → Int32) (kplc : Nat → Int32)  {p : Program} {e : Env} {s : State} {m : MethodId} {args : Array Value} {below : List Frame} {meth : Method} {c : Code} {A : Nat → Prop} {Q : State → Prop} (C : wd_C p m c cX5_restore 2 s args wsX5_restore RX5 D [(cI, .int), (cD, .double)] A) : ∀ (n : Nat) (st : Int32 × (Nat → Int32)) (E : (Nat → Int32)), iter (b_X5_restore_44 kplc) n st = some E → (Wd p l e { frames := 1, cells := 0, slots := 0, locals := 23 } s m args below meth c 2 D A 0 0 Q 67 [(0, .ref (ad 0))] [] (w_X5_restore ad cI cD mlen mnodes mlinks mwk bcode hass kwk hsh mrot E marr mdep krot kplc karr kdep)) → Wd p l e { frames := 1, cells := 0, slots := 0, locals := 23 } s m args below meth c 2 D A 0 0 Q 44 [(0, .ref (ad 0)), (1, .int st.1)] [] (w_X5_restore ad cI cD mlen mnodes mlinks mwk bcode hass kwk hsh mrot st.2 marr mdep krot kplc karr kdep) := by
  intro n
  induction n with
  | zero => intro st E h; cases h
  | succ n ih =>
    intro st E h kx
    obtain ⟨b, h, hk⟩ := iter_step h
    unfold b_X5_restore_44 at h
    refine wd_iload_n (j := 45) C 1 dX5_restore_44 rfl rfl rfl ?_
    refine wd_iconst (j := 46) (v := 4) C dX5_restore_45 (by decide) rfl ?_
    refine wd_icmp_ge (j := 49) (t := 67) C dX5_restore_46 (by decide) rfl (fun c1 => ?_) (fun c1 => ?_)
    · replace h := (if_pos c1).symm.trans h
      obtain rfl := Option.some.inj h
      obtain rfl := hk
      refine wd_lv (lv' := [(0, .ref (ad 0))]) [0] rfl ?_
      exact kx
    · replace h := (if_neg c1).symm.trans h
      refine wd_aload_n (j := 50) C 0 dX5_restore_49 rfl rfl rfl ?_
      refine wd_get (j := 53) (q0 := 0) (f := 8) (ci := 5) (v := .ref (ad 5)) C inX5_restore_X5 kX5_restore_8 rfl (by decide) rfl rfl dX5_restore_50 rfl ?_
      refine wd_iload_n (j := 54) C 1 dX5_restore_53 rfl rfl rfl ?_
      refine wd_aload_n (j := 55) C 0 dX5_restore_54 rfl rfl rfl ?_
      refine wd_get (j := 58) (q0 := 0) (f := 19) (ci := 5) (v := .ref (ad 13)) C inX5_restore_X5 kX5_restore_9 rfl (by decide) rfl rfl dX5_restore_55 rfl ?_
      refine wd_iload_n (j := 59) C 1 dX5_restore_58 rfl rfl rfl ?_
      obtain ⟨g2, h⟩ := grd_some h
      refine wd_iald (j := 60) (q0 := 6) (t0 := 0) C rfl rfl (inB_in g2) dX5_restore_59 rfl ?_
      obtain ⟨g3, h⟩ := grd_some h
      refine wd_iast (j := 61) (q0 := 2) (t0 := 0) (ws' := (w_X5_restore ad cI cD mlen mnodes mlinks mwk bcode hass kwk hsh mrot (upd st.2 st.1.toNatClampNeg (kplc st.1.toNatClampNeg)) marr mdep krot kplc karr kdep)) C rfl rfl (inB_in g3) rfl dX5_restore_60 rfl ?_
      refine wd_iinc (j := 64) (lv' := [(1, .int (st.1 + 1)), (0, .ref (ad 0))]) C 1 dX5_restore_61 rfl rfl (by decide) rfl rfl ?_
      refine wd_goto (t := 44) C dX5_restore_64 (by decide) ?_
      obtain rfl := Option.some.inj h
      refine wd_lv (lv' := [(0, .ref (ad 0)), (1, .int (st.1 + 1))]) [1, 0] rfl ?_
      exact ih ((st.1 + 1), (upd st.2 st.1.toNatClampNeg (kplc st.1.toNatClampNeg))) E hk kx
set_option maxRecDepth 100000 in
set_option maxHeartbeats 4000000 in
theorem lw_X5_restore_69 (l : Launch) (D : va_G) (cI cD : ClassId) (ad : Nat → Nat) (N : Nat) (mlen : Int32) (mnodes : Int32) (mlinks : Int32) (mwk : Int32) (bcode : Int32) (hass : Int32) (kwk : Int32) (hsh : Int64) (mrot : Nat → Int32) (plc : Nat → Int32) (marr : Nat → Int32) (krot : Nat → Int32) (kplc : Nat → Int32) (karr : Nat → Int32) (kdep : Nat → Int32)  {p : Program} {e : Env} {s : State} {m : MethodId} {args : Array Value} {below : List Frame} {meth : Method} {c : Code} {A : Nat → Prop} {Q : State → Prop} (C : wd_C p m c cX5_restore 2 s args wsX5_restore RX5 D [(cI, .int), (cD, .double)] A) : ∀ (n : Nat) (st : Int32 × (Nat → Int32)) (E : (Nat → Int32)), iter (b_X5_restore_69 kdep) n st = some E → (Wd p l e { frames := 1, cells := 0, slots := 0, locals := 23 } s m args below meth c 2 D A 0 0 Q 93 [(0, .ref (ad 0))] [] (w_X5_restore ad cI cD mlen mnodes mlinks mwk bcode hass kwk hsh mrot plc marr E krot kplc karr kdep)) → Wd p l e { frames := 1, cells := 0, slots := 0, locals := 23 } s m args below meth c 2 D A 0 0 Q 69 [(0, .ref (ad 0)), (1, .int st.1)] [] (w_X5_restore ad cI cD mlen mnodes mlinks mwk bcode hass kwk hsh mrot plc marr st.2 krot kplc karr kdep) := by
  intro n
  induction n with
  | zero => intro st E h; cases h
  | succ n ih =>
    intro st E h kx
    obtain ⟨b, h, hk⟩ := iter_step h
    unfold b_X5_restore_69 at h
    refine wd_iload_n (j := 70) C 1 dX5_restore_69 rfl rfl rfl ?_
    refine wd_bipush (j := 72) (v := 64) C dX5_restore_70 (by decide) rfl ?_
    refine wd_icmp_ge (j := 75) (t := 93) C dX5_restore_72 (by decide) rfl (fun c4 => ?_) (fun c4 => ?_)
    · replace h := (if_pos c4).symm.trans h
      obtain rfl := Option.some.inj h
      obtain rfl := hk
      refine wd_lv (lv' := [(0, .ref (ad 0))]) [0] rfl ?_
      exact kx
    · replace h := (if_neg c4).symm.trans h
      refine wd_aload_n (j := 76) C 0 dX5_restore_75 rfl rfl rfl ?_
      refine wd_get (j := 79) (q0 := 0) (f := 10) (ci := 5) (v := .ref (ad 7)) C inX5_restore_X5 kX5_restore_10 rfl (by decide) rfl rfl dX5_restore_76 rfl ?_
      refine wd_iload_n (j := 80) C 1 dX5_restore_79 rfl rfl rfl ?_
      refine wd_aload_n (j := 81) C 0 dX5_restore_80 rfl rfl rfl ?_
      refine wd_get (j := 84) (q0 := 0) (f := 21) (ci := 5) (v := .ref (ad 15)) C inX5_restore_X5 kX5_restore_11 rfl (by decide) rfl rfl dX5_restore_81 rfl ?_
      refine wd_iload_n (j := 85) C 1 dX5_restore_84 rfl rfl rfl ?_
      obtain ⟨g5, h⟩ := grd_some h
      refine wd_iald (j := 86) (q0 := 8) (t0 := 0) C rfl rfl (inB_in g5) dX5_restore_85 rfl ?_
      obtain ⟨g6, h⟩ := grd_some h
      refine wd_iast (j := 87) (q0 := 4) (t0 := 0) (ws' := (w_X5_restore ad cI cD mlen mnodes mlinks mwk bcode hass kwk hsh mrot plc marr (upd st.2 st.1.toNatClampNeg (kdep st.1.toNatClampNeg)) krot kplc karr kdep)) C rfl rfl (inB_in g6) rfl dX5_restore_86 rfl ?_
      refine wd_iinc (j := 90) (lv' := [(1, .int (st.1 + 1)), (0, .ref (ad 0))]) C 1 dX5_restore_87 rfl rfl (by decide) rfl rfl ?_
      refine wd_goto (t := 69) C dX5_restore_90 (by decide) ?_
      obtain rfl := Option.some.inj h
      refine wd_lv (lv' := [(0, .ref (ad 0)), (1, .int (st.1 + 1))]) [1, 0] rfl ?_
      exact ih ((st.1 + 1), (upd st.2 st.1.toNatClampNeg (kdep st.1.toNatClampNeg))) E hk kx
set_option maxRecDepth 100000 in
set_option maxHeartbeats 4000000 in
theorem c_X5_restore (l : Launch) (D : va_G) (cI cD : ClassId) (ad : Nat → Nat) (N : Nat) (mlen : Int32) (mnodes : Int32) (mlinks : Int32) (mwk : Int32) (bcode : Int32) (hass : Int32) (kwk : Int32) (hsh : Int64) (mrot : Nat → Int32) (plc : Nat → Int32) (marr : Nat → Int32) (mdep : Nat → Int32) (krot : Nat → Int32) (kplc : Nat → Int32) (karr : Nat → Int32) (kdep : Nat → Int32)  (u : Int32 × Int32 × (Nat → Int32) × (Nat → Int32) × (Nat → Int32) × (Nat → Int32)) (h : f_X5_restore N mwk hass kwk mrot plc marr mdep krot kplc karr kdep = some u) : MetI l yX5_restore wsX5_restore { frames := 1, cells := 0, slots := 0, locals := 23 } D [(cI, .int), (cD, .double)] [.ref (ad 0)] (w_X5_restore ad cI cD mlen mnodes mlinks mwk bcode hass kwk hsh mrot plc marr mdep krot kplc karr kdep) u.1 (w_X5_restore ad cI cD mlen mnodes mlinks u.2.1 bcode hass kwk hsh u.2.2.1 u.2.2.2.1 u.2.2.2.2.1 u.2.2.2.2.2 krot kplc karr kdep) := by
  refine MetI.of (own := RX5) (cc := cX5_restore) (nL := 2) (ret := (some .int)) (by decide) rfl rfl (Nat.le_of_ble_eq_true rfl) rfl ?_
  intro p e s m args below meth c A hA C hr hlk
  unfold f_X5_restore at h
  refine wd_aload_n (j := 1) C 0 dX5_restore_0 rfl rfl rfl ?_
  refine wd_get (j := 4) (q0 := 0) (f := 16) (ci := 5) (v := .int hass) C inX5_restore_X5 kX5_restore_1 rfl (by decide) rfl rfl dX5_restore_1 rfl ?_
  refine wd_if_ne (j := 7) (t := 10) C dX5_restore_4 (by decide) rfl (fun c7 => ?_) (fun c7 => ?_)
  · replace h := (if_neg c7).symm.trans h
    refine wd_aload_n (j := 11) C 0 dX5_restore_10 rfl rfl rfl ?_
    refine wd_aload_n (j := 12) C 0 dX5_restore_11 rfl rfl rfl ?_
    refine wd_get (j := 15) (q0 := 0) (f := 17) (ci := 5) (v := .int kwk) C inX5_restore_X5 kX5_restore_2 rfl (by decide) rfl rfl dX5_restore_12 rfl ?_
    refine wd_put (j := 18) (q0 := 0) (f := 7) (ci := 5) (ws' := (w_X5_restore ad cI cD mlen mnodes mlinks kwk bcode hass kwk hsh mrot plc marr mdep krot kplc karr kdep)) C inX5_restore_X5 tyX5 tyX5_ok nmX5 kX5_restore_3 rfl (by decide) rfl rfl rfl rfl (Nat.le_of_ble_eq_true rfl) rfl dX5_restore_15 rfl ?_
    refine wd_aload_n (j := 19) C 0 dX5_restore_18 rfl rfl rfl ?_
    refine wd_aload_n (j := 20) C 0 dX5_restore_19 rfl rfl rfl ?_
    refine wd_get (j := 23) (q0 := 0) (f := 18) (ci := 5) (v := .ref (ad 12)) C inX5_restore_X5 kX5_restore_4 rfl (by decide) rfl rfl dX5_restore_20 rfl ?_
    refine wd_aload_n (j := 24) C 0 dX5_restore_23 rfl rfl rfl ?_
    refine wd_get (j := 27) (q0 := 0) (f := 6) (ci := 5) (v := .ref (ad 4)) C inX5_restore_X5 kX5_restore_5 rfl (by decide) rfl rfl dX5_restore_24 rfl ?_
    obtain ⟨u8, hu8, h⟩ := bnd_some h
    refine wd_callVv (j := 30) (q0 := 0) (ci := 5) (As := [.ref (ad 12), .ref (ad 4)]) (rest := []) (ws' := (w_X5_restore ad cI cD mlen mnodes mlinks kwk bcode hass kwk hsh u8 plc marr mdep krot kplc karr kdep)) C (c_X5_copyRotors l D cI cD ad (ad 12) (ad 4) N mlen mnodes mlinks kwk bcode hass kwk hsh krot mrot u8 hu8) (cwV 2 C.1.2.2.2.2 gX5_restore_X5_copyRotors rfl rfl rfl (by decide +kernel) ⟨Nat.le_of_ble_eq_true rfl, Nat.le_of_ble_eq_true rfl⟩) rfl rfl [0, 5, 1] [2, 3, 4, 6, 7, 8] rfl rfl rfl rfl (by decide) [6, 8, 0, 1, 2, 7, 3, 4, 5] rfl rfl rfl (Nat.le_of_ble_eq_true rfl) (Nat.le_of_ble_eq_true rfl) (Nat.le_of_ble_eq_true rfl) dX5_restore_27 rfl ?_
    refine wd_aload_n (j := 31) C 0 dX5_restore_30 rfl rfl rfl ?_
    refine wd_aload_n (j := 32) C 0 dX5_restore_31 rfl rfl rfl ?_
    refine wd_get (j := 35) (q0 := 0) (f := 20) (ci := 5) (v := .ref (ad 14)) C inX5_restore_X5 kX5_restore_6 rfl (by decide) rfl rfl dX5_restore_32 rfl ?_
    refine wd_aload_n (j := 36) C 0 dX5_restore_35 rfl rfl rfl ?_
    refine wd_get (j := 39) (q0 := 0) (f := 9) (ci := 5) (v := .ref (ad 6)) C inX5_restore_X5 kX5_restore_7 rfl (by decide) rfl rfl dX5_restore_36 rfl ?_
    obtain ⟨u9, hu9, h⟩ := bnd_some h
    refine wd_callVv (j := 42) (q0 := 0) (ci := 5) (As := [.ref (ad 14), .ref (ad 6)]) (rest := []) (ws' := (w_X5_restore ad cI cD mlen mnodes mlinks kwk bcode hass kwk hsh u8 plc u9 mdep krot kplc karr kdep)) C (c_X5_copyRotors l D cI cD ad (ad 14) (ad 6) N mlen mnodes mlinks kwk bcode hass kwk hsh karr marr u9 hu9) (cwV 2 C.1.2.2.2.2 gX5_restore_X5_copyRotors rfl rfl rfl (by decide +kernel) ⟨Nat.le_of_ble_eq_true rfl, Nat.le_of_ble_eq_true rfl⟩) rfl rfl [0, 7, 3] [1, 2, 4, 5, 6, 8] rfl rfl rfl rfl (by decide) [6, 0, 1, 8, 2, 3, 4, 7, 5] rfl rfl rfl (Nat.le_of_ble_eq_true rfl) (Nat.le_of_ble_eq_true rfl) (Nat.le_of_ble_eq_true rfl) dX5_restore_39 rfl ?_
    refine wd_iconst (j := 43) (v := 0) C dX5_restore_42 (by decide) rfl ?_
    refine wd_istore_n (j := 44) (lv' := [(1, .int (0 : Int32)), (0, .ref (ad 0))]) C dX5_restore_43 rfl (by decide) rfl rfl ?_
    refine wd_lv (lv' := [(0, .ref (ad 0)), (1, .int (0 : Int32))]) [1, 0] rfl ?_
    obtain ⟨u10, hu10, h⟩ := bnd_some h
    refine lw_X5_restore_44 l D cI cD ad N mlen mnodes mlinks kwk bcode hass kwk hsh u8 u9 mdep krot karr kdep kplc C N ((0 : Int32), plc) u10 hu10 ?_
    refine wd_iconst (j := 68) (v := 0) C dX5_restore_67 (by decide) rfl ?_
    refine wd_istore_n (j := 69) (lv' := [(1, .int (0 : Int32)), (0, .ref (ad 0))]) C dX5_restore_68 rfl (by decide) rfl rfl ?_
    refine wd_lv (lv' := [(0, .ref (ad 0)), (1, .int (0 : Int32))]) [1, 0] rfl ?_
    obtain ⟨u11, hu11, h⟩ := bnd_some h
    refine lw_X5_restore_69 l D cI cD ad N mlen mnodes mlinks kwk bcode hass kwk hsh u8 u10 u9 krot kplc karr kdep C N ((0 : Int32), mdep) u11 hu11 ?_
    refine wd_aload_n (j := 94) C 0 dX5_restore_93 rfl rfl rfl ?_
    refine wd_get (j := 97) (q0 := 0) (f := 7) (ci := 5) (v := .int kwk) C inX5_restore_X5 kX5_restore_3 rfl (by decide) rfl rfl dX5_restore_94 rfl ?_
    obtain rfl := Option.some.inj h
    exact wd_iret C hA hr hlk rfl rfl rfl dX5_restore_97
  · replace h := (if_pos c7).symm.trans h
    refine wd_bipush (j := 9) (v := -9) C dX5_restore_7 (by decide) rfl ?_
    obtain rfl := Option.some.inj h
    exact wd_iret C hA hr hlk rfl rfl rfl dX5_restore_9
abbrev w_X5_walkerCount (ad : Nat → Nat) (cI cD : ClassId) (mlen : Int32) (mnodes : Int32) (mlinks : Int32) (mwk : Int32) (bcode : Int32) (hass : Int32) (kwk : Int32) (hsh : Int64) : va_W := [((ad 0), .inr (5, [.int mlen, .ref (ad 1), .int mnodes, .int mlinks, .ref (ad 2), .ref (ad 3), .ref (ad 4), .int mwk, .ref (ad 5), .ref (ad 6), .ref (ad 7), .ref (ad 8), .ref (ad 9), .int bcode, .ref (ad 10), .ref (ad 11), .int hass, .int kwk, .ref (ad 12), .ref (ad 13), .ref (ad 14), .ref (ad 15), .long hsh]))]
theorem kX5_walkerCount_1 : Cond.fieldLink "RotorRouterModel" 92 "RotorRouterModel" "walkers" "I" ∈ wsX5_walkerCount := List.mem_of_getElem? (i := 1) rfl
theorem inX5_walkerCount_X5 : ∀ w ∈ wsX50, w ∈ wsX5_walkerCount := fun _ h => List.mem_cons_of_mem _ (List.mem_append_right _ h)
set_option maxRecDepth 100000 in
set_option maxHeartbeats 4000000 in
theorem c_X5_walkerCount (l : Launch) (D : va_G) (cI cD : ClassId) (ad : Nat → Nat) (mlen : Int32) (mnodes : Int32) (mlinks : Int32) (mwk : Int32) (bcode : Int32) (hass : Int32) (kwk : Int32) (hsh : Int64)  (u : Int32) (h : f_X5_walkerCount mwk = some u) : MetI l yX5_walkerCount wsX5_walkerCount { frames := 0, cells := 0, slots := 0, locals := 0 } D [(cI, .int), (cD, .double)] [.ref (ad 0)] (w_X5_walkerCount ad cI cD mlen mnodes mlinks mwk bcode hass kwk hsh) u (w_X5_walkerCount ad cI cD mlen mnodes mlinks mwk bcode hass kwk hsh) := by
  refine MetI.of (own := RX5) (cc := cX5_walkerCount) (nL := 1) (ret := (some .int)) (by decide) rfl rfl (Nat.le_of_ble_eq_true rfl) rfl ?_
  intro p e s m args below meth c A hA C hr hlk
  unfold f_X5_walkerCount at h
  refine wd_aload_n (j := 1) C 0 dX5_walkerCount_0 rfl rfl rfl ?_
  refine wd_get (j := 4) (q0 := 0) (f := 7) (ci := 5) (v := .int mwk) C inX5_walkerCount_X5 kX5_walkerCount_1 rfl (by decide) rfl rfl dX5_walkerCount_1 rfl ?_
  obtain rfl := Option.some.inj h
  exact wd_iret C hA hr hlk rfl rfl rfl dX5_walkerCount_4
abbrev w_X5_linkCount (ad : Nat → Nat) (cI cD : ClassId) (mlen : Int32) (mnodes : Int32) (mlinks : Int32) (mwk : Int32) (bcode : Int32) (hass : Int32) (kwk : Int32) (hsh : Int64) : va_W := [((ad 0), .inr (5, [.int mlen, .ref (ad 1), .int mnodes, .int mlinks, .ref (ad 2), .ref (ad 3), .ref (ad 4), .int mwk, .ref (ad 5), .ref (ad 6), .ref (ad 7), .ref (ad 8), .ref (ad 9), .int bcode, .ref (ad 10), .ref (ad 11), .int hass, .int kwk, .ref (ad 12), .ref (ad 13), .ref (ad 14), .ref (ad 15), .long hsh]))]
theorem kX5_linkCount_1 : Cond.fieldLink "RotorRouterModel" 85 "RotorRouterModel" "links" "I" ∈ wsX5_linkCount := List.mem_of_getElem? (i := 1) rfl
theorem inX5_linkCount_X5 : ∀ w ∈ wsX50, w ∈ wsX5_linkCount := fun _ h => List.mem_cons_of_mem _ (List.mem_append_right _ h)
set_option maxRecDepth 100000 in
set_option maxHeartbeats 4000000 in
theorem c_X5_linkCount (l : Launch) (D : va_G) (cI cD : ClassId) (ad : Nat → Nat) (mlen : Int32) (mnodes : Int32) (mlinks : Int32) (mwk : Int32) (bcode : Int32) (hass : Int32) (kwk : Int32) (hsh : Int64)  (u : Int32) (h : f_X5_linkCount mlinks = some u) : MetI l yX5_linkCount wsX5_linkCount { frames := 0, cells := 0, slots := 0, locals := 0 } D [(cI, .int), (cD, .double)] [.ref (ad 0)] (w_X5_linkCount ad cI cD mlen mnodes mlinks mwk bcode hass kwk hsh) u (w_X5_linkCount ad cI cD mlen mnodes mlinks mwk bcode hass kwk hsh) := by
  refine MetI.of (own := RX5) (cc := cX5_linkCount) (nL := 1) (ret := (some .int)) (by decide) rfl rfl (Nat.le_of_ble_eq_true rfl) rfl ?_
  intro p e s m args below meth c A hA C hr hlk
  unfold f_X5_linkCount at h
  refine wd_aload_n (j := 1) C 0 dX5_linkCount_0 rfl rfl rfl ?_
  refine wd_get (j := 4) (q0 := 0) (f := 3) (ci := 5) (v := .int mlinks) C inX5_linkCount_X5 kX5_linkCount_1 rfl (by decide) rfl rfl dX5_linkCount_1 rfl ?_
  obtain rfl := Option.some.inj h
  exact wd_iret C hA hr hlk rfl rfl rfl dX5_linkCount_4
abbrev w_X5_mix (ad : Nat → Nat) (cI cD : ClassId) (mlen : Int32) (mnodes : Int32) (mlinks : Int32) (mwk : Int32) (bcode : Int32) (hass : Int32) (kwk : Int32) (hsh : Int64) : va_W := [((ad 0), .inr (5, [.int mlen, .ref (ad 1), .int mnodes, .int mlinks, .ref (ad 2), .ref (ad 3), .ref (ad 4), .int mwk, .ref (ad 5), .ref (ad 6), .ref (ad 7), .ref (ad 8), .ref (ad 9), .int bcode, .ref (ad 10), .ref (ad 11), .int hass, .int kwk, .ref (ad 12), .ref (ad 13), .ref (ad 14), .ref (ad 15), .long hsh]))]
theorem kX5_mix_1 : Cond.constantLong "RotorRouterModel" 170 31 ∈ wsX5_mix := List.mem_of_getElem? (i := 1) rfl
theorem kX5_mix_2 : Cond.fieldLink "RotorRouterModel" 172 "RotorRouterModel" "hash" "J" ∈ wsX5_mix := List.mem_of_getElem? (i := 2) rfl
theorem inX5_mix_X5 : ∀ w ∈ wsX50, w ∈ wsX5_mix := fun _ h => List.mem_cons_of_mem _ (List.mem_append_right _ h)
set_option maxRecDepth 100000 in
set_option maxHeartbeats 4000000 in
theorem c_X5_mix (l : Launch) (D : va_G) (cI cD : ClassId) (ad : Nat → Nat) (mlen : Int32) (mnodes : Int32) (mlinks : Int32) (mwk : Int32) (bcode : Int32) (hass : Int32) (kwk : Int32) (hsh : Int64) (p1 : Int64) (u : Int64) (h : f_X5_mix hsh p1 = some u) : MetV l yX5_mix wsX5_mix { frames := 0, cells := 0, slots := 0, locals := 0 } D [(cI, .int), (cD, .double)] [.ref (ad 0), .long p1] (w_X5_mix ad cI cD mlen mnodes mlinks mwk bcode hass kwk hsh) (w_X5_mix ad cI cD mlen mnodes mlinks mwk bcode hass kwk u) := by
  refine MetV.of (own := RX5) (cc := cX5_mix) (nL := 3) (ret := none) (by decide) rfl rfl (Nat.le_of_ble_eq_true rfl) rfl ?_
  intro p e s m args below meth c A hA C hr hlk
  unfold f_X5_mix at h
  refine wd_aload_n (j := 1) C 0 dX5_mix_0 rfl rfl rfl ?_
  refine wd_ldc2 (j := 4) C dX5_mix_1 kX5_mix_1 rfl ?_
  refine wd_aload_n (j := 5) C 0 dX5_mix_4 rfl rfl rfl ?_
  refine wd_get (j := 8) (q0 := 0) (f := 22) (ci := 5) (v := .long hsh) C inX5_mix_X5 kX5_mix_2 rfl (by decide) rfl rfl dX5_mix_5 rfl ?_
  refine wd_lmul (j := 9) C dX5_mix_8 rfl ?_
  refine wd_lload_n (j := 10) C 1 dX5_mix_9 rfl rfl rfl ?_
  refine wd_ladd (j := 11) C dX5_mix_10 rfl ?_
  refine wd_put (j := 14) (q0 := 0) (f := 22) (ci := 5) (ws' := (w_X5_mix ad cI cD mlen mnodes mlinks mwk bcode hass kwk (((31 : Int64) * hsh) + p1))) C inX5_mix_X5 tyX5 tyX5_ok nmX5 kX5_mix_2 rfl (by decide) rfl rfl rfl rfl (Nat.le_of_ble_eq_true rfl) rfl dX5_mix_11 rfl ?_
  obtain rfl := Option.some.inj h
  exact wd_vret C hA hr hlk rfl dX5_mix_14
abbrev w_X5_mixNode (ad : Nat → Nat) (cI cD : ClassId) (mlen : Int32) (mnodes : Int32) (mlinks : Int32) (mwk : Int32) (bcode : Int32) (hass : Int32) (kwk : Int32) (hsh : Int64) (tab : Nat → Int32) (mdeg : Nat → Int32) (mrot : Nat → Int32) (marr : Nat → Int32) (mdep : Nat → Int32) : va_W := [((ad 0), .inr (5, [.int mlen, .ref (ad 1), .int mnodes, .int mlinks, .ref (ad 2), .ref (ad 3), .ref (ad 4), .int mwk, .ref (ad 5), .ref (ad 6), .ref (ad 7), .ref (ad 8), .ref (ad 9), .int bcode, .ref (ad 10), .ref (ad 11), .int hass, .int kwk, .ref (ad 12), .ref (ad 13), .ref (ad 14), .ref (ad 15), .long hsh])), ((ad 2), .inl (cI, 64, .inl tab)), ((ad 3), .inl (cI, 8, .inl mdeg)), ((ad 4), .inl (cI, 8, .inl mrot)), ((ad 6), .inl (cI, 8, .inl marr)), ((ad 7), .inl (cI, 64, .inl mdep))]
theorem kX5_mixNode_1 : Cond.fieldLink "RotorRouterModel" 16 "RotorRouterModel" "degrees" "[I" ∈ wsX5_mixNode := List.mem_of_getElem? (i := 1) rfl
theorem kX5_mixNode_2 : Cond.fieldLink "RotorRouterModel" 19 "RotorRouterModel" "rotors" "[I" ∈ wsX5_mixNode := List.mem_of_getElem? (i := 2) rfl
theorem kX5_mixNode_3 : Cond.fieldLink "RotorRouterModel" 25 "RotorRouterModel" "arrived" "[I" ∈ wsX5_mixNode := List.mem_of_getElem? (i := 3) rfl
theorem kX5_mixNode_4 : Cond.fieldLink "RotorRouterModel" 13 "RotorRouterModel" "table" "[I" ∈ wsX5_mixNode := List.mem_of_getElem? (i := 4) rfl
theorem kX5_mixNode_5 : Cond.fieldLink "RotorRouterModel" 28 "RotorRouterModel" "departed" "[I" ∈ wsX5_mixNode := List.mem_of_getElem? (i := 5) rfl
theorem inX5_mixNode_X5 : ∀ w ∈ wsX50, w ∈ wsX5_mixNode := fun _ h => List.mem_cons_of_mem _ (List.mem_append_right _ h)
set_option maxRecDepth 100000 in
set_option maxHeartbeats 4000000 in
theorem lw_X5_mixNode_35 (l : Launch) (D : va_G) (cI cD : ClassId) (ad : Nat → Nat) (N : Nat) (mlen : Int32) (mnodes : Int32) (mlinks : Int32) (mwk : Int32) (bcode : Int32) (hass : Int32) (kwk : Int32) (mrot : Nat → Int32) (marr : Nat → Int32) (tab : Nat → Int32) (mdeg : Nat → Int32) (mdep : Nat → Int32) (p1 : Int32) {p : Program} {e : Env} {s : State} {m : MethodId} {args : Array Value} {below : List Frame} {meth : Method} {c : Code} {A : Nat → Prop} {Q : State → Prop} (C : wd_C p m c cX5_mixNode 3 s args wsX5_mixNode RX5 D [(cI, .int), (cD, .double)] A) : ∀ (n : Nat) (st : Int32 × Int64) (E : Int64), iter (b_X5_mixNode_35 tab mdeg mdep p1) n st = some E → (Wd p l e { frames := 1, cells := 0, slots := 0, locals := 22 } s m args below meth c 3 D A 0 0 Q 83 [] [] (w_X5_mixNode ad cI cD mlen mnodes mlinks mwk bcode hass kwk E tab mdeg mrot marr mdep)) → Wd p l e { frames := 1, cells := 0, slots := 0, locals := 22 } s m args below meth c 3 D A 0 0 Q 35 [(0, .ref (ad 0)), (1, .int p1), (2, .int st.1)] [] (w_X5_mixNode ad cI cD mlen mnodes mlinks mwk bcode hass kwk st.2 tab mdeg mrot marr mdep) := by
  intro n
  induction n with
  | zero => intro st E h; cases h
  | succ n ih =>
    intro st E h kx
    obtain ⟨b, h, hk⟩ := iter_step h
    unfold b_X5_mixNode_35 at h
    refine wd_iload_n (j := 36) C 2 dX5_mixNode_35 rfl rfl rfl ?_
    refine wd_aload_n (j := 37) C 0 dX5_mixNode_36 rfl rfl rfl ?_
    refine wd_get (j := 40) (q0 := 0) (f := 5) (ci := 5) (v := .ref (ad 3)) C inX5_mixNode_X5 kX5_mixNode_1 rfl (by decide) rfl rfl dX5_mixNode_37 rfl ?_
    refine wd_iload_n (j := 41) C 1 dX5_mixNode_40 rfl rfl rfl ?_
    obtain ⟨g1, h⟩ := grd_some h
    refine wd_iald (j := 42) (q0 := 2) (t0 := 0) C rfl rfl (inB_in g1) dX5_mixNode_41 rfl ?_
    refine wd_icmp_ge (j := 45) (t := 83) C dX5_mixNode_42 (by decide) rfl (fun c2 => ?_) (fun c2 => ?_)
    · replace h := (if_pos c2).symm.trans h
      obtain rfl := Option.some.inj h
      obtain rfl := hk
      refine wd_lv (lv' := []) [] rfl ?_
      exact kx
    · replace h := (if_neg c2).symm.trans h
      refine wd_aload_n (j := 46) C 0 dX5_mixNode_45 rfl rfl rfl ?_
      refine wd_aload_n (j := 47) C 0 dX5_mixNode_46 rfl rfl rfl ?_
      refine wd_get (j := 50) (q0 := 0) (f := 4) (ci := 5) (v := .ref (ad 2)) C inX5_mixNode_X5 kX5_mixNode_4 rfl (by decide) rfl rfl dX5_mixNode_47 rfl ?_
      refine wd_bipush (j := 52) (v := 8) C dX5_mixNode_50 (by decide) rfl ?_
      refine wd_iload_n (j := 53) C 1 dX5_mixNode_52 rfl rfl rfl ?_
      refine wd_imul (j := 54) C dX5_mixNode_53 rfl ?_
      refine wd_iload_n (j := 55) C 2 dX5_mixNode_54 rfl rfl rfl ?_
      refine wd_iadd (j := 56) C dX5_mixNode_55 rfl ?_
      obtain ⟨g3, h⟩ := grd_some h
      refine wd_iald (j := 57) (q0 := 1) (t0 := 0) C rfl rfl (inB_in g3) dX5_mixNode_56 rfl ?_
      refine wd_i2l (j := 58) C dX5_mixNode_57 rfl ?_
      obtain ⟨u4, hu4, h⟩ := bnd_some h
      refine wd_callVv (j := 61) (q0 := 0) (ci := 5) (As := [.long ((tab (((8 : Int32) * p1) + st.1).toNatClampNeg).toInt64)]) (rest := []) (ws' := (w_X5_mixNode ad cI cD mlen mnodes mlinks mwk bcode hass kwk u4 tab mdeg mrot marr mdep)) C (c_X5_mix l D cI cD ad mlen mnodes mlinks mwk bcode hass kwk st.2 ((tab (((8 : Int32) * p1) + st.1).toNatClampNeg).toInt64) u4 hu4) (cwV 1 C.1.2.2.2.2 gX5_mixNode_X5_mix rfl rfl rfl (by decide +kernel) ⟨Nat.le_of_ble_eq_true rfl, Nat.le_of_ble_eq_true rfl⟩) rfl rfl [0] [1, 2, 3, 4, 5] rfl rfl rfl rfl (by decide) [5, 0, 1, 2, 3, 4] rfl rfl rfl (Nat.le_of_ble_eq_true rfl) (Nat.le_of_ble_eq_true rfl) (Nat.le_of_ble_eq_true rfl) dX5_mixNode_58 rfl ?_
      refine wd_aload_n (j := 62) C 0 dX5_mixNode_61 rfl rfl rfl ?_
      refine wd_aload_n (j := 63) C 0 dX5_mixNode_62 rfl rfl rfl ?_
      refine wd_get (j := 66) (q0 := 0) (f := 10) (ci := 5) (v := .ref (ad 7)) C inX5_mixNode_X5 kX5_mixNode_5 rfl (by decide) rfl rfl dX5_mixNode_63 rfl ?_
      refine wd_bipush (j := 68) (v := 8) C dX5_mixNode_66 (by decide) rfl ?_
      refine wd_iload_n (j := 69) C 1 dX5_mixNode_68 rfl rfl rfl ?_
      refine wd_imul (j := 70) C dX5_mixNode_69 rfl ?_
      refine wd_iload_n (j := 71) C 2 dX5_mixNode_70 rfl rfl rfl ?_
      refine wd_iadd (j := 72) C dX5_mixNode_71 rfl ?_
      obtain ⟨g5, h⟩ := grd_some h
      refine wd_iald (j := 73) (q0 := 5) (t0 := 0) C rfl rfl (inB_in g5) dX5_mixNode_72 rfl ?_
      refine wd_i2l (j := 74) C dX5_mixNode_73 rfl ?_
      obtain ⟨u6, hu6, h⟩ := bnd_some h
      refine wd_callVv (j := 77) (q0 := 0) (ci := 5) (As := [.long ((mdep (((8 : Int32) * p1) + st.1).toNatClampNeg).toInt64)]) (rest := []) (ws' := (w_X5_mixNode ad cI cD mlen mnodes mlinks mwk bcode hass kwk u6 tab mdeg mrot marr mdep)) C (c_X5_mix l D cI cD ad mlen mnodes mlinks mwk bcode hass kwk u4 ((mdep (((8 : Int32) * p1) + st.1).toNatClampNeg).toInt64) u6 hu6) (cwV 1 C.1.2.2.2.2 gX5_mixNode_X5_mix rfl rfl rfl (by decide +kernel) ⟨Nat.le_of_ble_eq_true rfl, Nat.le_of_ble_eq_true rfl⟩) rfl rfl [0] [1, 2, 3, 4, 5] rfl rfl rfl rfl (by decide) [5, 0, 1, 2, 3, 4] rfl rfl rfl (Nat.le_of_ble_eq_true rfl) (Nat.le_of_ble_eq_true rfl) (Nat.le_of_ble_eq_true rfl) dX5_mixNode_74 rfl ?_
      refine wd_iinc (j := 80) (lv' := [(2, .int (st.1 + 1)), (0, .ref (ad 0)), (1, .int p1)]) C 2 dX5_mixNode_77 rfl rfl (by decide) rfl rfl ?_
      refine wd_goto (t := 35) C dX5_mixNode_80 (by decide) ?_
      obtain rfl := Option.some.inj h
      refine wd_lv (lv' := [(0, .ref (ad 0)), (1, .int p1), (2, .int (st.1 + 1))]) [1, 2, 0] rfl ?_
      exact ih ((st.1 + 1), u6) E hk kx
set_option maxRecDepth 100000 in
set_option maxHeartbeats 4000000 in
theorem c_X5_mixNode (l : Launch) (D : va_G) (cI cD : ClassId) (ad : Nat → Nat) (N : Nat) (mlen : Int32) (mnodes : Int32) (mlinks : Int32) (mwk : Int32) (bcode : Int32) (hass : Int32) (kwk : Int32) (hsh : Int64) (tab : Nat → Int32) (mdeg : Nat → Int32) (mrot : Nat → Int32) (marr : Nat → Int32) (mdep : Nat → Int32) (p1 : Int32) (u : Int64) (h : f_X5_mixNode N hsh tab mdeg mrot marr mdep p1 = some u) : MetV l yX5_mixNode wsX5_mixNode { frames := 1, cells := 0, slots := 0, locals := 22 } D [(cI, .int), (cD, .double)] [.ref (ad 0), .int p1] (w_X5_mixNode ad cI cD mlen mnodes mlinks mwk bcode hass kwk hsh tab mdeg mrot marr mdep) (w_X5_mixNode ad cI cD mlen mnodes mlinks mwk bcode hass kwk u tab mdeg mrot marr mdep) := by
  refine MetV.of (own := RX5) (cc := cX5_mixNode) (nL := 3) (ret := none) (by decide) rfl rfl (Nat.le_of_ble_eq_true rfl) rfl ?_
  intro p e s m args below meth c A hA C hr hlk
  unfold f_X5_mixNode at h
  refine wd_aload_n (j := 1) C 0 dX5_mixNode_0 rfl rfl rfl ?_
  refine wd_aload_n (j := 2) C 0 dX5_mixNode_1 rfl rfl rfl ?_
  refine wd_get (j := 5) (q0 := 0) (f := 5) (ci := 5) (v := .ref (ad 3)) C inX5_mixNode_X5 kX5_mixNode_1 rfl (by decide) rfl rfl dX5_mixNode_2 rfl ?_
  refine wd_iload_n (j := 6) C 1 dX5_mixNode_5 rfl rfl rfl ?_
  obtain ⟨g7, h⟩ := grd_some h
  refine wd_iald (j := 7) (q0 := 2) (t0 := 0) C rfl rfl (inB_in g7) dX5_mixNode_6 rfl ?_
  refine wd_i2l (j := 8) C dX5_mixNode_7 rfl ?_
  obtain ⟨u8, hu8, h⟩ := bnd_some h
  refine wd_callVv (j := 11) (q0 := 0) (ci := 5) (As := [.long ((mdeg p1.toNatClampNeg).toInt64)]) (rest := []) (ws' := (w_X5_mixNode ad cI cD mlen mnodes mlinks mwk bcode hass kwk u8 tab mdeg mrot marr mdep)) C (c_X5_mix l D cI cD ad mlen mnodes mlinks mwk bcode hass kwk hsh ((mdeg p1.toNatClampNeg).toInt64) u8 hu8) (cwV 1 C.1.2.2.2.2 gX5_mixNode_X5_mix rfl rfl rfl (by decide +kernel) ⟨Nat.le_of_ble_eq_true rfl, Nat.le_of_ble_eq_true rfl⟩) rfl rfl [0] [1, 2, 3, 4, 5] rfl rfl rfl rfl (by decide) [5, 0, 1, 2, 3, 4] rfl rfl rfl (Nat.le_of_ble_eq_true rfl) (Nat.le_of_ble_eq_true rfl) (Nat.le_of_ble_eq_true rfl) dX5_mixNode_8 rfl ?_
  refine wd_aload_n (j := 12) C 0 dX5_mixNode_11 rfl rfl rfl ?_
  refine wd_aload_n (j := 13) C 0 dX5_mixNode_12 rfl rfl rfl ?_
  refine wd_get (j := 16) (q0 := 0) (f := 6) (ci := 5) (v := .ref (ad 4)) C inX5_mixNode_X5 kX5_mixNode_2 rfl (by decide) rfl rfl dX5_mixNode_13 rfl ?_
  refine wd_iload_n (j := 17) C 1 dX5_mixNode_16 rfl rfl rfl ?_
  obtain ⟨g9, h⟩ := grd_some h
  refine wd_iald (j := 18) (q0 := 3) (t0 := 0) C rfl rfl (inB_in g9) dX5_mixNode_17 rfl ?_
  refine wd_i2l (j := 19) C dX5_mixNode_18 rfl ?_
  obtain ⟨u10, hu10, h⟩ := bnd_some h
  refine wd_callVv (j := 22) (q0 := 0) (ci := 5) (As := [.long ((mrot p1.toNatClampNeg).toInt64)]) (rest := []) (ws' := (w_X5_mixNode ad cI cD mlen mnodes mlinks mwk bcode hass kwk u10 tab mdeg mrot marr mdep)) C (c_X5_mix l D cI cD ad mlen mnodes mlinks mwk bcode hass kwk u8 ((mrot p1.toNatClampNeg).toInt64) u10 hu10) (cwV 1 C.1.2.2.2.2 gX5_mixNode_X5_mix rfl rfl rfl (by decide +kernel) ⟨Nat.le_of_ble_eq_true rfl, Nat.le_of_ble_eq_true rfl⟩) rfl rfl [0] [1, 2, 3, 4, 5] rfl rfl rfl rfl (by decide) [5, 0, 1, 2, 3, 4] rfl rfl rfl (Nat.le_of_ble_eq_true rfl) (Nat.le_of_ble_eq_true rfl) (Nat.le_of_ble_eq_true rfl) dX5_mixNode_19 rfl ?_
  refine wd_aload_n (j := 23) C 0 dX5_mixNode_22 rfl rfl rfl ?_
  refine wd_aload_n (j := 24) C 0 dX5_mixNode_23 rfl rfl rfl ?_
  refine wd_get (j := 27) (q0 := 0) (f := 9) (ci := 5) (v := .ref (ad 6)) C inX5_mixNode_X5 kX5_mixNode_3 rfl (by decide) rfl rfl dX5_mixNode_24 rfl ?_
  refine wd_iload_n (j := 28) C 1 dX5_mixNode_27 rfl rfl rfl ?_
  obtain ⟨g11, h⟩ := grd_some h
  refine wd_iald (j := 29) (q0 := 4) (t0 := 0) C rfl rfl (inB_in g11) dX5_mixNode_28 rfl ?_
  refine wd_i2l (j := 30) C dX5_mixNode_29 rfl ?_
  obtain ⟨u12, hu12, h⟩ := bnd_some h
  refine wd_callVv (j := 33) (q0 := 0) (ci := 5) (As := [.long ((marr p1.toNatClampNeg).toInt64)]) (rest := []) (ws' := (w_X5_mixNode ad cI cD mlen mnodes mlinks mwk bcode hass kwk u12 tab mdeg mrot marr mdep)) C (c_X5_mix l D cI cD ad mlen mnodes mlinks mwk bcode hass kwk u10 ((marr p1.toNatClampNeg).toInt64) u12 hu12) (cwV 1 C.1.2.2.2.2 gX5_mixNode_X5_mix rfl rfl rfl (by decide +kernel) ⟨Nat.le_of_ble_eq_true rfl, Nat.le_of_ble_eq_true rfl⟩) rfl rfl [0] [1, 2, 3, 4, 5] rfl rfl rfl rfl (by decide) [5, 0, 1, 2, 3, 4] rfl rfl rfl (Nat.le_of_ble_eq_true rfl) (Nat.le_of_ble_eq_true rfl) (Nat.le_of_ble_eq_true rfl) dX5_mixNode_30 rfl ?_
  refine wd_iconst (j := 34) (v := 0) C dX5_mixNode_33 (by decide) rfl ?_
  refine wd_istore_n (j := 35) (lv' := [(2, .int (0 : Int32)), (0, .ref (ad 0)), (1, .int p1)]) C dX5_mixNode_34 rfl (by decide) rfl rfl ?_
  refine wd_lv (lv' := [(0, .ref (ad 0)), (1, .int p1), (2, .int (0 : Int32))]) [1, 2, 0] rfl ?_
  obtain ⟨u13, hu13, h⟩ := bnd_some h
  refine lw_X5_mixNode_35 l D cI cD ad N mlen mnodes mlinks mwk bcode hass kwk mrot marr tab mdeg mdep p1 C N ((0 : Int32), u12) u13 hu13 ?_
  obtain rfl := Option.some.inj h
  exact wd_vret C hA hr hlk rfl dX5_mixNode_83
abbrev w_X5_digest (ad : Nat → Nat) (cI cD : ClassId) (mlen : Int32) (mnodes : Int32) (mlinks : Int32) (mwk : Int32) (bcode : Int32) (hass : Int32) (kwk : Int32) (hsh : Int64) (buf : Nat → Int32) (tab : Nat → Int32) (mdeg : Nat → Int32) (mrot : Nat → Int32) (plc : Nat → Int32) (marr : Nat → Int32) (mdep : Nat → Int32) (fsr : Nat → Int32) (snr : Nat → Int32) (chn : Nat → UInt64) (aft : Nat → UInt64) : va_W := [((ad 0), .inr (5, [.int mlen, .ref (ad 1), .int mnodes, .int mlinks, .ref (ad 2), .ref (ad 3), .ref (ad 4), .int mwk, .ref (ad 5), .ref (ad 6), .ref (ad 7), .ref (ad 8), .ref (ad 9), .int bcode, .ref (ad 10), .ref (ad 11), .int hass, .int kwk, .ref (ad 12), .ref (ad 13), .ref (ad 14), .ref (ad 15), .long hsh])), ((ad 1), .inl (cI, 40, .inl buf)), ((ad 2), .inl (cI, 64, .inl tab)), ((ad 3), .inl (cI, 8, .inl mdeg)), ((ad 4), .inl (cI, 8, .inl mrot)), ((ad 5), .inl (cI, 4, .inl plc)), ((ad 6), .inl (cI, 8, .inl marr)), ((ad 7), .inl (cI, 64, .inl mdep)), ((ad 8), .inl (cI, 8, .inl fsr)), ((ad 9), .inl (cI, 8, .inl snr)), ((ad 10), .inl (cD, 8, .inr (.inr (.inr (.inl chn))))), ((ad 11), .inl (cD, 8, .inr (.inr (.inr (.inl aft)))))]
theorem kX5_digest_1 : Cond.constantLong "RotorRouterModel" 180 1753 ∈ wsX5_digest := List.mem_of_getElem? (i := 1) rfl
theorem kX5_digest_2 : Cond.fieldLink "RotorRouterModel" 172 "RotorRouterModel" "hash" "J" ∈ wsX5_digest := List.mem_of_getElem? (i := 2) rfl
theorem kX5_digest_3 : Cond.fieldLink "RotorRouterModel" 82 "RotorRouterModel" "nodes" "I" ∈ wsX5_digest := List.mem_of_getElem? (i := 3) rfl
theorem kX5_digest_4 : Cond.fieldLink "RotorRouterModel" 85 "RotorRouterModel" "links" "I" ∈ wsX5_digest := List.mem_of_getElem? (i := 4) rfl
theorem kX5_digest_5 : Cond.fieldLink "RotorRouterModel" 92 "RotorRouterModel" "walkers" "I" ∈ wsX5_digest := List.mem_of_getElem? (i := 5) rfl
theorem kX5_digest_6 : Cond.fieldLink "RotorRouterModel" 22 "RotorRouterModel" "places" "[I" ∈ wsX5_digest := List.mem_of_getElem? (i := 6) rfl
theorem kX5_digest_7 : Cond.fieldLink "RotorRouterModel" 60 "RotorRouterModel" "length" "I" ∈ wsX5_digest := List.mem_of_getElem? (i := 7) rfl
theorem kX5_digest_8 : Cond.fieldLink "RotorRouterModel" 7 "RotorRouterModel" "buffer" "[I" ∈ wsX5_digest := List.mem_of_getElem? (i := 8) rfl
theorem inX5_digest_X5 : ∀ w ∈ wsX50, w ∈ wsX5_digest := fun _ h => List.mem_cons_of_mem _ (List.mem_append_right _ h)
set_option maxRecDepth 100000 in
set_option maxHeartbeats 4000000 in
theorem lw_X5_digest_27 (l : Launch) (D : va_G) (cI cD : ClassId) (ad : Nat → Nat) (N : Nat) (mlen : Int32) (mlinks : Int32) (mwk : Int32) (bcode : Int32) (hass : Int32) (kwk : Int32) (buf : Nat → Int32) (plc : Nat → Int32) (fsr : Nat → Int32) (snr : Nat → Int32) (chn : Nat → UInt64) (aft : Nat → UInt64) (mnodes : Int32) (tab : Nat → Int32) (mdeg : Nat → Int32) (mrot : Nat → Int32) (marr : Nat → Int32) (mdep : Nat → Int32)  {p : Program} {e : Env} {s : State} {m : MethodId} {args : Array Value} {below : List Frame} {meth : Method} {c : Code} {A : Nat → Prop} {Q : State → Prop} (C : wd_C p m c cX5_digest 2 s args wsX5_digest RX5 D [(cI, .int), (cD, .double)] A) : ∀ (n : Nat) (st : Int32 × Int64) (E : Int64), iter (b_X5_digest_27 N mnodes tab mdeg mrot marr mdep) n st = some E → (Wd p l e { frames := 3, cells := 0, slots := 0, locals := 87 } s m args below meth c 2 D A 0 0 Q 46 [(0, .ref (ad 0))] [] (w_X5_digest ad cI cD mlen mnodes mlinks mwk bcode hass kwk E buf tab mdeg mrot plc marr mdep fsr snr chn aft)) → Wd p l e { frames := 3, cells := 0, slots := 0, locals := 87 } s m args below meth c 2 D A 0 0 Q 27 [(0, .ref (ad 0)), (1, .int st.1)] [] (w_X5_digest ad cI cD mlen mnodes mlinks mwk bcode hass kwk st.2 buf tab mdeg mrot plc marr mdep fsr snr chn aft) := by
  intro n
  induction n with
  | zero => intro st E h; cases h
  | succ n ih =>
    intro st E h kx
    obtain ⟨b, h, hk⟩ := iter_step h
    unfold b_X5_digest_27 at h
    refine wd_iload_n (j := 28) C 1 dX5_digest_27 rfl rfl rfl ?_
    refine wd_aload_n (j := 29) C 0 dX5_digest_28 rfl rfl rfl ?_
    refine wd_get (j := 32) (q0 := 0) (f := 2) (ci := 5) (v := .int mnodes) C inX5_digest_X5 kX5_digest_3 rfl (by decide) rfl rfl dX5_digest_29 rfl ?_
    refine wd_icmp_ge (j := 35) (t := 46) C dX5_digest_32 (by decide) rfl (fun c1 => ?_) (fun c1 => ?_)
    · replace h := (if_pos c1).symm.trans h
      obtain rfl := Option.some.inj h
      obtain rfl := hk
      refine wd_lv (lv' := [(0, .ref (ad 0))]) [0] rfl ?_
      exact kx
    · replace h := (if_neg c1).symm.trans h
      refine wd_aload_n (j := 36) C 0 dX5_digest_35 rfl rfl rfl ?_
      refine wd_iload_n (j := 37) C 1 dX5_digest_36 rfl rfl rfl ?_
      obtain ⟨u2, hu2, h⟩ := bnd_some h
      refine wd_callVv (j := 40) (q0 := 0) (ci := 5) (As := [.int st.1]) (rest := []) (ws' := (w_X5_digest ad cI cD mlen mnodes mlinks mwk bcode hass kwk u2 buf tab mdeg mrot plc marr mdep fsr snr chn aft)) C (c_X5_mixNode l D cI cD ad N mlen mnodes mlinks mwk bcode hass kwk st.2 tab mdeg mrot marr mdep st.1 u2 hu2) (cwV 1 C.1.2.2.2.2 gX5_digest_X5_mixNode rfl rfl rfl (by decide +kernel) ⟨Nat.le_of_ble_eq_true rfl, Nat.le_of_ble_eq_true rfl⟩) rfl rfl [0, 2, 3, 4, 6, 7] [1, 5, 8, 9, 10, 11] rfl rfl rfl rfl (by decide) [6, 0, 7, 8, 9, 1, 10, 11, 2, 3, 4, 5] rfl rfl rfl (Nat.le_of_ble_eq_true rfl) (Nat.le_of_ble_eq_true rfl) (Nat.le_of_ble_eq_true rfl) dX5_digest_37 rfl ?_
      refine wd_iinc (j := 43) (lv' := [(1, .int (st.1 + 1)), (0, .ref (ad 0))]) C 1 dX5_digest_40 rfl rfl (by decide) rfl rfl ?_
      refine wd_goto (t := 27) C dX5_digest_43 (by decide) ?_
      obtain rfl := Option.some.inj h
      refine wd_lv (lv' := [(0, .ref (ad 0)), (1, .int (st.1 + 1))]) [1, 0] rfl ?_
      exact ih ((st.1 + 1), u2) E hk kx
set_option maxRecDepth 100000 in
set_option maxHeartbeats 4000000 in
theorem lw_X5_digest_159 (l : Launch) (D : va_G) (cI cD : ClassId) (ad : Nat → Nat) (N : Nat) (mnodes : Int32) (mlinks : Int32) (mwk : Int32) (bcode : Int32) (hass : Int32) (kwk : Int32) (tab : Nat → Int32) (mdeg : Nat → Int32) (mrot : Nat → Int32) (plc : Nat → Int32) (marr : Nat → Int32) (mdep : Nat → Int32) (fsr : Nat → Int32) (snr : Nat → Int32) (chn : Nat → UInt64) (aft : Nat → UInt64) (mlen : Int32) (buf : Nat → Int32)  {p : Program} {e : Env} {s : State} {m : MethodId} {args : Array Value} {below : List Frame} {meth : Method} {c : Code} {A : Nat → Prop} {Q : State → Prop} (C : wd_C p m c cX5_digest 2 s args wsX5_digest RX5 D [(cI, .int), (cD, .double)] A) : ∀ (n : Nat) (st : Int32 × Int64) (E : Int64), iter (b_X5_digest_159 mlen buf) n st = some E → (Wd p l e { frames := 3, cells := 0, slots := 0, locals := 87 } s m args below meth c 2 D A 0 0 Q 184 [(0, .ref (ad 0))] [] (w_X5_digest ad cI cD mlen mnodes mlinks mwk bcode hass kwk E buf tab mdeg mrot plc marr mdep fsr snr chn aft)) → Wd p l e { frames := 3, cells := 0, slots := 0, locals := 87 } s m args below meth c 2 D A 0 0 Q 159 [(0, .ref (ad 0)), (1, .int st.1)] [] (w_X5_digest ad cI cD mlen mnodes mlinks mwk bcode hass kwk st.2 buf tab mdeg mrot plc marr mdep fsr snr chn aft) := by
  intro n
  induction n with
  | zero => intro st E h; cases h
  | succ n ih =>
    intro st E h kx
    obtain ⟨b, h, hk⟩ := iter_step h
    unfold b_X5_digest_159 at h
    refine wd_iload_n (j := 160) C 1 dX5_digest_159 rfl rfl rfl ?_
    refine wd_aload_n (j := 161) C 0 dX5_digest_160 rfl rfl rfl ?_
    refine wd_get (j := 164) (q0 := 0) (f := 0) (ci := 5) (v := .int mlen) C inX5_digest_X5 kX5_digest_7 rfl (by decide) rfl rfl dX5_digest_161 rfl ?_
    refine wd_icmp_ge (j := 167) (t := 184) C dX5_digest_164 (by decide) rfl (fun c3 => ?_) (fun c3 => ?_)
    · replace h := (if_pos c3).symm.trans h
      obtain rfl := Option.some.inj h
      obtain rfl := hk
      refine wd_lv (lv' := [(0, .ref (ad 0))]) [0] rfl ?_
      exact kx
    · replace h := (if_neg c3).symm.trans h
      refine wd_aload_n (j := 168) C 0 dX5_digest_167 rfl rfl rfl ?_
      refine wd_aload_n (j := 169) C 0 dX5_digest_168 rfl rfl rfl ?_
      refine wd_get (j := 172) (q0 := 0) (f := 1) (ci := 5) (v := .ref (ad 1)) C inX5_digest_X5 kX5_digest_8 rfl (by decide) rfl rfl dX5_digest_169 rfl ?_
      refine wd_iload_n (j := 173) C 1 dX5_digest_172 rfl rfl rfl ?_
      obtain ⟨g4, h⟩ := grd_some h
      refine wd_iald (j := 174) (q0 := 1) (t0 := 0) C rfl rfl (inB_in g4) dX5_digest_173 rfl ?_
      refine wd_i2l (j := 175) C dX5_digest_174 rfl ?_
      obtain ⟨u5, hu5, h⟩ := bnd_some h
      refine wd_callVv (j := 178) (q0 := 0) (ci := 5) (As := [.long ((buf st.1.toNatClampNeg).toInt64)]) (rest := []) (ws' := (w_X5_digest ad cI cD mlen mnodes mlinks mwk bcode hass kwk u5 buf tab mdeg mrot plc marr mdep fsr snr chn aft)) C (c_X5_mix l D cI cD ad mlen mnodes mlinks mwk bcode hass kwk st.2 ((buf st.1.toNatClampNeg).toInt64) u5 hu5) (cwV 1 C.1.2.2.2.2 gX5_digest_X5_mix rfl rfl rfl (by decide +kernel) ⟨Nat.le_of_ble_eq_true rfl, Nat.le_of_ble_eq_true rfl⟩) rfl rfl [0] [1, 2, 3, 4, 5, 6, 7, 8, 9, 10, 11] rfl rfl rfl rfl (by decide) [11, 0, 1, 2, 3, 4, 5, 6, 7, 8, 9, 10] rfl rfl rfl (Nat.le_of_ble_eq_true rfl) (Nat.le_of_ble_eq_true rfl) (Nat.le_of_ble_eq_true rfl) dX5_digest_175 rfl ?_
      refine wd_iinc (j := 181) (lv' := [(1, .int (st.1 + 1)), (0, .ref (ad 0))]) C 1 dX5_digest_178 rfl rfl (by decide) rfl rfl ?_
      refine wd_goto (t := 159) C dX5_digest_181 (by decide) ?_
      obtain rfl := Option.some.inj h
      refine wd_lv (lv' := [(0, .ref (ad 0)), (1, .int (st.1 + 1))]) [1, 0] rfl ?_
      exact ih ((st.1 + 1), u5) E hk kx
set_option maxRecDepth 100000 in
set_option maxHeartbeats 4000000 in
theorem lw_X5_digest_57 (l : Launch) (D : va_G) (cI cD : ClassId) (ad : Nat → Nat) (N : Nat) (mlen : Int32) (bcode : Int32) (hass : Int32) (kwk : Int32) (buf : Nat → Int32) (marr : Nat → Int32) (mdep : Nat → Int32) (chn : Nat → UInt64) (aft : Nat → UInt64) (mnodes : Int32) (mlinks : Int32) (mwk : Int32) (tab : Nat → Int32) (mdeg : Nat → Int32) (mrot : Nat → Int32) (plc : Nat → Int32)  {p : Program} {e : Env} {s : State} {m : MethodId} {args : Array Value} {below : List Frame} {meth : Method} {c : Code} {A : Nat → Prop} {Q : State → Prop} (C : wd_C p m c cX5_digest 2 s args wsX5_digest RX5 D [(cI, .int), (cD, .double)] A) : ∀ (n : Nat) (st : Int32 × Int64 × (Nat → Int32) × (Nat → Int32)) (E : Int64 × (Nat → Int32) × (Nat → Int32)), iter (b_X5_digest_57 N mnodes mlinks mwk tab mdeg mrot plc) n st = some E → (Wd p l e { frames := 3, cells := 0, slots := 0, locals := 87 } s m args below meth c 2 D A 0 0 Q 102 [(0, .ref (ad 0))] [] (w_X5_digest ad cI cD mlen mnodes mlinks mwk bcode hass kwk E.1 buf tab mdeg mrot plc marr mdep E.2.1 E.2.2 chn aft)) → Wd p l e { frames := 3, cells := 0, slots := 0, locals := 87 } s m args below meth c 2 D A 0 0 Q 57 [(0, .ref (ad 0)), (1, .int st.1)] [] (w_X5_digest ad cI cD mlen mnodes mlinks mwk bcode hass kwk st.2.1 buf tab mdeg mrot plc marr mdep st.2.2.1 st.2.2.2 chn aft) := by
  intro n
  induction n with
  | zero => intro st E h; cases h
  | succ n ih =>
    intro st E h kx
    obtain ⟨b, h, hk⟩ := iter_step h
    unfold b_X5_digest_57 at h
    refine wd_iload_n (j := 58) C 1 dX5_digest_57 rfl rfl rfl ?_
    refine wd_aload_n (j := 59) C 0 dX5_digest_58 rfl rfl rfl ?_
    refine wd_get (j := 62) (q0 := 0) (f := 7) (ci := 5) (v := .int mwk) C inX5_digest_X5 kX5_digest_5 rfl (by decide) rfl rfl dX5_digest_59 rfl ?_
    refine wd_icmp_ge (j := 65) (t := 102) C dX5_digest_62 (by decide) rfl (fun c6 => ?_) (fun c6 => ?_)
    · replace h := (if_pos c6).symm.trans h
      obtain rfl := Option.some.inj h
      obtain rfl := hk
      refine wd_lv (lv' := [(0, .ref (ad 0))]) [0] rfl ?_
      exact kx
    · replace h := (if_neg c6).symm.trans h
      refine wd_aload_n (j := 66) C 0 dX5_digest_65 rfl rfl rfl ?_
      refine wd_aload_n (j := 67) C 0 dX5_digest_66 rfl rfl rfl ?_
      refine wd_get (j := 70) (q0 := 0) (f := 8) (ci := 5) (v := .ref (ad 5)) C inX5_digest_X5 kX5_digest_6 rfl (by decide) rfl rfl dX5_digest_67 rfl ?_
      refine wd_iload_n (j := 71) C 1 dX5_digest_70 rfl rfl rfl ?_
      obtain ⟨g7, h⟩ := grd_some h
      refine wd_iald (j := 72) (q0 := 5) (t0 := 0) C rfl rfl (inB_in g7) dX5_digest_71 rfl ?_
      refine wd_i2l (j := 73) C dX5_digest_72 rfl ?_
      obtain ⟨u8, hu8, h⟩ := bnd_some h
      refine wd_callVv (j := 76) (q0 := 0) (ci := 5) (As := [.long ((plc st.1.toNatClampNeg).toInt64)]) (rest := []) (ws' := (w_X5_digest ad cI cD mlen mnodes mlinks mwk bcode hass kwk u8 buf tab mdeg mrot plc marr mdep st.2.2.1 st.2.2.2 chn aft)) C (c_X5_mix l D cI cD ad mlen mnodes mlinks mwk bcode hass kwk st.2.1 ((plc st.1.toNatClampNeg).toInt64) u8 hu8) (cwV 1 C.1.2.2.2.2 gX5_digest_X5_mix rfl rfl rfl (by decide +kernel) ⟨Nat.le_of_ble_eq_true rfl, Nat.le_of_ble_eq_true rfl⟩) rfl rfl [0] [1, 2, 3, 4, 5, 6, 7, 8, 9, 10, 11] rfl rfl rfl rfl (by decide) [11, 0, 1, 2, 3, 4, 5, 6, 7, 8, 9, 10] rfl rfl rfl (Nat.le_of_ble_eq_true rfl) (Nat.le_of_ble_eq_true rfl) (Nat.le_of_ble_eq_true rfl) dX5_digest_73 rfl ?_
      refine wd_aload_n (j := 77) C 0 dX5_digest_76 rfl rfl rfl ?_
      refine wd_aload_n (j := 78) C 0 dX5_digest_77 rfl rfl rfl ?_
      refine wd_iload_n (j := 79) C 1 dX5_digest_78 rfl rfl rfl ?_
      obtain ⟨u9, hu9, h⟩ := bnd_some h
      refine wd_callVi (j := 82) (q0 := 0) (ci := 5) (As := [.int st.1]) (rest := [.ref (ad 0)]) (ws' := (w_X5_digest ad cI cD mlen mnodes mlinks mwk bcode hass kwk u8 buf tab mdeg mrot plc marr mdep u9.2.1 u9.2.2 chn aft)) C (c_X5_cycleOf l D cI cD ad N mlen mnodes mlinks mwk bcode hass kwk u8 tab mdeg mrot plc st.2.2.1 st.2.2.2 st.1 u9 hu9) (cwV 1 C.1.2.2.2.2 gX5_digest_X5_cycleOf rfl rfl rfl (by decide +kernel) ⟨Nat.le_of_ble_eq_true rfl, Nat.le_of_ble_eq_true rfl⟩) rfl rfl [0, 2, 3, 4, 5, 8, 9] [1, 6, 7, 10, 11] rfl rfl rfl rfl (by decide) [5, 0, 6, 7, 8, 9, 1, 2, 10, 11, 3, 4] rfl rfl rfl (Nat.le_of_ble_eq_true rfl) (Nat.le_of_ble_eq_true rfl) (Nat.le_of_ble_eq_true rfl) dX5_digest_79 rfl ?_
      refine wd_i2l (j := 83) C dX5_digest_82 rfl ?_
      obtain ⟨u10, hu10, h⟩ := bnd_some h
      refine wd_callVv (j := 86) (q0 := 0) (ci := 5) (As := [.long u9.1.toInt64]) (rest := []) (ws' := (w_X5_digest ad cI cD mlen mnodes mlinks mwk bcode hass kwk u10 buf tab mdeg mrot plc marr mdep u9.2.1 u9.2.2 chn aft)) C (c_X5_mix l D cI cD ad mlen mnodes mlinks mwk bcode hass kwk u8 u9.1.toInt64 u10 hu10) (cwV 1 C.1.2.2.2.2 gX5_digest_X5_mix rfl rfl rfl (by decide +kernel) ⟨Nat.le_of_ble_eq_true rfl, Nat.le_of_ble_eq_true rfl⟩) rfl rfl [0] [1, 2, 3, 4, 5, 6, 7, 8, 9, 10, 11] rfl rfl rfl rfl (by decide) [11, 0, 1, 2, 3, 4, 5, 6, 7, 8, 9, 10] rfl rfl rfl (Nat.le_of_ble_eq_true rfl) (Nat.le_of_ble_eq_true rfl) (Nat.le_of_ble_eq_true rfl) dX5_digest_83 rfl ?_
      refine wd_aload_n (j := 87) C 0 dX5_digest_86 rfl rfl rfl ?_
      refine wd_aload_n (j := 88) C 0 dX5_digest_87 rfl rfl rfl ?_
      refine wd_iload_n (j := 89) C 1 dX5_digest_88 rfl rfl rfl ?_
      obtain ⟨u11, hu11, h⟩ := bnd_some h
      refine wd_callVi (j := 92) (q0 := 0) (ci := 5) (As := [.int st.1]) (rest := [.ref (ad 0)]) (ws' := (w_X5_digest ad cI cD mlen mnodes mlinks mwk bcode hass kwk u10 buf tab mdeg mrot plc marr mdep u11.2 u9.2.2 chn aft)) C (c_X5_coverOf l D cI cD ad N mlen mnodes mlinks mwk bcode hass kwk u10 tab mdeg mrot plc u9.2.1 st.1 u11 hu11) (cwV 1 C.1.2.2.2.2 gX5_digest_X5_coverOf rfl rfl rfl (by decide +kernel) ⟨Nat.le_of_ble_eq_true rfl, Nat.le_of_ble_eq_true rfl⟩) rfl rfl [0, 2, 3, 4, 5, 8] [1, 6, 7, 9, 10, 11] rfl rfl rfl rfl (by decide) [6, 0, 7, 8, 9, 10, 1, 2, 11, 3, 4, 5] rfl rfl rfl (Nat.le_of_ble_eq_true rfl) (Nat.le_of_ble_eq_true rfl) (Nat.le_of_ble_eq_true rfl) dX5_digest_89 rfl ?_
      refine wd_i2l (j := 93) C dX5_digest_92 rfl ?_
      obtain ⟨u12, hu12, h⟩ := bnd_some h
      refine wd_callVv (j := 96) (q0 := 0) (ci := 5) (As := [.long u11.1.toInt64]) (rest := []) (ws' := (w_X5_digest ad cI cD mlen mnodes mlinks mwk bcode hass kwk u12 buf tab mdeg mrot plc marr mdep u11.2 u9.2.2 chn aft)) C (c_X5_mix l D cI cD ad mlen mnodes mlinks mwk bcode hass kwk u10 u11.1.toInt64 u12 hu12) (cwV 1 C.1.2.2.2.2 gX5_digest_X5_mix rfl rfl rfl (by decide +kernel) ⟨Nat.le_of_ble_eq_true rfl, Nat.le_of_ble_eq_true rfl⟩) rfl rfl [0] [1, 2, 3, 4, 5, 6, 7, 8, 9, 10, 11] rfl rfl rfl rfl (by decide) [11, 0, 1, 2, 3, 4, 5, 6, 7, 8, 9, 10] rfl rfl rfl (Nat.le_of_ble_eq_true rfl) (Nat.le_of_ble_eq_true rfl) (Nat.le_of_ble_eq_true rfl) dX5_digest_93 rfl ?_
      refine wd_iinc (j := 99) (lv' := [(1, .int (st.1 + 1)), (0, .ref (ad 0))]) C 1 dX5_digest_96 rfl rfl (by decide) rfl rfl ?_
      refine wd_goto (t := 57) C dX5_digest_99 (by decide) ?_
      obtain rfl := Option.some.inj h
      refine wd_lv (lv' := [(0, .ref (ad 0)), (1, .int (st.1 + 1))]) [1, 0] rfl ?_
      exact ih ((st.1 + 1), u12, u11.2, u9.2.2) E hk kx
set_option maxRecDepth 100000 in
set_option maxHeartbeats 4000000 in
theorem c_X5_digest (l : Launch) (D : va_G) (cI cD : ClassId) (ad : Nat → Nat) (N : Nat) (mlen : Int32) (mnodes : Int32) (mlinks : Int32) (mwk : Int32) (bcode : Int32) (hass : Int32) (kwk : Int32) (hsh : Int64) (buf : Nat → Int32) (tab : Nat → Int32) (mdeg : Nat → Int32) (mrot : Nat → Int32) (plc : Nat → Int32) (marr : Nat → Int32) (mdep : Nat → Int32) (fsr : Nat → Int32) (snr : Nat → Int32) (chn : Nat → UInt64) (aft : Nat → UInt64)  (u : Int64 × Int32 × Int64 × (Nat → Int32) × (Nat → Int32) × (Nat → UInt64) × (Nat → UInt64)) (h : f_X5_digest N mlen mnodes mlinks mwk bcode hsh buf tab mdeg mrot plc marr mdep fsr snr chn aft = some u) : MetL l yX5_digest wsX5_digest { frames := 3, cells := 0, slots := 0, locals := 87 } D [(cI, .int), (cD, .double)] [.ref (ad 0)] (w_X5_digest ad cI cD mlen mnodes mlinks mwk bcode hass kwk hsh buf tab mdeg mrot plc marr mdep fsr snr chn aft) u.1 (w_X5_digest ad cI cD mlen mnodes mlinks mwk u.2.1 hass kwk u.2.2.1 buf tab mdeg mrot plc marr mdep u.2.2.2.1 u.2.2.2.2.1 u.2.2.2.2.2.1 u.2.2.2.2.2.2) := by
  refine MetL.of (own := RX5) (cc := cX5_digest) (nL := 2) (ret := (some .long)) (by decide) rfl rfl (Nat.le_of_ble_eq_true rfl) rfl ?_
  intro p e s m args below meth c A hA C hr hlk
  unfold f_X5_digest at h
  refine wd_aload_n (j := 1) C 0 dX5_digest_0 rfl rfl rfl ?_
  refine wd_ldc2 (j := 4) C dX5_digest_1 kX5_digest_1 rfl ?_
  refine wd_put (j := 7) (q0 := 0) (f := 22) (ci := 5) (ws' := (w_X5_digest ad cI cD mlen mnodes mlinks mwk bcode hass kwk (1753 : Int64) buf tab mdeg mrot plc marr mdep fsr snr chn aft)) C inX5_digest_X5 tyX5 tyX5_ok nmX5 kX5_digest_2 rfl (by decide) rfl rfl rfl rfl (Nat.le_of_ble_eq_true rfl) rfl dX5_digest_4 rfl ?_
  refine wd_aload_n (j := 8) C 0 dX5_digest_7 rfl rfl rfl ?_
  refine wd_aload_n (j := 9) C 0 dX5_digest_8 rfl rfl rfl ?_
  refine wd_get (j := 12) (q0 := 0) (f := 2) (ci := 5) (v := .int mnodes) C inX5_digest_X5 kX5_digest_3 rfl (by decide) rfl rfl dX5_digest_9 rfl ?_
  refine wd_i2l (j := 13) C dX5_digest_12 rfl ?_
  obtain ⟨u13, hu13, h⟩ := bnd_some h
  refine wd_callVv (j := 16) (q0 := 0) (ci := 5) (As := [.long mnodes.toInt64]) (rest := []) (ws' := (w_X5_digest ad cI cD mlen mnodes mlinks mwk bcode hass kwk u13 buf tab mdeg mrot plc marr mdep fsr snr chn aft)) C (c_X5_mix l D cI cD ad mlen mnodes mlinks mwk bcode hass kwk (1753 : Int64) mnodes.toInt64 u13 hu13) (cwV 1 C.1.2.2.2.2 gX5_digest_X5_mix rfl rfl rfl (by decide +kernel) ⟨Nat.le_of_ble_eq_true rfl, Nat.le_of_ble_eq_true rfl⟩) rfl rfl [0] [1, 2, 3, 4, 5, 6, 7, 8, 9, 10, 11] rfl rfl rfl rfl (by decide) [11, 0, 1, 2, 3, 4, 5, 6, 7, 8, 9, 10] rfl rfl rfl (Nat.le_of_ble_eq_true rfl) (Nat.le_of_ble_eq_true rfl) (Nat.le_of_ble_eq_true rfl) dX5_digest_13 rfl ?_
  refine wd_aload_n (j := 17) C 0 dX5_digest_16 rfl rfl rfl ?_
  refine wd_aload_n (j := 18) C 0 dX5_digest_17 rfl rfl rfl ?_
  refine wd_get (j := 21) (q0 := 0) (f := 3) (ci := 5) (v := .int mlinks) C inX5_digest_X5 kX5_digest_4 rfl (by decide) rfl rfl dX5_digest_18 rfl ?_
  refine wd_i2l (j := 22) C dX5_digest_21 rfl ?_
  obtain ⟨u14, hu14, h⟩ := bnd_some h
  refine wd_callVv (j := 25) (q0 := 0) (ci := 5) (As := [.long mlinks.toInt64]) (rest := []) (ws' := (w_X5_digest ad cI cD mlen mnodes mlinks mwk bcode hass kwk u14 buf tab mdeg mrot plc marr mdep fsr snr chn aft)) C (c_X5_mix l D cI cD ad mlen mnodes mlinks mwk bcode hass kwk u13 mlinks.toInt64 u14 hu14) (cwV 1 C.1.2.2.2.2 gX5_digest_X5_mix rfl rfl rfl (by decide +kernel) ⟨Nat.le_of_ble_eq_true rfl, Nat.le_of_ble_eq_true rfl⟩) rfl rfl [0] [1, 2, 3, 4, 5, 6, 7, 8, 9, 10, 11] rfl rfl rfl rfl (by decide) [11, 0, 1, 2, 3, 4, 5, 6, 7, 8, 9, 10] rfl rfl rfl (Nat.le_of_ble_eq_true rfl) (Nat.le_of_ble_eq_true rfl) (Nat.le_of_ble_eq_true rfl) dX5_digest_22 rfl ?_
  refine wd_iconst (j := 26) (v := 0) C dX5_digest_25 (by decide) rfl ?_
  refine wd_istore_n (j := 27) (lv' := [(1, .int (0 : Int32)), (0, .ref (ad 0))]) C dX5_digest_26 rfl (by decide) rfl rfl ?_
  refine wd_lv (lv' := [(0, .ref (ad 0)), (1, .int (0 : Int32))]) [1, 0] rfl ?_
  obtain ⟨u15, hu15, h⟩ := bnd_some h
  refine lw_X5_digest_27 l D cI cD ad N mlen mlinks mwk bcode hass kwk buf plc fsr snr chn aft mnodes tab mdeg mrot marr mdep C N ((0 : Int32), u14) u15 hu15 ?_
  refine wd_aload_n (j := 47) C 0 dX5_digest_46 rfl rfl rfl ?_
  refine wd_aload_n (j := 48) C 0 dX5_digest_47 rfl rfl rfl ?_
  refine wd_get (j := 51) (q0 := 0) (f := 7) (ci := 5) (v := .int mwk) C inX5_digest_X5 kX5_digest_5 rfl (by decide) rfl rfl dX5_digest_48 rfl ?_
  refine wd_i2l (j := 52) C dX5_digest_51 rfl ?_
  obtain ⟨u16, hu16, h⟩ := bnd_some h
  refine wd_callVv (j := 55) (q0 := 0) (ci := 5) (As := [.long mwk.toInt64]) (rest := []) (ws' := (w_X5_digest ad cI cD mlen mnodes mlinks mwk bcode hass kwk u16 buf tab mdeg mrot plc marr mdep fsr snr chn aft)) C (c_X5_mix l D cI cD ad mlen mnodes mlinks mwk bcode hass kwk u15 mwk.toInt64 u16 hu16) (cwV 1 C.1.2.2.2.2 gX5_digest_X5_mix rfl rfl rfl (by decide +kernel) ⟨Nat.le_of_ble_eq_true rfl, Nat.le_of_ble_eq_true rfl⟩) rfl rfl [0] [1, 2, 3, 4, 5, 6, 7, 8, 9, 10, 11] rfl rfl rfl rfl (by decide) [11, 0, 1, 2, 3, 4, 5, 6, 7, 8, 9, 10] rfl rfl rfl (Nat.le_of_ble_eq_true rfl) (Nat.le_of_ble_eq_true rfl) (Nat.le_of_ble_eq_true rfl) dX5_digest_52 rfl ?_
  refine wd_iconst (j := 56) (v := 0) C dX5_digest_55 (by decide) rfl ?_
  refine wd_istore_n (j := 57) (lv' := [(1, .int (0 : Int32)), (0, .ref (ad 0))]) C dX5_digest_56 rfl (by decide) rfl rfl ?_
  refine wd_lv (lv' := [(0, .ref (ad 0)), (1, .int (0 : Int32))]) [1, 0] rfl ?_
  obtain ⟨u17, hu17, h⟩ := bnd_some h
  refine lw_X5_digest_57 l D cI cD ad N mlen bcode hass kwk buf marr mdep chn aft mnodes mlinks mwk tab mdeg mrot plc C N ((0 : Int32), u16, fsr, snr) u17 hu17 ?_
  refine wd_aload_n (j := 103) C 0 dX5_digest_102 rfl rfl rfl ?_
  refine wd_get (j := 106) (q0 := 0) (f := 2) (ci := 5) (v := .int mnodes) C inX5_digest_X5 kX5_digest_3 rfl (by decide) rfl rfl dX5_digest_103 rfl ?_
  refine wd_if_le (j := 109) (t := 129) C dX5_digest_106 (by decide) rfl (fun c18 => ?_) (fun c18 => ?_)
  · replace h := (if_pos c18).symm.trans h
    refine wd_aload_n (j := 130) C 0 dX5_digest_129 rfl rfl rfl ?_
    refine wd_get (j := 133) (q0 := 0) (f := 2) (ci := 5) (v := .int mnodes) C inX5_digest_X5 kX5_digest_3 rfl (by decide) rfl rfl dX5_digest_130 rfl ?_
    refine wd_if_le (j := 136) (t := 148) C dX5_digest_133 (by decide) rfl (fun c19 => ?_) (fun c19 => ?_)
    · replace h := (if_pos c19).symm.trans h
      refine wd_aload_n (j := 149) C 0 dX5_digest_148 rfl rfl rfl ?_
      refine wd_aload_n (j := 150) C 0 dX5_digest_149 rfl rfl rfl ?_
      refine wd_get (j := 153) (q0 := 0) (f := 0) (ci := 5) (v := .int mlen) C inX5_digest_X5 kX5_digest_7 rfl (by decide) rfl rfl dX5_digest_150 rfl ?_
      refine wd_i2l (j := 154) C dX5_digest_153 rfl ?_
      obtain ⟨u20, hu20, h⟩ := bnd_some h
      refine wd_callVv (j := 157) (q0 := 0) (ci := 5) (As := [.long mlen.toInt64]) (rest := []) (ws' := (w_X5_digest ad cI cD mlen mnodes mlinks mwk bcode hass kwk u20 buf tab mdeg mrot plc marr mdep u17.2.1 u17.2.2 chn aft)) C (c_X5_mix l D cI cD ad mlen mnodes mlinks mwk bcode hass kwk u17.1 mlen.toInt64 u20 hu20) (cwV 1 C.1.2.2.2.2 gX5_digest_X5_mix rfl rfl rfl (by decide +kernel) ⟨Nat.le_of_ble_eq_true rfl, Nat.le_of_ble_eq_true rfl⟩) rfl rfl [0] [1, 2, 3, 4, 5, 6, 7, 8, 9, 10, 11] rfl rfl rfl rfl (by decide) [11, 0, 1, 2, 3, 4, 5, 6, 7, 8, 9, 10] rfl rfl rfl (Nat.le_of_ble_eq_true rfl) (Nat.le_of_ble_eq_true rfl) (Nat.le_of_ble_eq_true rfl) dX5_digest_154 rfl ?_
      refine wd_iconst (j := 158) (v := 0) C dX5_digest_157 (by decide) rfl ?_
      refine wd_istore_n (j := 159) (lv' := [(1, .int (0 : Int32)), (0, .ref (ad 0))]) C dX5_digest_158 rfl (by decide) rfl rfl ?_
      refine wd_lv (lv' := [(0, .ref (ad 0)), (1, .int (0 : Int32))]) [1, 0] rfl ?_
      obtain ⟨u21, hu21, h⟩ := bnd_some h
      refine lw_X5_digest_159 l D cI cD ad N mnodes mlinks mwk bcode hass kwk tab mdeg mrot plc marr mdep u17.2.1 u17.2.2 chn aft mlen buf C N ((0 : Int32), u20) u21 hu21 ?_
      refine wd_aload_n (j := 185) C 0 dX5_digest_184 rfl rfl rfl ?_
      refine wd_get (j := 188) (q0 := 0) (f := 22) (ci := 5) (v := .long u21) C inX5_digest_X5 kX5_digest_2 rfl (by decide) rfl rfl dX5_digest_185 rfl ?_
      obtain rfl := Option.some.inj h
      exact wd_lret C hA hr hlk rfl rfl dX5_digest_188
    · replace h := (if_neg c19).symm.trans h
      refine wd_aload_n (j := 137) C 0 dX5_digest_136 rfl rfl rfl ?_
      refine wd_aload_n (j := 138) C 0 dX5_digest_137 rfl rfl rfl ?_
      refine wd_iconst (j := 139) (v := 0) C dX5_digest_138 (by decide) rfl ?_
      refine wd_bipush (j := 141) (v := 7) C dX5_digest_139 (by decide) rfl ?_
      refine wd_iconst (j := 142) (v := 1) C dX5_digest_141 (by decide) rfl ?_
      obtain ⟨u22, hu22, h⟩ := bnd_some h
      refine wd_callVl (j := 145) (q0 := 0) (ci := 5) (As := [.int (0 : Int32), .int (7 : Int32), .int (1 : Int32)]) (rest := [.ref (ad 0)]) (ws' := (w_X5_digest ad cI cD mlen mnodes mlinks mwk bcode hass kwk u17.1 buf tab mdeg mrot plc marr mdep u17.2.1 u17.2.2 u22.2.1 u22.2.2)) C (c_X5_expected l D cI cD ad N mlen mnodes mlinks mwk bcode hass kwk u17.1 tab mdeg chn aft (0 : Int32) (7 : Int32) (1 : Int32) u22 hu22) (cwV 3 C.1.2.2.2.2 gX5_digest_X5_expected rfl rfl rfl (by decide +kernel) ⟨Nat.le_of_ble_eq_true rfl, Nat.le_of_ble_eq_true rfl⟩) rfl rfl [0, 2, 3, 10, 11] [1, 4, 5, 6, 7, 8, 9] rfl rfl rfl rfl (by decide) [7, 0, 8, 9, 1, 2, 3, 4, 5, 6, 10, 11] rfl rfl rfl (Nat.le_of_ble_eq_true rfl) (Nat.le_of_ble_eq_true rfl) (Nat.le_of_ble_eq_true rfl) dX5_digest_142 rfl ?_
      obtain ⟨u23, hu23, h⟩ := bnd_some h
      refine wd_callVv (j := 148) (q0 := 0) (ci := 5) (As := [.long u22.1]) (rest := []) (ws' := (w_X5_digest ad cI cD mlen mnodes mlinks mwk bcode hass kwk u23 buf tab mdeg mrot plc marr mdep u17.2.1 u17.2.2 u22.2.1 u22.2.2)) C (c_X5_mix l D cI cD ad mlen mnodes mlinks mwk bcode hass kwk u17.1 u22.1 u23 hu23) (cwV 1 C.1.2.2.2.2 gX5_digest_X5_mix rfl rfl rfl (by decide +kernel) ⟨Nat.le_of_ble_eq_true rfl, Nat.le_of_ble_eq_true rfl⟩) rfl rfl [0] [1, 2, 3, 4, 5, 6, 7, 8, 9, 10, 11] rfl rfl rfl rfl (by decide) [11, 0, 1, 2, 3, 4, 5, 6, 7, 8, 9, 10] rfl rfl rfl (Nat.le_of_ble_eq_true rfl) (Nat.le_of_ble_eq_true rfl) (Nat.le_of_ble_eq_true rfl) dX5_digest_145 rfl ?_
      refine wd_aload_n (j := 149) C 0 dX5_digest_148 rfl rfl rfl ?_
      refine wd_aload_n (j := 150) C 0 dX5_digest_149 rfl rfl rfl ?_
      refine wd_get (j := 153) (q0 := 0) (f := 0) (ci := 5) (v := .int mlen) C inX5_digest_X5 kX5_digest_7 rfl (by decide) rfl rfl dX5_digest_150 rfl ?_
      refine wd_i2l (j := 154) C dX5_digest_153 rfl ?_
      obtain ⟨u24, hu24, h⟩ := bnd_some h
      refine wd_callVv (j := 157) (q0 := 0) (ci := 5) (As := [.long mlen.toInt64]) (rest := []) (ws' := (w_X5_digest ad cI cD mlen mnodes mlinks mwk bcode hass kwk u24 buf tab mdeg mrot plc marr mdep u17.2.1 u17.2.2 u22.2.1 u22.2.2)) C (c_X5_mix l D cI cD ad mlen mnodes mlinks mwk bcode hass kwk u23 mlen.toInt64 u24 hu24) (cwV 1 C.1.2.2.2.2 gX5_digest_X5_mix rfl rfl rfl (by decide +kernel) ⟨Nat.le_of_ble_eq_true rfl, Nat.le_of_ble_eq_true rfl⟩) rfl rfl [0] [1, 2, 3, 4, 5, 6, 7, 8, 9, 10, 11] rfl rfl rfl rfl (by decide) [11, 0, 1, 2, 3, 4, 5, 6, 7, 8, 9, 10] rfl rfl rfl (Nat.le_of_ble_eq_true rfl) (Nat.le_of_ble_eq_true rfl) (Nat.le_of_ble_eq_true rfl) dX5_digest_154 rfl ?_
      refine wd_iconst (j := 158) (v := 0) C dX5_digest_157 (by decide) rfl ?_
      refine wd_istore_n (j := 159) (lv' := [(1, .int (0 : Int32)), (0, .ref (ad 0))]) C dX5_digest_158 rfl (by decide) rfl rfl ?_
      refine wd_lv (lv' := [(0, .ref (ad 0)), (1, .int (0 : Int32))]) [1, 0] rfl ?_
      obtain ⟨u25, hu25, h⟩ := bnd_some h
      refine lw_X5_digest_159 l D cI cD ad N mnodes mlinks mwk bcode hass kwk tab mdeg mrot plc marr mdep u17.2.1 u17.2.2 u22.2.1 u22.2.2 mlen buf C N ((0 : Int32), u24) u25 hu25 ?_
      refine wd_aload_n (j := 185) C 0 dX5_digest_184 rfl rfl rfl ?_
      refine wd_get (j := 188) (q0 := 0) (f := 22) (ci := 5) (v := .long u25) C inX5_digest_X5 kX5_digest_2 rfl (by decide) rfl rfl dX5_digest_185 rfl ?_
      obtain rfl := Option.some.inj h
      exact wd_lret C hA hr hlk rfl rfl dX5_digest_188
  · replace h := (if_neg c18).symm.trans h
    refine wd_aload_n (j := 110) C 0 dX5_digest_109 rfl rfl rfl ?_
    obtain ⟨u26, hu26, h⟩ := bnd_some h
    refine wd_callVi (j := 113) (q0 := 0) (ci := 5) (As := []) (rest := []) (ws' := (w_X5_digest ad cI cD mlen mnodes mlinks mwk bcode hass kwk u17.1 buf tab mdeg mrot plc marr mdep u17.2.1 u17.2.2 chn aft)) C (c_X5_assignments l D cI cD ad N mlen mnodes mlinks mwk bcode hass kwk u17.1 mdeg u26 hu26) (cwV 0 C.1.2.2.2.2 gX5_digest_X5_assignments rfl rfl rfl (by decide +kernel) ⟨Nat.le_of_ble_eq_true rfl, Nat.le_of_ble_eq_true rfl⟩) rfl rfl [0, 3] [1, 2, 4, 5, 6, 7, 8, 9, 10, 11] rfl rfl rfl rfl (by decide) [10, 0, 1, 11, 2, 3, 4, 5, 6, 7, 8, 9] rfl rfl rfl (Nat.le_of_ble_eq_true rfl) (Nat.le_of_ble_eq_true rfl) (Nat.le_of_ble_eq_true rfl) dX5_digest_110 rfl ?_
    refine wd_sipush (j := 116) (v := 2000) C dX5_digest_113 (by decide) rfl ?_
    refine wd_icmp_gt (j := 119) (t := 129) C dX5_digest_116 (by decide) rfl (fun c27 => ?_) (fun c27 => ?_)
    · replace h := (if_pos c27).symm.trans h
      refine wd_aload_n (j := 130) C 0 dX5_digest_129 rfl rfl rfl ?_
      refine wd_get (j := 133) (q0 := 0) (f := 2) (ci := 5) (v := .int mnodes) C inX5_digest_X5 kX5_digest_3 rfl (by decide) rfl rfl dX5_digest_130 rfl ?_
      refine wd_if_le (j := 136) (t := 148) C dX5_digest_133 (by decide) rfl (fun c28 => ?_) (fun c28 => ?_)
      · replace h := (if_pos c28).symm.trans h
        refine wd_aload_n (j := 149) C 0 dX5_digest_148 rfl rfl rfl ?_
        refine wd_aload_n (j := 150) C 0 dX5_digest_149 rfl rfl rfl ?_
        refine wd_get (j := 153) (q0 := 0) (f := 0) (ci := 5) (v := .int mlen) C inX5_digest_X5 kX5_digest_7 rfl (by decide) rfl rfl dX5_digest_150 rfl ?_
        refine wd_i2l (j := 154) C dX5_digest_153 rfl ?_
        obtain ⟨u29, hu29, h⟩ := bnd_some h
        refine wd_callVv (j := 157) (q0 := 0) (ci := 5) (As := [.long mlen.toInt64]) (rest := []) (ws' := (w_X5_digest ad cI cD mlen mnodes mlinks mwk bcode hass kwk u29 buf tab mdeg mrot plc marr mdep u17.2.1 u17.2.2 chn aft)) C (c_X5_mix l D cI cD ad mlen mnodes mlinks mwk bcode hass kwk u17.1 mlen.toInt64 u29 hu29) (cwV 1 C.1.2.2.2.2 gX5_digest_X5_mix rfl rfl rfl (by decide +kernel) ⟨Nat.le_of_ble_eq_true rfl, Nat.le_of_ble_eq_true rfl⟩) rfl rfl [0] [1, 2, 3, 4, 5, 6, 7, 8, 9, 10, 11] rfl rfl rfl rfl (by decide) [11, 0, 1, 2, 3, 4, 5, 6, 7, 8, 9, 10] rfl rfl rfl (Nat.le_of_ble_eq_true rfl) (Nat.le_of_ble_eq_true rfl) (Nat.le_of_ble_eq_true rfl) dX5_digest_154 rfl ?_
        refine wd_iconst (j := 158) (v := 0) C dX5_digest_157 (by decide) rfl ?_
        refine wd_istore_n (j := 159) (lv' := [(1, .int (0 : Int32)), (0, .ref (ad 0))]) C dX5_digest_158 rfl (by decide) rfl rfl ?_
        refine wd_lv (lv' := [(0, .ref (ad 0)), (1, .int (0 : Int32))]) [1, 0] rfl ?_
        obtain ⟨u30, hu30, h⟩ := bnd_some h
        refine lw_X5_digest_159 l D cI cD ad N mnodes mlinks mwk bcode hass kwk tab mdeg mrot plc marr mdep u17.2.1 u17.2.2 chn aft mlen buf C N ((0 : Int32), u29) u30 hu30 ?_
        refine wd_aload_n (j := 185) C 0 dX5_digest_184 rfl rfl rfl ?_
        refine wd_get (j := 188) (q0 := 0) (f := 22) (ci := 5) (v := .long u30) C inX5_digest_X5 kX5_digest_2 rfl (by decide) rfl rfl dX5_digest_185 rfl ?_
        obtain rfl := Option.some.inj h
        exact wd_lret C hA hr hlk rfl rfl dX5_digest_188
      · replace h := (if_neg c28).symm.trans h
        refine wd_aload_n (j := 137) C 0 dX5_digest_136 rfl rfl rfl ?_
        refine wd_aload_n (j := 138) C 0 dX5_digest_137 rfl rfl rfl ?_
        refine wd_iconst (j := 139) (v := 0) C dX5_digest_138 (by decide) rfl ?_
        refine wd_bipush (j := 141) (v := 7) C dX5_digest_139 (by decide) rfl ?_
        refine wd_iconst (j := 142) (v := 1) C dX5_digest_141 (by decide) rfl ?_
        obtain ⟨u31, hu31, h⟩ := bnd_some h
        refine wd_callVl (j := 145) (q0 := 0) (ci := 5) (As := [.int (0 : Int32), .int (7 : Int32), .int (1 : Int32)]) (rest := [.ref (ad 0)]) (ws' := (w_X5_digest ad cI cD mlen mnodes mlinks mwk bcode hass kwk u17.1 buf tab mdeg mrot plc marr mdep u17.2.1 u17.2.2 u31.2.1 u31.2.2)) C (c_X5_expected l D cI cD ad N mlen mnodes mlinks mwk bcode hass kwk u17.1 tab mdeg chn aft (0 : Int32) (7 : Int32) (1 : Int32) u31 hu31) (cwV 3 C.1.2.2.2.2 gX5_digest_X5_expected rfl rfl rfl (by decide +kernel) ⟨Nat.le_of_ble_eq_true rfl, Nat.le_of_ble_eq_true rfl⟩) rfl rfl [0, 2, 3, 10, 11] [1, 4, 5, 6, 7, 8, 9] rfl rfl rfl rfl (by decide) [7, 0, 8, 9, 1, 2, 3, 4, 5, 6, 10, 11] rfl rfl rfl (Nat.le_of_ble_eq_true rfl) (Nat.le_of_ble_eq_true rfl) (Nat.le_of_ble_eq_true rfl) dX5_digest_142 rfl ?_
        obtain ⟨u32, hu32, h⟩ := bnd_some h
        refine wd_callVv (j := 148) (q0 := 0) (ci := 5) (As := [.long u31.1]) (rest := []) (ws' := (w_X5_digest ad cI cD mlen mnodes mlinks mwk bcode hass kwk u32 buf tab mdeg mrot plc marr mdep u17.2.1 u17.2.2 u31.2.1 u31.2.2)) C (c_X5_mix l D cI cD ad mlen mnodes mlinks mwk bcode hass kwk u17.1 u31.1 u32 hu32) (cwV 1 C.1.2.2.2.2 gX5_digest_X5_mix rfl rfl rfl (by decide +kernel) ⟨Nat.le_of_ble_eq_true rfl, Nat.le_of_ble_eq_true rfl⟩) rfl rfl [0] [1, 2, 3, 4, 5, 6, 7, 8, 9, 10, 11] rfl rfl rfl rfl (by decide) [11, 0, 1, 2, 3, 4, 5, 6, 7, 8, 9, 10] rfl rfl rfl (Nat.le_of_ble_eq_true rfl) (Nat.le_of_ble_eq_true rfl) (Nat.le_of_ble_eq_true rfl) dX5_digest_145 rfl ?_
        refine wd_aload_n (j := 149) C 0 dX5_digest_148 rfl rfl rfl ?_
        refine wd_aload_n (j := 150) C 0 dX5_digest_149 rfl rfl rfl ?_
        refine wd_get (j := 153) (q0 := 0) (f := 0) (ci := 5) (v := .int mlen) C inX5_digest_X5 kX5_digest_7 rfl (by decide) rfl rfl dX5_digest_150 rfl ?_
        refine wd_i2l (j := 154) C dX5_digest_153 rfl ?_
        obtain ⟨u33, hu33, h⟩ := bnd_some h
        refine wd_callVv (j := 157) (q0 := 0) (ci := 5) (As := [.long mlen.toInt64]) (rest := []) (ws' := (w_X5_digest ad cI cD mlen mnodes mlinks mwk bcode hass kwk u33 buf tab mdeg mrot plc marr mdep u17.2.1 u17.2.2 u31.2.1 u31.2.2)) C (c_X5_mix l D cI cD ad mlen mnodes mlinks mwk bcode hass kwk u32 mlen.toInt64 u33 hu33) (cwV 1 C.1.2.2.2.2 gX5_digest_X5_mix rfl rfl rfl (by decide +kernel) ⟨Nat.le_of_ble_eq_true rfl, Nat.le_of_ble_eq_true rfl⟩) rfl rfl [0] [1, 2, 3, 4, 5, 6, 7, 8, 9, 10, 11] rfl rfl rfl rfl (by decide) [11, 0, 1, 2, 3, 4, 5, 6, 7, 8, 9, 10] rfl rfl rfl (Nat.le_of_ble_eq_true rfl) (Nat.le_of_ble_eq_true rfl) (Nat.le_of_ble_eq_true rfl) dX5_digest_154 rfl ?_
        refine wd_iconst (j := 158) (v := 0) C dX5_digest_157 (by decide) rfl ?_
        refine wd_istore_n (j := 159) (lv' := [(1, .int (0 : Int32)), (0, .ref (ad 0))]) C dX5_digest_158 rfl (by decide) rfl rfl ?_
        refine wd_lv (lv' := [(0, .ref (ad 0)), (1, .int (0 : Int32))]) [1, 0] rfl ?_
        obtain ⟨u34, hu34, h⟩ := bnd_some h
        refine lw_X5_digest_159 l D cI cD ad N mnodes mlinks mwk bcode hass kwk tab mdeg mrot plc marr mdep u17.2.1 u17.2.2 u31.2.1 u31.2.2 mlen buf C N ((0 : Int32), u33) u34 hu34 ?_
        refine wd_aload_n (j := 185) C 0 dX5_digest_184 rfl rfl rfl ?_
        refine wd_get (j := 188) (q0 := 0) (f := 22) (ci := 5) (v := .long u34) C inX5_digest_X5 kX5_digest_2 rfl (by decide) rfl rfl dX5_digest_185 rfl ?_
        obtain rfl := Option.some.inj h
        exact wd_lret C hA hr hlk rfl rfl dX5_digest_188
    · replace h := (if_neg c27).symm.trans h
      refine wd_aload_n (j := 120) C 0 dX5_digest_119 rfl rfl rfl ?_
      refine wd_aload_n (j := 121) C 0 dX5_digest_120 rfl rfl rfl ?_
      refine wd_iconst (j := 122) (v := 0) C dX5_digest_121 (by decide) rfl ?_
      obtain ⟨u35, hu35, h⟩ := bnd_some h
      refine wd_callVi (j := 125) (q0 := 0) (ci := 5) (As := [.int (0 : Int32)]) (rest := [.ref (ad 0)]) (ws' := (w_X5_digest ad cI cD mlen mnodes mlinks mwk u35.2.1 hass kwk u17.1 buf tab mdeg mrot plc marr mdep u35.2.2 u17.2.2 chn aft)) C (c_X5_leastFrom l D cI cD ad N mlen mnodes mlinks mwk bcode hass kwk u17.1 tab mdeg u17.2.1 (0 : Int32) u35 hu35) (cwV 1 C.1.2.2.2.2 gX5_digest_X5_leastFrom rfl rfl rfl (by decide +kernel) ⟨Nat.le_of_ble_eq_true rfl, Nat.le_of_ble_eq_true rfl⟩) rfl rfl [0, 2, 3, 8] [1, 4, 5, 6, 7, 9, 10, 11] rfl rfl rfl rfl (by decide) [8, 0, 9, 10, 1, 2, 3, 4, 11, 5, 6, 7] rfl rfl rfl (Nat.le_of_ble_eq_true rfl) (Nat.le_of_ble_eq_true rfl) (Nat.le_of_ble_eq_true rfl) dX5_digest_122 rfl ?_
      refine wd_i2l (j := 126) C dX5_digest_125 rfl ?_
      obtain ⟨u36, hu36, h⟩ := bnd_some h
      refine wd_callVv (j := 129) (q0 := 0) (ci := 5) (As := [.long u35.1.toInt64]) (rest := []) (ws' := (w_X5_digest ad cI cD mlen mnodes mlinks mwk u35.2.1 hass kwk u36 buf tab mdeg mrot plc marr mdep u35.2.2 u17.2.2 chn aft)) C (c_X5_mix l D cI cD ad mlen mnodes mlinks mwk u35.2.1 hass kwk u17.1 u35.1.toInt64 u36 hu36) (cwV 1 C.1.2.2.2.2 gX5_digest_X5_mix rfl rfl rfl (by decide +kernel) ⟨Nat.le_of_ble_eq_true rfl, Nat.le_of_ble_eq_true rfl⟩) rfl rfl [0] [1, 2, 3, 4, 5, 6, 7, 8, 9, 10, 11] rfl rfl rfl rfl (by decide) [11, 0, 1, 2, 3, 4, 5, 6, 7, 8, 9, 10] rfl rfl rfl (Nat.le_of_ble_eq_true rfl) (Nat.le_of_ble_eq_true rfl) (Nat.le_of_ble_eq_true rfl) dX5_digest_126 rfl ?_
      refine wd_aload_n (j := 130) C 0 dX5_digest_129 rfl rfl rfl ?_
      refine wd_get (j := 133) (q0 := 0) (f := 2) (ci := 5) (v := .int mnodes) C inX5_digest_X5 kX5_digest_3 rfl (by decide) rfl rfl dX5_digest_130 rfl ?_
      refine wd_if_le (j := 136) (t := 148) C dX5_digest_133 (by decide) rfl (fun c37 => ?_) (fun c37 => ?_)
      · replace h := (if_pos c37).symm.trans h
        refine wd_aload_n (j := 149) C 0 dX5_digest_148 rfl rfl rfl ?_
        refine wd_aload_n (j := 150) C 0 dX5_digest_149 rfl rfl rfl ?_
        refine wd_get (j := 153) (q0 := 0) (f := 0) (ci := 5) (v := .int mlen) C inX5_digest_X5 kX5_digest_7 rfl (by decide) rfl rfl dX5_digest_150 rfl ?_
        refine wd_i2l (j := 154) C dX5_digest_153 rfl ?_
        obtain ⟨u38, hu38, h⟩ := bnd_some h
        refine wd_callVv (j := 157) (q0 := 0) (ci := 5) (As := [.long mlen.toInt64]) (rest := []) (ws' := (w_X5_digest ad cI cD mlen mnodes mlinks mwk u35.2.1 hass kwk u38 buf tab mdeg mrot plc marr mdep u35.2.2 u17.2.2 chn aft)) C (c_X5_mix l D cI cD ad mlen mnodes mlinks mwk u35.2.1 hass kwk u36 mlen.toInt64 u38 hu38) (cwV 1 C.1.2.2.2.2 gX5_digest_X5_mix rfl rfl rfl (by decide +kernel) ⟨Nat.le_of_ble_eq_true rfl, Nat.le_of_ble_eq_true rfl⟩) rfl rfl [0] [1, 2, 3, 4, 5, 6, 7, 8, 9, 10, 11] rfl rfl rfl rfl (by decide) [11, 0, 1, 2, 3, 4, 5, 6, 7, 8, 9, 10] rfl rfl rfl (Nat.le_of_ble_eq_true rfl) (Nat.le_of_ble_eq_true rfl) (Nat.le_of_ble_eq_true rfl) dX5_digest_154 rfl ?_
        refine wd_iconst (j := 158) (v := 0) C dX5_digest_157 (by decide) rfl ?_
        refine wd_istore_n (j := 159) (lv' := [(1, .int (0 : Int32)), (0, .ref (ad 0))]) C dX5_digest_158 rfl (by decide) rfl rfl ?_
        refine wd_lv (lv' := [(0, .ref (ad 0)), (1, .int (0 : Int32))]) [1, 0] rfl ?_
        obtain ⟨u39, hu39, h⟩ := bnd_some h
        refine lw_X5_digest_159 l D cI cD ad N mnodes mlinks mwk u35.2.1 hass kwk tab mdeg mrot plc marr mdep u35.2.2 u17.2.2 chn aft mlen buf C N ((0 : Int32), u38) u39 hu39 ?_
        refine wd_aload_n (j := 185) C 0 dX5_digest_184 rfl rfl rfl ?_
        refine wd_get (j := 188) (q0 := 0) (f := 22) (ci := 5) (v := .long u39) C inX5_digest_X5 kX5_digest_2 rfl (by decide) rfl rfl dX5_digest_185 rfl ?_
        obtain rfl := Option.some.inj h
        exact wd_lret C hA hr hlk rfl rfl dX5_digest_188
      · replace h := (if_neg c37).symm.trans h
        refine wd_aload_n (j := 137) C 0 dX5_digest_136 rfl rfl rfl ?_
        refine wd_aload_n (j := 138) C 0 dX5_digest_137 rfl rfl rfl ?_
        refine wd_iconst (j := 139) (v := 0) C dX5_digest_138 (by decide) rfl ?_
        refine wd_bipush (j := 141) (v := 7) C dX5_digest_139 (by decide) rfl ?_
        refine wd_iconst (j := 142) (v := 1) C dX5_digest_141 (by decide) rfl ?_
        obtain ⟨u40, hu40, h⟩ := bnd_some h
        refine wd_callVl (j := 145) (q0 := 0) (ci := 5) (As := [.int (0 : Int32), .int (7 : Int32), .int (1 : Int32)]) (rest := [.ref (ad 0)]) (ws' := (w_X5_digest ad cI cD mlen mnodes mlinks mwk u35.2.1 hass kwk u36 buf tab mdeg mrot plc marr mdep u35.2.2 u17.2.2 u40.2.1 u40.2.2)) C (c_X5_expected l D cI cD ad N mlen mnodes mlinks mwk u35.2.1 hass kwk u36 tab mdeg chn aft (0 : Int32) (7 : Int32) (1 : Int32) u40 hu40) (cwV 3 C.1.2.2.2.2 gX5_digest_X5_expected rfl rfl rfl (by decide +kernel) ⟨Nat.le_of_ble_eq_true rfl, Nat.le_of_ble_eq_true rfl⟩) rfl rfl [0, 2, 3, 10, 11] [1, 4, 5, 6, 7, 8, 9] rfl rfl rfl rfl (by decide) [7, 0, 8, 9, 1, 2, 3, 4, 5, 6, 10, 11] rfl rfl rfl (Nat.le_of_ble_eq_true rfl) (Nat.le_of_ble_eq_true rfl) (Nat.le_of_ble_eq_true rfl) dX5_digest_142 rfl ?_
        obtain ⟨u41, hu41, h⟩ := bnd_some h
        refine wd_callVv (j := 148) (q0 := 0) (ci := 5) (As := [.long u40.1]) (rest := []) (ws' := (w_X5_digest ad cI cD mlen mnodes mlinks mwk u35.2.1 hass kwk u41 buf tab mdeg mrot plc marr mdep u35.2.2 u17.2.2 u40.2.1 u40.2.2)) C (c_X5_mix l D cI cD ad mlen mnodes mlinks mwk u35.2.1 hass kwk u36 u40.1 u41 hu41) (cwV 1 C.1.2.2.2.2 gX5_digest_X5_mix rfl rfl rfl (by decide +kernel) ⟨Nat.le_of_ble_eq_true rfl, Nat.le_of_ble_eq_true rfl⟩) rfl rfl [0] [1, 2, 3, 4, 5, 6, 7, 8, 9, 10, 11] rfl rfl rfl rfl (by decide) [11, 0, 1, 2, 3, 4, 5, 6, 7, 8, 9, 10] rfl rfl rfl (Nat.le_of_ble_eq_true rfl) (Nat.le_of_ble_eq_true rfl) (Nat.le_of_ble_eq_true rfl) dX5_digest_145 rfl ?_
        refine wd_aload_n (j := 149) C 0 dX5_digest_148 rfl rfl rfl ?_
        refine wd_aload_n (j := 150) C 0 dX5_digest_149 rfl rfl rfl ?_
        refine wd_get (j := 153) (q0 := 0) (f := 0) (ci := 5) (v := .int mlen) C inX5_digest_X5 kX5_digest_7 rfl (by decide) rfl rfl dX5_digest_150 rfl ?_
        refine wd_i2l (j := 154) C dX5_digest_153 rfl ?_
        obtain ⟨u42, hu42, h⟩ := bnd_some h
        refine wd_callVv (j := 157) (q0 := 0) (ci := 5) (As := [.long mlen.toInt64]) (rest := []) (ws' := (w_X5_digest ad cI cD mlen mnodes mlinks mwk u35.2.1 hass kwk u42 buf tab mdeg mrot plc marr mdep u35.2.2 u17.2.2 u40.2.1 u40.2.2)) C (c_X5_mix l D cI cD ad mlen mnodes mlinks mwk u35.2.1 hass kwk u41 mlen.toInt64 u42 hu42) (cwV 1 C.1.2.2.2.2 gX5_digest_X5_mix rfl rfl rfl (by decide +kernel) ⟨Nat.le_of_ble_eq_true rfl, Nat.le_of_ble_eq_true rfl⟩) rfl rfl [0] [1, 2, 3, 4, 5, 6, 7, 8, 9, 10, 11] rfl rfl rfl rfl (by decide) [11, 0, 1, 2, 3, 4, 5, 6, 7, 8, 9, 10] rfl rfl rfl (Nat.le_of_ble_eq_true rfl) (Nat.le_of_ble_eq_true rfl) (Nat.le_of_ble_eq_true rfl) dX5_digest_154 rfl ?_
        refine wd_iconst (j := 158) (v := 0) C dX5_digest_157 (by decide) rfl ?_
        refine wd_istore_n (j := 159) (lv' := [(1, .int (0 : Int32)), (0, .ref (ad 0))]) C dX5_digest_158 rfl (by decide) rfl rfl ?_
        refine wd_lv (lv' := [(0, .ref (ad 0)), (1, .int (0 : Int32))]) [1, 0] rfl ?_
        obtain ⟨u43, hu43, h⟩ := bnd_some h
        refine lw_X5_digest_159 l D cI cD ad N mnodes mlinks mwk u35.2.1 hass kwk tab mdeg mrot plc marr mdep u35.2.2 u17.2.2 u40.2.1 u40.2.2 mlen buf C N ((0 : Int32), u42) u43 hu43 ?_
        refine wd_aload_n (j := 185) C 0 dX5_digest_184 rfl rfl rfl ?_
        refine wd_get (j := 188) (q0 := 0) (f := 22) (ci := 5) (v := .long u43) C inX5_digest_X5 kX5_digest_2 rfl (by decide) rfl rfl dX5_digest_185 rfl ?_
        obtain rfl := Option.some.inj h
        exact wd_lret C hA hr hlk rfl rfl dX5_digest_188
