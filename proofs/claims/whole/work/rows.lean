section
-- ===== PART A: goes FIRST, ahead of the names: the tables' words, and 'selects' of the private methods out of them =====
/-- a private method of a class that the tables say can be made, by its rows of tables_1 -/
def lw_okq (q : MethodName × Nat) : Prop := (q.1.cls ≠ "java/lang/invoke/MethodHandle" ∧ q.1.cls ≠ "java/lang/invoke/VarHandle") ∧ Cond.instantiable q.1.cls q.2 ∈ tables_1 ∧ Cond.privateMethod q.1 ∈ tables_1 ∧ Cond.instanceMethod q.1 ∈ tables_1
theorem lw_p0 : lw_okq (⟨"RotorRouter$InputText", "keepsRules", "(I)Z"⟩, 2) := ⟨⟨by decide +kernel, by decide +kernel⟩, List.mem_of_getElem? (i := 18) (by decide +kernel), List.mem_of_getElem? (i := 151) (by decide +kernel), List.mem_of_getElem? (i := 152) (by decide +kernel)⟩
theorem lw_p1 : lw_okq (⟨"RotorRouter$InputText", "isNode", "(I)Z"⟩, 2) := ⟨⟨by decide +kernel, by decide +kernel⟩, List.mem_of_getElem? (i := 18) (by decide +kernel), List.mem_of_getElem? (i := 158) (by decide +kernel), List.mem_of_getElem? (i := 159) (by decide +kernel)⟩
theorem lw_p2 : lw_okq (⟨"RotorRouter$InputText", "isNewLink", "(I)Z"⟩, 2) := ⟨⟨by decide +kernel, by decide +kernel⟩, List.mem_of_getElem? (i := 18) (by decide +kernel), List.mem_of_getElem? (i := 162) (by decide +kernel), List.mem_of_getElem? (i := 163) (by decide +kernel)⟩
theorem lw_p3 : lw_okq (⟨"RotorRouter$Graph", "addNeighbor", "(II)V"⟩, 4) := ⟨⟨by decide +kernel, by decide +kernel⟩, List.mem_of_getElem? (i := 34) (by decide +kernel), List.mem_of_getElem? (i := 203) (by decide +kernel), List.mem_of_getElem? (i := 204) (by decide +kernel)⟩
theorem lw_p4 : lw_okq (⟨"RotorRouter", "absorbInTurns", "(I)I"⟩, 11) := ⟨⟨by decide +kernel, by decide +kernel⟩, List.mem_of_getElem? (i := 10) (by decide +kernel), List.mem_of_getElem? (i := 269) (by decide +kernel), List.mem_of_getElem? (i := 270) (by decide +kernel)⟩
theorem lw_p5 : lw_okq (⟨"RotorRouter", "makePass", "(I)I"⟩, 11) := ⟨⟨by decide +kernel, by decide +kernel⟩, List.mem_of_getElem? (i := 10) (by decide +kernel), List.mem_of_getElem? (i := 274) (by decide +kernel), List.mem_of_getElem? (i := 275) (by decide +kernel)⟩
theorem lw_p6 : lw_okq (⟨"RotorRouter", "absorbOneByOne", "(I)I"⟩, 11) := ⟨⟨by decide +kernel, by decide +kernel⟩, List.mem_of_getElem? (i := 10) (by decide +kernel), List.mem_of_getElem? (i := 278) (by decide +kernel), List.mem_of_getElem? (i := 279) (by decide +kernel)⟩
theorem lw_p7 : lw_okq (⟨"RotorRouter", "coverTimeBelow", "(II[I)I"⟩, 11) := ⟨⟨by decide +kernel, by decide +kernel⟩, List.mem_of_getElem? (i := 10) (by decide +kernel), List.mem_of_getElem? (i := 315) (by decide +kernel), List.mem_of_getElem? (i := 316) (by decide +kernel)⟩
theorem lw_p8 : lw_okq (⟨"RotorRouter", "searchAssignments", "(I)I"⟩, 11) := ⟨⟨by decide +kernel, by decide +kernel⟩, List.mem_of_getElem? (i := 10) (by decide +kernel), List.mem_of_getElem? (i := 327) (by decide +kernel), List.mem_of_getElem? (i := 328) (by decide +kernel)⟩
theorem lw_p9 : lw_okq (⟨"RotorRouter", "turnTrialRotors", "()V"⟩, 11) := ⟨⟨by decide +kernel, by decide +kernel⟩, List.mem_of_getElem? (i := 10) (by decide +kernel), List.mem_of_getElem? (i := 332) (by decide +kernel), List.mem_of_getElem? (i := 333) (by decide +kernel)⟩
theorem lw_p10 : lw_okq (⟨"RotorRouter", "spreadChances", "()V"⟩, 11) := ⟨⟨by decide +kernel, by decide +kernel⟩, List.mem_of_getElem? (i := 10) (by decide +kernel), List.mem_of_getElem? (i := 347) (by decide +kernel), List.mem_of_getElem? (i := 348) (by decide +kernel)⟩
theorem lw_p11 : lw_okq (⟨"RotorRouter", "hashedNode", "(JI)J"⟩, 11) := ⟨⟨by decide +kernel, by decide +kernel⟩, List.mem_of_getElem? (i := 10) (by decide +kernel), List.mem_of_getElem? (i := 387) (by decide +kernel), List.mem_of_getElem? (i := 388) (by decide +kernel)⟩
theorem lw_p12 : lw_okq (⟨"RotorRouter", "hashedAnalysis", "(J)J"⟩, 11) := ⟨⟨by decide +kernel, by decide +kernel⟩, List.mem_of_getElem? (i := 10) (by decide +kernel), List.mem_of_getElem? (i := 393) (by decide +kernel), List.mem_of_getElem? (i := 394) (by decide +kernel)⟩
theorem lw_p13 : lw_okq (⟨"RotorRouter", "hashedInput", "(J)J"⟩, 11) := ⟨⟨by decide +kernel, by decide +kernel⟩, List.mem_of_getElem? (i := 10) (by decide +kernel), List.mem_of_getElem? (i := 398) (by decide +kernel), List.mem_of_getElem? (i := 399) (by decide +kernel)⟩
theorem lw_p14 : lw_okq (⟨"RotorRouterModel", "rightLength", "()I"⟩, 23) := ⟨⟨by decide +kernel, by decide +kernel⟩, List.mem_of_getElem? (i := 402) (by decide +kernel), List.mem_of_getElem? (i := 493) (by decide +kernel), List.mem_of_getElem? (i := 494) (by decide +kernel)⟩
theorem lw_p15 : lw_okq (⟨"RotorRouterModel", "isRight", "(I)Z"⟩, 23) := ⟨⟨by decide +kernel, by decide +kernel⟩, List.mem_of_getElem? (i := 402) (by decide +kernel), List.mem_of_getElem? (i := 497) (by decide +kernel), List.mem_of_getElem? (i := 498) (by decide +kernel)⟩
def lw_privs_1 : List (MethodName × Nat) := [(⟨"RotorRouter$InputText", "keepsRules", "(I)Z"⟩, 2), (⟨"RotorRouter$InputText", "isNode", "(I)Z"⟩, 2), (⟨"RotorRouter$InputText", "isNewLink", "(I)Z"⟩, 2), (⟨"RotorRouter$Graph", "addNeighbor", "(II)V"⟩, 4), (⟨"RotorRouter", "absorbInTurns", "(I)I"⟩, 11), (⟨"RotorRouter", "makePass", "(I)I"⟩, 11), (⟨"RotorRouter", "absorbOneByOne", "(I)I"⟩, 11), (⟨"RotorRouter", "coverTimeBelow", "(II[I)I"⟩, 11), (⟨"RotorRouter", "searchAssignments", "(I)I"⟩, 11), (⟨"RotorRouter", "turnTrialRotors", "()V"⟩, 11), (⟨"RotorRouter", "spreadChances", "()V"⟩, 11), (⟨"RotorRouter", "hashedNode", "(JI)J"⟩, 11), (⟨"RotorRouter", "hashedAnalysis", "(J)J"⟩, 11), (⟨"RotorRouter", "hashedInput", "(J)J"⟩, 11), (⟨"RotorRouterModel", "rightLength", "()I"⟩, 23), (⟨"RotorRouterModel", "isRight", "(I)Z"⟩, 23)]
theorem lw_r1 : ∀ q ∈ lw_privs_1, lw_okq q := List.forall_mem_cons.mpr ⟨lw_p0, List.forall_mem_cons.mpr ⟨lw_p1, List.forall_mem_cons.mpr ⟨lw_p2, List.forall_mem_cons.mpr ⟨lw_p3, List.forall_mem_cons.mpr ⟨lw_p4, List.forall_mem_cons.mpr ⟨lw_p5, List.forall_mem_cons.mpr ⟨lw_p6, List.forall_mem_cons.mpr ⟨lw_p7, List.forall_mem_cons.mpr ⟨lw_p8, List.forall_mem_cons.mpr ⟨lw_p9, List.forall_mem_cons.mpr ⟨lw_p10, List.forall_mem_cons.mpr ⟨lw_p11, List.forall_mem_cons.mpr ⟨lw_p12, List.forall_mem_cons.mpr ⟨lw_p13, List.forall_mem_cons.mpr ⟨lw_p14, List.forall_mem_cons.mpr ⟨lw_p15, fun _ h => absurd h List.not_mem_nil⟩⟩⟩⟩⟩⟩⟩⟩⟩⟩⟩⟩⟩⟩⟩⟩
theorem lw_p16 : lw_okq (⟨"RotorRouterModel", "isNodeDigit", "(I)Z"⟩, 23) := ⟨⟨by decide +kernel, by decide +kernel⟩, List.mem_of_getElem? (i := 402) (by decide +kernel), List.mem_of_getElem? (i := 501) (by decide +kernel), List.mem_of_getElem? (i := 502) (by decide +kernel)⟩
theorem lw_p17 : lw_okq (⟨"RotorRouterModel", "isSecondNode", "(I)Z"⟩, 23) := ⟨⟨by decide +kernel, by decide +kernel⟩, List.mem_of_getElem? (i := 402) (by decide +kernel), List.mem_of_getElem? (i := 505) (by decide +kernel), List.mem_of_getElem? (i := 506) (by decide +kernel)⟩
theorem lw_p18 : lw_okq (⟨"RotorRouterModel", "isConnected", "()Z"⟩, 23) := ⟨⟨by decide +kernel, by decide +kernel⟩, List.mem_of_getElem? (i := 402) (by decide +kernel), List.mem_of_getElem? (i := 513) (by decide +kernel), List.mem_of_getElem? (i := 514) (by decide +kernel)⟩
theorem lw_p19 : lw_okq (⟨"RotorRouterModel", "join", "(II)V"⟩, 23) := ⟨⟨by decide +kernel, by decide +kernel⟩, List.mem_of_getElem? (i := 402) (by decide +kernel), List.mem_of_getElem? (i := 517) (by decide +kernel), List.mem_of_getElem? (i := 518) (by decide +kernel)⟩
theorem lw_p20 : lw_okq (⟨"RotorRouterModel", "isNode", "(I)Z"⟩, 23) := ⟨⟨by decide +kernel, by decide +kernel⟩, List.mem_of_getElem? (i := 402) (by decide +kernel), List.mem_of_getElem? (i := 525) (by decide +kernel), List.mem_of_getElem? (i := 526) (by decide +kernel)⟩
theorem lw_p21 : lw_okq (⟨"RotorRouterModel", "errorOf", "(II)I"⟩, 23) := ⟨⟨by decide +kernel, by decide +kernel⟩, List.mem_of_getElem? (i := 402) (by decide +kernel), List.mem_of_getElem? (i := 533) (by decide +kernel), List.mem_of_getElem? (i := 534) (by decide +kernel)⟩
theorem lw_p22 : lw_okq (⟨"RotorRouterModel", "isWalker", "(I)Z"⟩, 23) := ⟨⟨by decide +kernel, by decide +kernel⟩, List.mem_of_getElem? (i := 402) (by decide +kernel), List.mem_of_getElem? (i := 553) (by decide +kernel), List.mem_of_getElem? (i := 554) (by decide +kernel)⟩
theorem lw_p23 : lw_okq (⟨"RotorRouterModel", "stepOnce", "(I)V"⟩, 23) := ⟨⟨by decide +kernel, by decide +kernel⟩, List.mem_of_getElem? (i := 402) (by decide +kernel), List.mem_of_getElem? (i := 561) (by decide +kernel), List.mem_of_getElem? (i := 562) (by decide +kernel)⟩
theorem lw_p24 : lw_okq (⟨"RotorRouterModel", "go", "(I[I)I"⟩, 23) := ⟨⟨by decide +kernel, by decide +kernel⟩, List.mem_of_getElem? (i := 402) (by decide +kernel), List.mem_of_getElem? (i := 565) (by decide +kernel), List.mem_of_getElem? (i := 566) (by decide +kernel)⟩
theorem lw_p25 : lw_okq (⟨"RotorRouterModel", "pass", "(I)I"⟩, 23) := ⟨⟨by decide +kernel, by decide +kernel⟩, List.mem_of_getElem? (i := 402) (by decide +kernel), List.mem_of_getElem? (i := 573) (by decide +kernel), List.mem_of_getElem? (i := 574) (by decide +kernel)⟩
theorem lw_p26 : lw_okq (⟨"RotorRouterModel", "cycleOf", "(I)I"⟩, 23) := ⟨⟨by decide +kernel, by decide +kernel⟩, List.mem_of_getElem? (i := 402) (by decide +kernel), List.mem_of_getElem? (i := 589) (by decide +kernel), List.mem_of_getElem? (i := 590) (by decide +kernel)⟩
theorem lw_p27 : lw_okq (⟨"RotorRouterModel", "copyRotors", "([I[I)V"⟩, 23) := ⟨⟨by decide +kernel, by decide +kernel⟩, List.mem_of_getElem? (i := 402) (by decide +kernel), List.mem_of_getElem? (i := 593) (by decide +kernel), List.mem_of_getElem? (i := 594) (by decide +kernel)⟩
theorem lw_p28 : lw_okq (⟨"RotorRouterModel", "areEqual", "()Z"⟩, 23) := ⟨⟨by decide +kernel, by decide +kernel⟩, List.mem_of_getElem? (i := 402) (by decide +kernel), List.mem_of_getElem? (i := 597) (by decide +kernel), List.mem_of_getElem? (i := 598) (by decide +kernel)⟩
theorem lw_p29 : lw_okq (⟨"RotorRouterModel", "coverOf", "(I)I"⟩, 23) := ⟨⟨by decide +kernel, by decide +kernel⟩, List.mem_of_getElem? (i := 402) (by decide +kernel), List.mem_of_getElem? (i := 605) (by decide +kernel), List.mem_of_getElem? (i := 606) (by decide +kernel)⟩
theorem lw_p30 : lw_okq (⟨"RotorRouterModel", "coverFrom", "(I)I"⟩, 23) := ⟨⟨by decide +kernel, by decide +kernel⟩, List.mem_of_getElem? (i := 402) (by decide +kernel), List.mem_of_getElem? (i := 609) (by decide +kernel), List.mem_of_getElem? (i := 610) (by decide +kernel)⟩
theorem lw_p31 : lw_okq (⟨"RotorRouterModel", "assignments", "()I"⟩, 23) := ⟨⟨by decide +kernel, by decide +kernel⟩, List.mem_of_getElem? (i := 402) (by decide +kernel), List.mem_of_getElem? (i := 617) (by decide +kernel), List.mem_of_getElem? (i := 618) (by decide +kernel)⟩
def lw_privs_2 : List (MethodName × Nat) := [(⟨"RotorRouterModel", "isNodeDigit", "(I)Z"⟩, 23), (⟨"RotorRouterModel", "isSecondNode", "(I)Z"⟩, 23), (⟨"RotorRouterModel", "isConnected", "()Z"⟩, 23), (⟨"RotorRouterModel", "join", "(II)V"⟩, 23), (⟨"RotorRouterModel", "isNode", "(I)Z"⟩, 23), (⟨"RotorRouterModel", "errorOf", "(II)I"⟩, 23), (⟨"RotorRouterModel", "isWalker", "(I)Z"⟩, 23), (⟨"RotorRouterModel", "stepOnce", "(I)V"⟩, 23), (⟨"RotorRouterModel", "go", "(I[I)I"⟩, 23), (⟨"RotorRouterModel", "pass", "(I)I"⟩, 23), (⟨"RotorRouterModel", "cycleOf", "(I)I"⟩, 23), (⟨"RotorRouterModel", "copyRotors", "([I[I)V"⟩, 23), (⟨"RotorRouterModel", "areEqual", "()Z"⟩, 23), (⟨"RotorRouterModel", "coverOf", "(I)I"⟩, 23), (⟨"RotorRouterModel", "coverFrom", "(I)I"⟩, 23), (⟨"RotorRouterModel", "assignments", "()I"⟩, 23)]
theorem lw_r2 : ∀ q ∈ lw_privs_2, lw_okq q := List.forall_mem_cons.mpr ⟨lw_p16, List.forall_mem_cons.mpr ⟨lw_p17, List.forall_mem_cons.mpr ⟨lw_p18, List.forall_mem_cons.mpr ⟨lw_p19, List.forall_mem_cons.mpr ⟨lw_p20, List.forall_mem_cons.mpr ⟨lw_p21, List.forall_mem_cons.mpr ⟨lw_p22, List.forall_mem_cons.mpr ⟨lw_p23, List.forall_mem_cons.mpr ⟨lw_p24, List.forall_mem_cons.mpr ⟨lw_p25, List.forall_mem_cons.mpr ⟨lw_p26, List.forall_mem_cons.mpr ⟨lw_p27, List.forall_mem_cons.mpr ⟨lw_p28, List.forall_mem_cons.mpr ⟨lw_p29, List.forall_mem_cons.mpr ⟨lw_p30, List.forall_mem_cons.mpr ⟨lw_p31, fun _ h => absurd h List.not_mem_nil⟩⟩⟩⟩⟩⟩⟩⟩⟩⟩⟩⟩⟩⟩⟩⟩
theorem lw_p32 : lw_okq (⟨"RotorRouterModel", "leastFrom", "(I)I"⟩, 23) := ⟨⟨by decide +kernel, by decide +kernel⟩, List.mem_of_getElem? (i := 402) (by decide +kernel), List.mem_of_getElem? (i := 621) (by decide +kernel), List.mem_of_getElem? (i := 622) (by decide +kernel)⟩
theorem lw_p33 : lw_okq (⟨"RotorRouterModel", "layAssignment", "(I)V"⟩, 23) := ⟨⟨by decide +kernel, by decide +kernel⟩, List.mem_of_getElem? (i := 402) (by decide +kernel), List.mem_of_getElem? (i := 626) (by decide +kernel), List.mem_of_getElem? (i := 627) (by decide +kernel)⟩
theorem lw_p34 : lw_okq (⟨"RotorRouterModel", "expected", "(III)J"⟩, 23) := ⟨⟨by decide +kernel, by decide +kernel⟩, List.mem_of_getElem? (i := 402) (by decide +kernel), List.mem_of_getElem? (i := 639) (by decide +kernel), List.mem_of_getElem? (i := 640) (by decide +kernel)⟩
theorem lw_p35 : lw_okq (⟨"RotorRouterModel", "spread", "()V"⟩, 23) := ⟨⟨by decide +kernel, by decide +kernel⟩, List.mem_of_getElem? (i := 402) (by decide +kernel), List.mem_of_getElem? (i := 643) (by decide +kernel), List.mem_of_getElem? (i := 644) (by decide +kernel)⟩
theorem lw_p36 : lw_okq (⟨"RotorRouterModel", "mix", "(J)V"⟩, 23) := ⟨⟨by decide +kernel, by decide +kernel⟩, List.mem_of_getElem? (i := 402) (by decide +kernel), List.mem_of_getElem? (i := 679) (by decide +kernel), List.mem_of_getElem? (i := 680) (by decide +kernel)⟩
theorem lw_p37 : lw_okq (⟨"RotorRouterModel", "mixNode", "(I)V"⟩, 23) := ⟨⟨by decide +kernel, by decide +kernel⟩, List.mem_of_getElem? (i := 402) (by decide +kernel), List.mem_of_getElem? (i := 684) (by decide +kernel), List.mem_of_getElem? (i := 685) (by decide +kernel)⟩
def lw_privs_3 : List (MethodName × Nat) := [(⟨"RotorRouterModel", "leastFrom", "(I)I"⟩, 23), (⟨"RotorRouterModel", "layAssignment", "(I)V"⟩, 23), (⟨"RotorRouterModel", "expected", "(III)J"⟩, 23), (⟨"RotorRouterModel", "spread", "()V"⟩, 23), (⟨"RotorRouterModel", "mix", "(J)V"⟩, 23), (⟨"RotorRouterModel", "mixNode", "(I)V"⟩, 23)]
theorem lw_r3 : ∀ q ∈ lw_privs_3, lw_okq q := List.forall_mem_cons.mpr ⟨lw_p32, List.forall_mem_cons.mpr ⟨lw_p33, List.forall_mem_cons.mpr ⟨lw_p34, List.forall_mem_cons.mpr ⟨lw_p35, List.forall_mem_cons.mpr ⟨lw_p36, List.forall_mem_cons.mpr ⟨lw_p37, fun _ h => absurd h List.not_mem_nil⟩⟩⟩⟩⟩⟩
def lw_privs : List (MethodName × Nat) := lw_privs_1 ++ (lw_privs_2 ++ (lw_privs_3))
def lw_tbl : List Cond := k2_sels lw_privs ++ tables_1
theorem lw_privs_ok : ∀ q ∈ lw_privs, lw_okq q := by
  show ∀ q ∈ lw_privs_1 ++ (lw_privs_2 ++ (lw_privs_3)), lw_okq q
  exact List.forall_mem_append.mpr ⟨lw_r1, List.forall_mem_append.mpr ⟨lw_r2, lw_r3⟩⟩
/-- the streams that the claim lets the run draw from -/
abbrev lw_cs : List Choice := [Jvm.Choice.named "NaN.bits"]
theorem lw_bits : nanBits ∈ lw_cs := by first | decide | exact List.mem_cons_self | simp [lw_cs, nanBits]

/-! ===== BEGIN words of one list among another's, by their places ===== -/
theorem goodIn_r {big : List Cond} (ws : List Cond) (ps : List Nat) (hp : ws = ps.filterMap (fun i => big[i]?)) (h : ws.all goodWord = true) : GoodIn big ws := by
  intro w hw
  have h1 := List.all_eq_true.mp h w hw
  rw [hp] at hw
  obtain ⟨i, -, hi⟩ := List.mem_filterMap.mp hw
  have hm : w ∈ big := by first | exact List.mem_of_getElem? hi | exact List.getElem?_mem hi
  exact ⟨hm, good_of_word h1⟩
theorem goodIn_app {big a b : List Cond} (ha : GoodIn big a) (hb : GoodIn big b) : GoodIn big (a ++ b) := fun w h => (List.mem_append.mp h).elim (ha w) (hb w)
theorem goodIn_ca {big a b : List Cond} {c : Cond} (ha : GoodIn big (c :: a)) (hb : GoodIn big b) : GoodIn big (c :: (a ++ b)) := fun w h => (List.mem_cons.mp h).elim (fun e => ha w (List.mem_cons.mpr (Or.inl e))) (fun h => (List.mem_append.mp h).elim (fun h => ha w (List.mem_cons.mpr (Or.inr h))) (hb w))
theorem goodIn_sub {big ws : List Cond} (hm : ∀ w ∈ ws, w ∈ big) (h : ws.all goodWord = true) : GoodIn big ws := fun w hw => ⟨hm w hw, good_of_word (List.all_eq_true.mp h w hw)⟩
/-! ===== END ===== -/

/-! ===== BEGIN printed: names, fields, word lists, decode rows ===== -/
def RX0 : String := "RotorRouter$Graph"
def TX0 : u_T := fun k => match k with
  | 0 => ("RotorRouter$Graph", "degrees", "[I", true)
  | 1 => ("RotorRouter$Graph", "neighbors", "[I", true)
  | 2 => ("RotorRouter$Graph", "nodes", "I", false)
  | _ => ("RotorRouter$Graph", "links", "I", false)
def tyX0 : Nat → FieldType := fun k => match k with
  | 0 => .array .int
  | 1 => .array .int
  | 2 => .int
  | _ => .int
abbrev wsX00 : List Cond := u_ws RX0 TX0 4
theorem nmX0 : ∀ a, a < 4 → ∀ b, b < 4 → a ≠ b → (TX0 a).2.1 ≠ (TX0 b).2.1 := by decide +kernel
theorem tyX0_ok : ∀ k, k < 4 → parseFieldDescriptor (TX0 k).2.2.1 = some (tyX0 k) := by decide +kernel
abbrev cX0_init : ByteArray := prog_2_method_1_code
def yX0_init : MethodName := ⟨RX0, "<init>", "()V"⟩
abbrev cX0_slot : ByteArray := prog_2_method_2_code
def yX0_slot : MethodName := ⟨RX0, "slot", "(II)I"⟩
abbrev cX0_build : ByteArray := prog_2_method_3_code
def yX0_build : MethodName := ⟨RX0, "build", "(LRotorRouter$InputText;)V"⟩
abbrev cX0_hasNode : ByteArray := prog_2_method_4_code
def yX0_hasNode : MethodName := ⟨RX0, "hasNode", "(I)Z"⟩
abbrev cX0_neighborError : ByteArray := prog_2_method_5_code
def yX0_neighborError : MethodName := ⟨RX0, "neighborError", "(II)I"⟩
abbrev cX0_rotorAfter : ByteArray := prog_2_method_6_code
def yX0_rotorAfter : MethodName := ⟨RX0, "rotorAfter", "(II)I"⟩
abbrev cX0_assignments : ByteArray := prog_2_method_7_code
def yX0_assignments : MethodName := ⟨RX0, "assignments", "()I"⟩
abbrev cX0_addNeighbor : ByteArray := prog_2_method_8_code
def yX0_addNeighbor : MethodName := ⟨RX0, "addNeighbor", "(II)V"⟩
def RX1 : String := "RotorRouter$InputText"
def TX1 : u_T := fun k => match k with
  | 0 => ("RotorRouter$InputText", "codes", "[I", true)
  | _ => ("RotorRouter$InputText", "length", "I", false)
def tyX1 : Nat → FieldType := fun k => match k with
  | 0 => .array .int
  | _ => .int
abbrev wsX10 : List Cond := u_ws RX1 TX1 2
theorem nmX1 : ∀ a, a < 2 → ∀ b, b < 2 → a ≠ b → (TX1 a).2.1 ≠ (TX1 b).2.1 := by decide +kernel
theorem tyX1_ok : ∀ k, k < 2 → parseFieldDescriptor (TX1 k).2.2.1 = some (tyX1 k) := by decide +kernel
abbrev cX1_init : ByteArray := prog_3_method_1_code
def yX1_init : MethodName := ⟨RX1, "<init>", "()V"⟩
abbrev cX1_firstBrokenIndex : ByteArray := prog_3_method_2_code
def yX1_firstBrokenIndex : MethodName := ⟨RX1, "firstBrokenIndex", "()I"⟩
abbrev cX1_isComplete : ByteArray := prog_3_method_3_code
def yX1_isComplete : MethodName := ⟨RX1, "isComplete", "()Z"⟩
abbrev cX1_isConnected : ByteArray := prog_3_method_4_code
def yX1_isConnected : MethodName := ⟨RX1, "isConnected", "()Z"⟩
abbrev cX1_nodes : ByteArray := prog_3_method_5_code
def yX1_nodes : MethodName := ⟨RX1, "nodes", "()I"⟩
abbrev cX1_links : ByteArray := prog_3_method_6_code
def yX1_links : MethodName := ⟨RX1, "links", "()I"⟩
abbrev cX1_firstNode : ByteArray := prog_3_method_7_code
def yX1_firstNode : MethodName := ⟨RX1, "firstNode", "(I)I"⟩
abbrev cX1_secondNode : ByteArray := prog_3_method_8_code
def yX1_secondNode : MethodName := ⟨RX1, "secondNode", "(I)I"⟩
abbrev cX1_keepsRules : ByteArray := prog_3_method_9_code
def yX1_keepsRules : MethodName := ⟨RX1, "keepsRules", "(I)Z"⟩
abbrev cX1_placeInGroup : ByteArray := prog_3_method_10_code
def yX1_placeInGroup : MethodName := ⟨RX1, "placeInGroup", "(I)I"⟩
abbrev cX1_isNode : ByteArray := prog_3_method_11_code
def yX1_isNode : MethodName := ⟨RX1, "isNode", "(I)Z"⟩
abbrev cX1_isNewLink : ByteArray := prog_3_method_12_code
def yX1_isNewLink : MethodName := ⟨RX1, "isNewLink", "(I)Z"⟩
def RX2 : String := "RotorRouter$Probe"
def TX2 : u_T := fun k => match k with
  | 0 => ("RotorRouter$Probe", "rotors", "[I", true)
  | _ => ("RotorRouter$Probe", "node", "I", false)
def tyX2 : Nat → FieldType := fun k => match k with
  | 0 => .array .int
  | _ => .int
abbrev wsX20 : List Cond := u_ws RX2 TX2 2
theorem nmX2 : ∀ a, a < 2 → ∀ b, b < 2 → a ≠ b → (TX2 a).2.1 ≠ (TX2 b).2.1 := by decide +kernel
theorem tyX2_ok : ∀ k, k < 2 → parseFieldDescriptor (TX2 k).2.2.1 = some (tyX2 k) := by decide +kernel
abbrev cX2_init : ByteArray := prog_4_method_1_code
def yX2_init : MethodName := ⟨RX2, "<init>", "()V"⟩
abbrev cX2_start : ByteArray := prog_4_method_2_code
def yX2_start : MethodName := ⟨RX2, "start", "(I[I)V"⟩
abbrev cX2_move : ByteArray := prog_4_method_3_code
def yX2_move : MethodName := ⟨RX2, "move", "(LRotorRouter$Graph;)V"⟩
abbrev cX2_isSameAs : ByteArray := prog_4_method_4_code
def yX2_isSameAs : MethodName := ⟨RX2, "isSameAs", "(LRotorRouter$Probe;I)Z"⟩
def RX3 : String := "RotorRouter$State"
def TX3 : u_T := fun k => match k with
  | 0 => ("RotorRouter$State", "rotors", "[I", true)
  | 1 => ("RotorRouter$State", "arrived", "[I", true)
  | 2 => ("RotorRouter$State", "departed", "[I", true)
  | 3 => ("RotorRouter$State", "positions", "[I", true)
  | _ => ("RotorRouter$State", "walkers", "I", false)
def tyX3 : Nat → FieldType := fun k => match k with
  | 0 => .array .int
  | 1 => .array .int
  | 2 => .array .int
  | 3 => .array .int
  | _ => .int
abbrev wsX30 : List Cond := u_ws RX3 TX3 5
theorem nmX3 : ∀ a, a < 5 → ∀ b, b < 5 → a ≠ b → (TX3 a).2.1 ≠ (TX3 b).2.1 := by decide +kernel
theorem tyX3_ok : ∀ k, k < 5 → parseFieldDescriptor (TX3 k).2.2.1 = some (tyX3 k) := by decide +kernel
abbrev cX3_init : ByteArray := prog_5_method_1_code
def yX3_init : MethodName := ⟨RX3, "<init>", "()V"⟩
abbrev cX3_reset : ByteArray := prog_5_method_2_code
def yX3_reset : MethodName := ⟨RX3, "reset", "()V"⟩
abbrev cX3_copyFrom : ByteArray := prog_5_method_3_code
def yX3_copyFrom : MethodName := ⟨RX3, "copyFrom", "(LRotorRouter$State;)V"⟩
abbrev cX3_hasWalker : ByteArray := prog_5_method_4_code
def yX3_hasWalker : MethodName := ⟨RX3, "hasWalker", "(I)Z"⟩
abbrev cX3_move : ByteArray := prog_5_method_5_code
def yX3_move : MethodName := ⟨RX3, "move", "(ILRotorRouter$Graph;)V"⟩
def RX4 : String := "RotorRouter"
def TX4 : u_T := fun k => match k with
  | 0 => ("RotorRouter", "input", "LRotorRouter$InputText;", true)
  | 1 => ("RotorRouter", "graph", "LRotorRouter$Graph;", true)
  | 2 => ("RotorRouter", "current", "LRotorRouter$State;", true)
  | 3 => ("RotorRouter", "kept", "LRotorRouter$State;", true)
  | 4 => ("RotorRouter", "hasKept", "Z", false)
  | 5 => ("RotorRouter", "probe", "LRotorRouter$Probe;", true)
  | 6 => ("RotorRouter", "probeAhead", "LRotorRouter$Probe;", true)
  | 7 => ("RotorRouter", "trialRotors", "[I", true)
  | 8 => ("RotorRouter", "bestRotors", "[I", true)
  | 9 => ("RotorRouter", "chances", "[D", true)
  | _ => ("RotorRouter", "nextChances", "[D", true)
def tyX4 : Nat → FieldType := fun k => match k with
  | 0 => .object "RotorRouter$InputText"
  | 1 => .object "RotorRouter$Graph"
  | 2 => .object "RotorRouter$State"
  | 3 => .object "RotorRouter$State"
  | 4 => .boolean
  | 5 => .object "RotorRouter$Probe"
  | 6 => .object "RotorRouter$Probe"
  | 7 => .array .int
  | 8 => .array .int
  | 9 => .array .double
  | _ => .array .double
abbrev wsX40 : List Cond := u_ws RX4 TX4 11
theorem nmX4 : ∀ a, a < 11 → ∀ b, b < 11 → a ≠ b → (TX4 a).2.1 ≠ (TX4 b).2.1 := by decide +kernel
theorem tyX4_ok : ∀ k, k < 11 → parseFieldDescriptor (TX4 k).2.2.1 = some (tyX4 k) := by decide +kernel
abbrev cX4_init : ByteArray := prog_1_method_1_code
def yX4_init : MethodName := ⟨RX4, "<init>", "()V"⟩
abbrev cX4_append : ByteArray := prog_1_method_2_code
def yX4_append : MethodName := ⟨RX4, "append", "(I)I"⟩
abbrev cX4_clearInput : ByteArray := prog_1_method_3_code
def yX4_clearInput : MethodName := ⟨RX4, "clearInput", "()I"⟩
abbrev cX4_firstError : ByteArray := prog_1_method_4_code
def yX4_firstError : MethodName := ⟨RX4, "firstError", "()I"⟩
abbrev cX4_load : ByteArray := prog_1_method_5_code
def yX4_load : MethodName := ⟨RX4, "load", "()I"⟩
abbrev cX4_degree : ByteArray := prog_1_method_6_code
def yX4_degree : MethodName := ⟨RX4, "degree", "(I)I"⟩
abbrev cX4_neighbor : ByteArray := prog_1_method_7_code
def yX4_neighbor : MethodName := ⟨RX4, "neighbor", "(II)I"⟩
abbrev cX4_rotor : ByteArray := prog_1_method_8_code
def yX4_rotor : MethodName := ⟨RX4, "rotor", "(I)I"⟩
abbrev cX4_setRotor : ByteArray := prog_1_method_9_code
def yX4_setRotor : MethodName := ⟨RX4, "setRotor", "(II)I"⟩
abbrev cX4_addWalker : ByteArray := prog_1_method_10_code
def yX4_addWalker : MethodName := ⟨RX4, "addWalker", "(I)I"⟩
abbrev cX4_position : ByteArray := prog_1_method_11_code
def yX4_position : MethodName := ⟨RX4, "position", "(I)I"⟩
abbrev cX4_step : ByteArray := prog_1_method_12_code
def yX4_step : MethodName := ⟨RX4, "step", "(II)I"⟩
abbrev cX4_absorb : ByteArray := prog_1_method_13_code
def yX4_absorb : MethodName := ⟨RX4, "absorb", "(IZ)I"⟩
abbrev cX4_arrivals : ByteArray := prog_1_method_14_code
def yX4_arrivals : MethodName := ⟨RX4, "arrivals", "(I)I"⟩
abbrev cX4_departures : ByteArray := prog_1_method_15_code
def yX4_departures : MethodName := ⟨RX4, "departures", "(II)I"⟩
abbrev cX4_stepsToCycle : ByteArray := prog_1_method_16_code
def yX4_stepsToCycle : MethodName := ⟨RX4, "stepsToCycle", "(I)I"⟩
abbrev cX4_coverTime : ByteArray := prog_1_method_17_code
def yX4_coverTime : MethodName := ⟨RX4, "coverTime", "(I)I"⟩
abbrev cX4_leastCoverTime : ByteArray := prog_1_method_18_code
def yX4_leastCoverTime : MethodName := ⟨RX4, "leastCoverTime", "(I)I"⟩
abbrev cX4_bestRotor : ByteArray := prog_1_method_19_code
def yX4_bestRotor : MethodName := ⟨RX4, "bestRotor", "(II)I"⟩
abbrev cX4_expectedArrivals : ByteArray := prog_1_method_20_code
def yX4_expectedArrivals : MethodName := ⟨RX4, "expectedArrivals", "(III)J"⟩
abbrev cX4_snapshot : ByteArray := prog_1_method_21_code
def yX4_snapshot : MethodName := ⟨RX4, "snapshot", "()I"⟩
abbrev cX4_restore : ByteArray := prog_1_method_22_code
def yX4_restore : MethodName := ⟨RX4, "restore", "()I"⟩
abbrev cX4_walkerCount : ByteArray := prog_1_method_23_code
def yX4_walkerCount : MethodName := ⟨RX4, "walkerCount", "()I"⟩
abbrev cX4_linkCount : ByteArray := prog_1_method_24_code
def yX4_linkCount : MethodName := ⟨RX4, "linkCount", "()I"⟩
abbrev cX4_digest : ByteArray := prog_1_method_25_code
def yX4_digest : MethodName := ⟨RX4, "digest", "()J"⟩
abbrev cX4_absorbOneByOne : ByteArray := prog_1_method_26_code
def yX4_absorbOneByOne : MethodName := ⟨RX4, "absorbOneByOne", "(I)I"⟩
abbrev cX4_absorbInTurns : ByteArray := prog_1_method_27_code
def yX4_absorbInTurns : MethodName := ⟨RX4, "absorbInTurns", "(I)I"⟩
abbrev cX4_makePass : ByteArray := prog_1_method_28_code
def yX4_makePass : MethodName := ⟨RX4, "makePass", "(I)I"⟩
abbrev cX4_coverTimeBelow : ByteArray := prog_1_method_29_code
def yX4_coverTimeBelow : MethodName := ⟨RX4, "coverTimeBelow", "(II[I)I"⟩
abbrev cX4_searchAssignments : ByteArray := prog_1_method_30_code
def yX4_searchAssignments : MethodName := ⟨RX4, "searchAssignments", "(I)I"⟩
abbrev cX4_turnTrialRotors : ByteArray := prog_1_method_31_code
def yX4_turnTrialRotors : MethodName := ⟨RX4, "turnTrialRotors", "()V"⟩
abbrev cX4_spreadChances : ByteArray := prog_1_method_32_code
def yX4_spreadChances : MethodName := ⟨RX4, "spreadChances", "()V"⟩
abbrev cX4_bitsOf : ByteArray := prog_1_method_33_code
def yX4_bitsOf : MethodName := ⟨RX4, "bitsOf", "(D)J"⟩
abbrev cX4_hashed : ByteArray := prog_1_method_34_code
def yX4_hashed : MethodName := ⟨RX4, "hashed", "(JJ)J"⟩
abbrev cX4_hashedNode : ByteArray := prog_1_method_35_code
def yX4_hashedNode : MethodName := ⟨RX4, "hashedNode", "(JI)J"⟩
abbrev cX4_hashedAnalysis : ByteArray := prog_1_method_36_code
def yX4_hashedAnalysis : MethodName := ⟨RX4, "hashedAnalysis", "(J)J"⟩
abbrev cX4_hashedInput : ByteArray := prog_1_method_37_code
def yX4_hashedInput : MethodName := ⟨RX4, "hashedInput", "(J)J"⟩
def RX5 : String := "RotorRouterModel"
def TX5 : u_T := fun k => match k with
  | 0 => ("RotorRouterModel", "length", "I", false)
  | 1 => ("RotorRouterModel", "buffer", "[I", true)
  | 2 => ("RotorRouterModel", "nodes", "I", false)
  | 3 => ("RotorRouterModel", "links", "I", false)
  | 4 => ("RotorRouterModel", "table", "[I", true)
  | 5 => ("RotorRouterModel", "degrees", "[I", true)
  | 6 => ("RotorRouterModel", "rotors", "[I", true)
  | 7 => ("RotorRouterModel", "walkers", "I", false)
  | 8 => ("RotorRouterModel", "places", "[I", true)
  | 9 => ("RotorRouterModel", "arrived", "[I", true)
  | 10 => ("RotorRouterModel", "departed", "[I", true)
  | 11 => ("RotorRouterModel", "first", "[I", true)
  | 12 => ("RotorRouterModel", "second", "[I", true)
  | 13 => ("RotorRouterModel", "bestCode", "I", false)
  | 14 => ("RotorRouterModel", "chance", "[D", true)
  | 15 => ("RotorRouterModel", "after", "[D", true)
  | 16 => ("RotorRouterModel", "hasSnapshot", "Z", false)
  | 17 => ("RotorRouterModel", "keptWalkers", "I", false)
  | 18 => ("RotorRouterModel", "keptRotors", "[I", true)
  | 19 => ("RotorRouterModel", "keptPlaces", "[I", true)
  | 20 => ("RotorRouterModel", "keptArrived", "[I", true)
  | 21 => ("RotorRouterModel", "keptDeparted", "[I", true)
  | _ => ("RotorRouterModel", "hash", "J", false)
def tyX5 : Nat → FieldType := fun k => match k with
  | 0 => .int
  | 1 => .array .int
  | 2 => .int
  | 3 => .int
  | 4 => .array .int
  | 5 => .array .int
  | 6 => .array .int
  | 7 => .int
  | 8 => .array .int
  | 9 => .array .int
  | 10 => .array .int
  | 11 => .array .int
  | 12 => .array .int
  | 13 => .int
  | 14 => .array .double
  | 15 => .array .double
  | 16 => .boolean
  | 17 => .int
  | 18 => .array .int
  | 19 => .array .int
  | 20 => .array .int
  | 21 => .array .int
  | _ => .long
abbrev wsX50 : List Cond := u_ws RX5 TX5 23
theorem nmX5 : ∀ a, a < 23 → ∀ b, b < 23 → a ≠ b → (TX5 a).2.1 ≠ (TX5 b).2.1 := by decide +kernel
theorem tyX5_ok : ∀ k, k < 23 → parseFieldDescriptor (TX5 k).2.2.1 = some (tyX5 k) := by decide +kernel
abbrev cX5_init : ByteArray := prog_7_method_1_code
def yX5_init : MethodName := ⟨RX5, "<init>", "()V"⟩
abbrev cX5_within : ByteArray := prog_7_method_3_code
def yX5_within : MethodName := ⟨RX5, "within", "(III)Z"⟩
abbrev cX5_append : ByteArray := prog_7_method_4_code
def yX5_append : MethodName := ⟨RX5, "append", "(I)I"⟩
abbrev cX5_clearInput : ByteArray := prog_7_method_5_code
def yX5_clearInput : MethodName := ⟨RX5, "clearInput", "()I"⟩
abbrev cX5_isNodeDigit : ByteArray := prog_7_method_6_code
def yX5_isNodeDigit : MethodName := ⟨RX5, "isNodeDigit", "(I)Z"⟩
abbrev cX5_isSecondNode : ByteArray := prog_7_method_7_code
def yX5_isSecondNode : MethodName := ⟨RX5, "isSecondNode", "(I)Z"⟩
abbrev cX5_isRight : ByteArray := prog_7_method_8_code
def yX5_isRight : MethodName := ⟨RX5, "isRight", "(I)Z"⟩
abbrev cX5_rightLength : ByteArray := prog_7_method_9_code
def yX5_rightLength : MethodName := ⟨RX5, "rightLength", "()I"⟩
abbrev cX5_firstError : ByteArray := prog_7_method_10_code
def yX5_firstError : MethodName := ⟨RX5, "firstError", "()I"⟩
abbrev cX5_isConnected : ByteArray := prog_7_method_11_code
def yX5_isConnected : MethodName := ⟨RX5, "isConnected", "()Z"⟩
abbrev cX5_join : ByteArray := prog_7_method_12_code
def yX5_join : MethodName := ⟨RX5, "join", "(II)V"⟩
abbrev cX5_load : ByteArray := prog_7_method_13_code
def yX5_load : MethodName := ⟨RX5, "load", "()I"⟩
abbrev cX5_isNode : ByteArray := prog_7_method_14_code
def yX5_isNode : MethodName := ⟨RX5, "isNode", "(I)Z"⟩
abbrev cX5_degree : ByteArray := prog_7_method_15_code
def yX5_degree : MethodName := ⟨RX5, "degree", "(I)I"⟩
abbrev cX5_errorOf : ByteArray := prog_7_method_16_code
def yX5_errorOf : MethodName := ⟨RX5, "errorOf", "(II)I"⟩
abbrev cX5_neighbor : ByteArray := prog_7_method_17_code
def yX5_neighbor : MethodName := ⟨RX5, "neighbor", "(II)I"⟩
abbrev cX5_rotor : ByteArray := prog_7_method_18_code
def yX5_rotor : MethodName := ⟨RX5, "rotor", "(I)I"⟩
abbrev cX5_setRotor : ByteArray := prog_7_method_19_code
def yX5_setRotor : MethodName := ⟨RX5, "setRotor", "(II)I"⟩
abbrev cX5_isWalker : ByteArray := prog_7_method_20_code
def yX5_isWalker : MethodName := ⟨RX5, "isWalker", "(I)Z"⟩
abbrev cX5_addWalker : ByteArray := prog_7_method_21_code
def yX5_addWalker : MethodName := ⟨RX5, "addWalker", "(I)I"⟩
abbrev cX5_position : ByteArray := prog_7_method_22_code
def yX5_position : MethodName := ⟨RX5, "position", "(I)I"⟩
abbrev cX5_go : ByteArray := prog_7_method_23_code
def yX5_go : MethodName := ⟨RX5, "go", "(I[I)I"⟩
abbrev cX5_stepOnce : ByteArray := prog_7_method_24_code
def yX5_stepOnce : MethodName := ⟨RX5, "stepOnce", "(I)V"⟩
abbrev cX5_step : ByteArray := prog_7_method_25_code
def yX5_step : MethodName := ⟨RX5, "step", "(II)I"⟩
abbrev cX5_pass : ByteArray := prog_7_method_26_code
def yX5_pass : MethodName := ⟨RX5, "pass", "(I)I"⟩
abbrev cX5_absorb : ByteArray := prog_7_method_27_code
def yX5_absorb : MethodName := ⟨RX5, "absorb", "(IZ)I"⟩
abbrev cX5_arrivals : ByteArray := prog_7_method_28_code
def yX5_arrivals : MethodName := ⟨RX5, "arrivals", "(I)I"⟩
abbrev cX5_departures : ByteArray := prog_7_method_29_code
def yX5_departures : MethodName := ⟨RX5, "departures", "(II)I"⟩
abbrev cX5_copyRotors : ByteArray := prog_7_method_30_code
def yX5_copyRotors : MethodName := ⟨RX5, "copyRotors", "([I[I)V"⟩
abbrev cX5_areEqual : ByteArray := prog_7_method_31_code
def yX5_areEqual : MethodName := ⟨RX5, "areEqual", "()Z"⟩
abbrev cX5_cycleOf : ByteArray := prog_7_method_32_code
def yX5_cycleOf : MethodName := ⟨RX5, "cycleOf", "(I)I"⟩
abbrev cX5_stepsToCycle : ByteArray := prog_7_method_33_code
def yX5_stepsToCycle : MethodName := ⟨RX5, "stepsToCycle", "(I)I"⟩
abbrev cX5_coverFrom : ByteArray := prog_7_method_34_code
def yX5_coverFrom : MethodName := ⟨RX5, "coverFrom", "(I)I"⟩
abbrev cX5_coverOf : ByteArray := prog_7_method_35_code
def yX5_coverOf : MethodName := ⟨RX5, "coverOf", "(I)I"⟩
abbrev cX5_coverTime : ByteArray := prog_7_method_36_code
def yX5_coverTime : MethodName := ⟨RX5, "coverTime", "(I)I"⟩
abbrev cX5_assignments : ByteArray := prog_7_method_37_code
def yX5_assignments : MethodName := ⟨RX5, "assignments", "()I"⟩
abbrev cX5_layAssignment : ByteArray := prog_7_method_38_code
def yX5_layAssignment : MethodName := ⟨RX5, "layAssignment", "(I)V"⟩
abbrev cX5_leastFrom : ByteArray := prog_7_method_39_code
def yX5_leastFrom : MethodName := ⟨RX5, "leastFrom", "(I)I"⟩
abbrev cX5_leastCoverTime : ByteArray := prog_7_method_40_code
def yX5_leastCoverTime : MethodName := ⟨RX5, "leastCoverTime", "(I)I"⟩
abbrev cX5_bestRotor : ByteArray := prog_7_method_41_code
def yX5_bestRotor : MethodName := ⟨RX5, "bestRotor", "(II)I"⟩
abbrev cX5_spread : ByteArray := prog_7_method_42_code
def yX5_spread : MethodName := ⟨RX5, "spread", "()V"⟩
abbrev cX5_expected : ByteArray := prog_7_method_43_code
def yX5_expected : MethodName := ⟨RX5, "expected", "(III)J"⟩
abbrev cX5_expectedArrivals : ByteArray := prog_7_method_44_code
def yX5_expectedArrivals : MethodName := ⟨RX5, "expectedArrivals", "(III)J"⟩
abbrev cX5_snapshot : ByteArray := prog_7_method_45_code
def yX5_snapshot : MethodName := ⟨RX5, "snapshot", "()I"⟩
abbrev cX5_restore : ByteArray := prog_7_method_46_code
def yX5_restore : MethodName := ⟨RX5, "restore", "()I"⟩
abbrev cX5_walkerCount : ByteArray := prog_7_method_47_code
def yX5_walkerCount : MethodName := ⟨RX5, "walkerCount", "()I"⟩
abbrev cX5_linkCount : ByteArray := prog_7_method_48_code
def yX5_linkCount : MethodName := ⟨RX5, "linkCount", "()I"⟩
abbrev cX5_mix : ByteArray := prog_7_method_49_code
def yX5_mix : MethodName := ⟨RX5, "mix", "(J)V"⟩
abbrev cX5_mixNode : ByteArray := prog_7_method_50_code
def yX5_mixNode : MethodName := ⟨RX5, "mixNode", "(I)V"⟩
abbrev cX5_digest : ByteArray := prog_7_method_51_code
def yX5_digest : MethodName := ⟨RX5, "digest", "()J"⟩
def RJxe99ae : String := "java/lang/Double"
def TJxe99ae : u_T := fun k => match k with
  | _ => ("", "", "", false)
def tyJxe99ae : Nat → FieldType := fun k => match k with
  | _ => .int
abbrev wsJxe99ae0 : List Cond := u_ws RJxe99ae TJxe99ae 0
theorem nmJxe99ae : ∀ a, a < 0 → ∀ b, b < 0 → a ≠ b → (TJxe99ae a).2.1 ≠ (TJxe99ae b).2.1 := by decide +kernel
theorem tyJxe99ae_ok : ∀ k, k < 0 → parseFieldDescriptor (TJxe99ae k).2.2.1 = some (tyJxe99ae k) := by decide +kernel
abbrev cJxe99ae_isNaN_b9ae7 : ByteArray := prog_8_method_6_code
def yJxe99ae_isNaN_b9ae7 : MethodName := ⟨RJxe99ae, "isNaN", "(D)Z"⟩
abbrev cJxe99ae_doubleToLongBits_ccdee : ByteArray := prog_8_method_23_code
def yJxe99ae_doubleToLongBits_ccdee : MethodName := ⟨RJxe99ae, "doubleToLongBits", "(D)J"⟩
def RJ10 : String := "java/lang/System"
def TJ10 : u_T := fun k => match k with
  | _ => ("", "", "", false)
def tyJ10 : Nat → FieldType := fun k => match k with
  | _ => .int
abbrev wsJ100 : List Cond := u_ws RJ10 TJ10 0
theorem nmJ10 : ∀ a, a < 0 → ∀ b, b < 0 → a ≠ b → (TJ10 a).2.1 ≠ (TJ10 b).2.1 := by decide +kernel
theorem tyJ10_ok : ∀ k, k < 0 → parseFieldDescriptor (TJ10 k).2.2.1 = some (tyJ10 k) := by decide +kernel
def RL : String := "RotorRouterLaw"
abbrev cL_law : ByteArray := code
def yL_law : MethodName := ⟨RL, "law", "([I)Z"⟩
def wsX0_init : List Cond := .code yX0_init cX0_init 1 none :: ([.methodLink RX0 3 objectInit, .instanceMethod objectInit, .code objectInit ⟨#[0xb1]⟩ 1 none, .arrayClass .int, .fieldLink RX0 9 "RotorRouter$Graph" "degrees" "[I", .fieldLink RX0 15 "RotorRouter$Graph" "neighbors" "[I", .fieldLink RX0 18 "RotorRouter$Graph" "nodes" "I", .fieldLink RX0 22 "RotorRouter$Graph" "links" "I"] ++ wsX00)
def wsX0_slot : List Cond := .code yX0_slot cX0_slot 2 (some .int) :: ([])
def wsX1_nodes : List Cond := .code yX1_nodes cX1_nodes 1 (some .int) :: ([.fieldLink RX1 11 "RotorRouter$InputText" "codes" "[I"] ++ wsX10)
def wsX1_links : List Cond := .code yX1_links cX1_links 1 (some .int) :: ([.fieldLink RX1 15 "RotorRouter$InputText" "length" "I"] ++ wsX10)
def wsX1_firstNode : List Cond := .code yX1_firstNode cX1_firstNode 2 (some .int) :: ([.fieldLink RX1 11 "RotorRouter$InputText" "codes" "[I"] ++ wsX10)
def wsX1_secondNode : List Cond := .code yX1_secondNode cX1_secondNode 2 (some .int) :: ([.fieldLink RX1 11 "RotorRouter$InputText" "codes" "[I"] ++ wsX10)
def wsX0_addNeighbor : List Cond := .code yX0_addNeighbor cX0_addNeighbor 3 none :: ([.fieldLink RX0 15 "RotorRouter$Graph" "neighbors" "[I", .fieldLink RX0 9 "RotorRouter$Graph" "degrees" "[I", .methodLink RX0 47 yX0_slot, .static yX0_slot, .initialized RX0, .code yX0_slot cX0_slot 2 (some .int)] ++ wsX00)
def wsX0_build_r1 : List Cond := [Cond.fieldLink RX0 18 "RotorRouter$Graph" "nodes" "I", Cond.fieldLink RX0 22 "RotorRouter$Graph" "links" "I", Cond.fieldLink RX0 9 "RotorRouter$Graph" "degrees" "[I", Cond.methodLink RX0 25 yX1_nodes, Cond.instanceMethod yX1_nodes, Cond.selects RX1 yX1_nodes yX1_nodes, Cond.initialized RX1, Cond.code yX1_nodes cX1_nodes 1 (some .int), Cond.fieldLink RX1 11 "RotorRouter$InputText" "codes" "[I", Cond.methodLink RX0 30 yX1_links, Cond.instanceMethod yX1_links, Cond.selects RX1 yX1_links yX1_links, Cond.code yX1_links cX1_links 1 (some .int), Cond.fieldLink RX1 15 "RotorRouter$InputText" "length" "I", Cond.methodLink RX0 32 yX1_firstNode, Cond.instanceMethod yX1_firstNode, Cond.selects RX1 yX1_firstNode yX1_firstNode, Cond.code yX1_firstNode cX1_firstNode 2 (some .int), Cond.methodLink RX0 36 yX1_secondNode, Cond.instanceMethod yX1_secondNode, Cond.selects RX1 yX1_secondNode yX1_secondNode, Cond.code yX1_secondNode cX1_secondNode 2 (some .int), Cond.methodLink RX0 39 yX0_addNeighbor, Cond.instanceMethod yX0_addNeighbor]
def wsX0_build_r2 : List Cond := [Cond.selects RX0 yX0_addNeighbor yX0_addNeighbor, Cond.initialized RX0, Cond.code yX0_addNeighbor cX0_addNeighbor 3 none, Cond.fieldLink RX0 15 "RotorRouter$Graph" "neighbors" "[I", Cond.methodLink RX0 47 yX0_slot, Cond.static yX0_slot, Cond.code yX0_slot cX0_slot 2 (some .int)]
def wsX0_build : List Cond := .code yX0_build cX0_build 5 none :: ((wsX0_build_r1 ++ wsX0_build_r2) ++ wsX00 ++ wsX10)
def wsX0_hasNode : List Cond := .code yX0_hasNode cX0_hasNode 2 (some .boolean) :: ([.fieldLink RX0 18 "RotorRouter$Graph" "nodes" "I"] ++ wsX00)
def wsX0_neighborError : List Cond := .code yX0_neighborError cX0_neighborError 3 (some .int) :: ([.fieldLink RX0 9 "RotorRouter$Graph" "degrees" "[I", .methodLink RX0 43 yX0_hasNode, .instanceMethod yX0_hasNode, .selects RX0 yX0_hasNode yX0_hasNode, .initialized RX0, .code yX0_hasNode cX0_hasNode 2 (some .boolean), .fieldLink RX0 18 "RotorRouter$Graph" "nodes" "I"] ++ wsX00)
def wsX0_rotorAfter : List Cond := .code yX0_rotorAfter cX0_rotorAfter 4 (some .int) :: ([.fieldLink RX0 9 "RotorRouter$Graph" "degrees" "[I"] ++ wsX00)
def wsX0_assignments : List Cond := .code yX0_assignments cX0_assignments 3 (some .int) :: ([.fieldLink RX0 18 "RotorRouter$Graph" "nodes" "I", .fieldLink RX0 9 "RotorRouter$Graph" "degrees" "[I"] ++ wsX00)
def wsX1_init : List Cond := .code yX1_init cX1_init 1 none :: ([.methodLink RX1 5 objectInit, .instanceMethod objectInit, .code objectInit ⟨#[0xb1]⟩ 1 none, .arrayClass .int, .fieldLink RX1 11 "RotorRouter$InputText" "codes" "[I", .fieldLink RX1 15 "RotorRouter$InputText" "length" "I"] ++ wsX10)
def wsX1_placeInGroup : List Cond := .code yX1_placeInGroup cX1_placeInGroup 1 (some .int) :: ([])
def wsX1_isNode : List Cond := .code yX1_isNode cX1_isNode 2 (some .boolean) :: ([.fieldLink RX1 11 "RotorRouter$InputText" "codes" "[I"] ++ wsX10)
def wsX1_isNewLink : List Cond := .code yX1_isNewLink cX1_isNewLink 7 (some .boolean) :: ([.fieldLink RX1 11 "RotorRouter$InputText" "codes" "[I"] ++ wsX10)
def wsX1_keepsRules : List Cond := .code yX1_keepsRules cX1_keepsRules 4 (some .boolean) :: ([.fieldLink RX1 11 "RotorRouter$InputText" "codes" "[I", .methodLink RX1 23 yX1_placeInGroup, .static yX1_placeInGroup, .initialized RX1, .code yX1_placeInGroup cX1_placeInGroup 1 (some .int), .methodLink RX1 43 yX1_isNode, .instanceMethod yX1_isNode, .selects RX1 yX1_isNode yX1_isNode, .code yX1_isNode cX1_isNode 2 (some .boolean), .methodLink RX1 46 yX1_isNewLink, .instanceMethod yX1_isNewLink, .selects RX1 yX1_isNewLink yX1_isNewLink, .code yX1_isNewLink cX1_isNewLink 7 (some .boolean)] ++ wsX10)
def wsX1_firstBrokenIndex : List Cond := .code yX1_firstBrokenIndex cX1_firstBrokenIndex 2 (some .int) :: ([.fieldLink RX1 15 "RotorRouter$InputText" "length" "I", .methodLink RX1 19 yX1_keepsRules, .instanceMethod yX1_keepsRules, .selects RX1 yX1_keepsRules yX1_keepsRules, .initialized RX1, .code yX1_keepsRules cX1_keepsRules 4 (some .boolean), .fieldLink RX1 11 "RotorRouter$InputText" "codes" "[I", .methodLink RX1 23 yX1_placeInGroup, .static yX1_placeInGroup, .code yX1_placeInGroup cX1_placeInGroup 1 (some .int), .methodLink RX1 43 yX1_isNode, .instanceMethod yX1_isNode, .selects RX1 yX1_isNode yX1_isNode, .code yX1_isNode cX1_isNode 2 (some .boolean), .methodLink RX1 46 yX1_isNewLink, .instanceMethod yX1_isNewLink, .selects RX1 yX1_isNewLink yX1_isNewLink, .code yX1_isNewLink cX1_isNewLink 7 (some .boolean)] ++ wsX10)
def wsX1_isComplete : List Cond := .code yX1_isComplete cX1_isComplete 1 (some .boolean) :: ([.fieldLink RX1 15 "RotorRouter$InputText" "length" "I", .methodLink RX1 23 yX1_placeInGroup, .static yX1_placeInGroup, .initialized RX1, .code yX1_placeInGroup cX1_placeInGroup 1 (some .int), .methodLink RX1 27 yX1_firstBrokenIndex, .instanceMethod yX1_firstBrokenIndex, .selects RX1 yX1_firstBrokenIndex yX1_firstBrokenIndex, .code yX1_firstBrokenIndex cX1_firstBrokenIndex 2 (some .int), .methodLink RX1 19 yX1_keepsRules, .instanceMethod yX1_keepsRules, .selects RX1 yX1_keepsRules yX1_keepsRules, .code yX1_keepsRules cX1_keepsRules 4 (some .boolean), .fieldLink RX1 11 "RotorRouter$InputText" "codes" "[I", .methodLink RX1 43 yX1_isNode, .instanceMethod yX1_isNode, .selects RX1 yX1_isNode yX1_isNode, .code yX1_isNode cX1_isNode 2 (some .boolean), .methodLink RX1 46 yX1_isNewLink, .instanceMethod yX1_isNewLink, .selects RX1 yX1_isNewLink yX1_isNewLink, .code yX1_isNewLink cX1_isNewLink 7 (some .boolean)] ++ wsX10)
def wsX1_isConnected : List Cond := .code yX1_isConnected cX1_isConnected 5 (some .boolean) :: ([.methodLink RX1 31 yX1_nodes, .instanceMethod yX1_nodes, .selects RX1 yX1_nodes yX1_nodes, .initialized RX1, .code yX1_nodes cX1_nodes 1 (some .int), .fieldLink RX1 11 "RotorRouter$InputText" "codes" "[I", .methodLink RX1 34 yX1_links, .instanceMethod yX1_links, .selects RX1 yX1_links yX1_links, .code yX1_links cX1_links 1 (some .int), .fieldLink RX1 15 "RotorRouter$InputText" "length" "I", .methodLink RX1 37 yX1_firstNode, .instanceMethod yX1_firstNode, .selects RX1 yX1_firstNode yX1_firstNode, .code yX1_firstNode cX1_firstNode 2 (some .int), .methodLink RX1 40 yX1_secondNode, .instanceMethod yX1_secondNode, .selects RX1 yX1_secondNode yX1_secondNode, .code yX1_secondNode cX1_secondNode 2 (some .int)] ++ wsX10)
def wsX2_init : List Cond := .code yX2_init cX2_init 1 none :: ([.methodLink RX2 3 objectInit, .instanceMethod objectInit, .code objectInit ⟨#[0xb1]⟩ 1 none, .arrayClass .int, .fieldLink RX2 9 "RotorRouter$Probe" "rotors" "[I", .fieldLink RX2 15 "RotorRouter$Probe" "node" "I"] ++ wsX20)
def wsX2_start : List Cond := .code yX2_start cX2_start 3 none :: ([.fieldLink RX2 15 "RotorRouter$Probe" "node" "I", .fieldLink RX2 9 "RotorRouter$Probe" "rotors" "[I", .methodLink RX2 19 arraycopyName, .native arraycopyName, .static arraycopyName, .initialized "java/lang/System"] ++ wsX20)
def wsX2_move : List Cond := .code yX2_move cX2_move 3 none :: ([.fieldLink RX2 15 "RotorRouter$Probe" "node" "I", .fieldLink RX2 25 "RotorRouter$Graph" "neighbors" "[I", .fieldLink RX2 9 "RotorRouter$Probe" "rotors" "[I", .methodLink RX2 30 yX0_slot, .static yX0_slot, .initialized RX0, .code yX0_slot cX0_slot 2 (some .int), .methodLink RX2 34 yX0_rotorAfter, .instanceMethod yX0_rotorAfter, .selects RX0 yX0_rotorAfter yX0_rotorAfter, .code yX0_rotorAfter cX0_rotorAfter 4 (some .int), .fieldLink RX0 9 "RotorRouter$Graph" "degrees" "[I"] ++ wsX20 ++ wsX00)
def wsX2_isSameAs : List Cond := .code yX2_isSameAs cX2_isSameAs 4 (some .boolean) :: ([.fieldLink RX2 15 "RotorRouter$Probe" "node" "I", .fieldLink RX2 9 "RotorRouter$Probe" "rotors" "[I"] ++ wsX20)
def wsX3_init : List Cond := .code yX3_init cX3_init 1 none :: ([.methodLink RX3 3 objectInit, .instanceMethod objectInit, .code objectInit ⟨#[0xb1]⟩ 1 none, .arrayClass .int, .fieldLink RX3 9 "RotorRouter$State" "rotors" "[I", .fieldLink RX3 15 "RotorRouter$State" "arrived" "[I", .fieldLink RX3 18 "RotorRouter$State" "departed" "[I", .fieldLink RX3 21 "RotorRouter$State" "positions" "[I", .fieldLink RX3 24 "RotorRouter$State" "walkers" "I"] ++ wsX30)
def wsX3_reset : List Cond := .code yX3_reset cX3_reset 2 none :: ([.fieldLink RX3 9 "RotorRouter$State" "rotors" "[I", .fieldLink RX3 15 "RotorRouter$State" "arrived" "[I", .fieldLink RX3 18 "RotorRouter$State" "departed" "[I", .fieldLink RX3 24 "RotorRouter$State" "walkers" "I"] ++ wsX30)
def wsX3_copyFrom : List Cond := .code yX3_copyFrom cX3_copyFrom 2 none :: ([.fieldLink RX3 9 "RotorRouter$State" "rotors" "[I", .methodLink RX3 28 arraycopyName, .native arraycopyName, .static arraycopyName, .initialized "java/lang/System", .fieldLink RX3 15 "RotorRouter$State" "arrived" "[I", .fieldLink RX3 18 "RotorRouter$State" "departed" "[I", .fieldLink RX3 21 "RotorRouter$State" "positions" "[I", .fieldLink RX3 24 "RotorRouter$State" "walkers" "I"] ++ wsX30)
def wsX3_hasWalker : List Cond := .code yX3_hasWalker cX3_hasWalker 2 (some .boolean) :: ([.fieldLink RX3 24 "RotorRouter$State" "walkers" "I"] ++ wsX30)
def wsX3_move : List Cond := .code yX3_move cX3_move 6 none :: ([.fieldLink RX3 21 "RotorRouter$State" "positions" "[I", .fieldLink RX3 9 "RotorRouter$State" "rotors" "[I", .fieldLink RX3 40 "RotorRouter$Graph" "neighbors" "[I", .fieldLink RX3 18 "RotorRouter$State" "departed" "[I", .fieldLink RX3 15 "RotorRouter$State" "arrived" "[I", .methodLink RX3 34 yX0_slot, .static yX0_slot, .initialized RX0, .code yX0_slot cX0_slot 2 (some .int), .methodLink RX3 43 yX0_rotorAfter, .instanceMethod yX0_rotorAfter, .selects RX0 yX0_rotorAfter yX0_rotorAfter, .code yX0_rotorAfter cX0_rotorAfter 4 (some .int), .fieldLink RX0 9 "RotorRouter$Graph" "degrees" "[I"] ++ wsX30 ++ wsX00)
def wsX4_init_r1 : List Cond := [Cond.methodLink RX4 3 objectInit, Cond.instanceMethod objectInit, Cond.code objectInit ⟨#[0xb1]⟩ 1 none, Cond.classLink RX4 9 RX1, Cond.instantiable RX1 2, Cond.initialized RX1, Cond.fieldLink RX4 12 "RotorRouter" "input" "LRotorRouter$InputText;", Cond.classLink RX4 16 RX0, Cond.instantiable RX0 4, Cond.initialized RX0, Cond.fieldLink RX4 19 "RotorRouter" "graph" "LRotorRouter$Graph;", Cond.classLink RX4 23 RX3, Cond.instantiable RX3 5, Cond.initialized RX3, Cond.fieldLink RX4 26 "RotorRouter" "current" "LRotorRouter$State;", Cond.fieldLink RX4 30 "RotorRouter" "kept" "LRotorRouter$State;", Cond.fieldLink RX4 33 "RotorRouter" "hasKept" "Z", Cond.classLink RX4 37 RX2, Cond.instantiable RX2 2, Cond.initialized RX2, Cond.fieldLink RX4 40 "RotorRouter" "probe" "LRotorRouter$Probe;", Cond.fieldLink RX4 44 "RotorRouter" "probeAhead" "LRotorRouter$Probe;", Cond.arrayClass .int, Cond.fieldLink RX4 47 "RotorRouter" "trialRotors" "[I"]
def wsX4_init_r2 : List Cond := [Cond.fieldLink RX4 51 "RotorRouter" "bestRotors" "[I", Cond.arrayClass .double, Cond.fieldLink RX4 54 "RotorRouter" "chances" "[D", Cond.fieldLink RX4 58 "RotorRouter" "nextChances" "[D", Cond.instanceMethod yX1_init, Cond.code yX1_init cX1_init 1 none, Cond.methodLink RX1 5 objectInit, Cond.fieldLink RX1 11 "RotorRouter$InputText" "codes" "[I", Cond.fieldLink RX1 15 "RotorRouter$InputText" "length" "I", Cond.instanceMethod yX0_init, Cond.code yX0_init cX0_init 1 none, Cond.methodLink RX0 3 objectInit, Cond.fieldLink RX0 9 "RotorRouter$Graph" "degrees" "[I", Cond.fieldLink RX0 15 "RotorRouter$Graph" "neighbors" "[I", Cond.fieldLink RX0 18 "RotorRouter$Graph" "nodes" "I", Cond.fieldLink RX0 22 "RotorRouter$Graph" "links" "I", Cond.instanceMethod yX3_init, Cond.code yX3_init cX3_init 1 none, Cond.methodLink RX3 3 objectInit, Cond.fieldLink RX3 9 "RotorRouter$State" "rotors" "[I", Cond.fieldLink RX3 15 "RotorRouter$State" "arrived" "[I", Cond.fieldLink RX3 18 "RotorRouter$State" "departed" "[I", Cond.fieldLink RX3 21 "RotorRouter$State" "positions" "[I", Cond.fieldLink RX3 24 "RotorRouter$State" "walkers" "I"]
def wsX4_init_r3 : List Cond := [Cond.instanceMethod yX2_init, Cond.code yX2_init cX2_init 1 none, Cond.methodLink RX2 3 objectInit, Cond.fieldLink RX2 9 "RotorRouter$Probe" "rotors" "[I", Cond.fieldLink RX2 15 "RotorRouter$Probe" "node" "I"]
def wsX4_init : List Cond := .code yX4_init cX4_init 1 none :: ((wsX4_init_r1 ++ (wsX4_init_r2 ++ wsX4_init_r3)) ++ wsX10 ++ wsX40 ++ wsX00 ++ wsX30 ++ wsX20)
def wsX4_append : List Cond := .code yX4_append cX4_append 2 (some .int) :: ([.fieldLink RX4 12 "RotorRouter" "input" "LRotorRouter$InputText;", .fieldLink RX4 61 "RotorRouter$InputText" "length" "I", .fieldLink RX4 65 "RotorRouter$InputText" "codes" "[I"] ++ wsX40 ++ wsX10)
def wsX4_clearInput : List Cond := .code yX4_clearInput cX4_clearInput 2 (some .int) :: ([.fieldLink RX4 12 "RotorRouter" "input" "LRotorRouter$InputText;", .fieldLink RX4 61 "RotorRouter$InputText" "length" "I"] ++ wsX40 ++ wsX10)
def wsX4_firstError : List Cond := .code yX4_firstError cX4_firstError 1 (some .int) :: ([.fieldLink RX4 12 "RotorRouter" "input" "LRotorRouter$InputText;", .methodLink RX4 68 yX1_firstBrokenIndex, .instanceMethod yX1_firstBrokenIndex, .selects RX1 yX1_firstBrokenIndex yX1_firstBrokenIndex, .initialized RX1, .code yX1_firstBrokenIndex cX1_firstBrokenIndex 2 (some .int), .fieldLink RX1 15 "RotorRouter$InputText" "length" "I", .methodLink RX1 19 yX1_keepsRules, .instanceMethod yX1_keepsRules, .selects RX1 yX1_keepsRules yX1_keepsRules, .code yX1_keepsRules cX1_keepsRules 4 (some .boolean), .fieldLink RX1 11 "RotorRouter$InputText" "codes" "[I", .methodLink RX1 23 yX1_placeInGroup, .static yX1_placeInGroup, .code yX1_placeInGroup cX1_placeInGroup 1 (some .int), .methodLink RX1 43 yX1_isNode, .instanceMethod yX1_isNode, .selects RX1 yX1_isNode yX1_isNode, .code yX1_isNode cX1_isNode 2 (some .boolean), .methodLink RX1 46 yX1_isNewLink, .instanceMethod yX1_isNewLink, .selects RX1 yX1_isNewLink yX1_isNewLink, .code yX1_isNewLink cX1_isNewLink 7 (some .boolean)] ++ wsX40 ++ wsX10)
def wsX4_load_r1 : List Cond := [Cond.fieldLink RX4 12 "RotorRouter" "input" "LRotorRouter$InputText;", Cond.fieldLink RX4 19 "RotorRouter" "graph" "LRotorRouter$Graph;", Cond.fieldLink RX4 26 "RotorRouter" "current" "LRotorRouter$State;", Cond.fieldLink RX4 33 "RotorRouter" "hasKept" "Z", Cond.fieldLink RX4 61 "RotorRouter$InputText" "length" "I", Cond.fieldLink RX4 86 "RotorRouter$Graph" "nodes" "I", Cond.methodLink RX4 72 yX1_isComplete, Cond.instanceMethod yX1_isComplete, Cond.selects RX1 yX1_isComplete yX1_isComplete, Cond.initialized RX1, Cond.code yX1_isComplete cX1_isComplete 1 (some .boolean), Cond.fieldLink RX1 15 "RotorRouter$InputText" "length" "I", Cond.methodLink RX1 23 yX1_placeInGroup, Cond.static yX1_placeInGroup, Cond.code yX1_placeInGroup cX1_placeInGroup 1 (some .int), Cond.methodLink RX1 27 yX1_firstBrokenIndex, Cond.instanceMethod yX1_firstBrokenIndex, Cond.selects RX1 yX1_firstBrokenIndex yX1_firstBrokenIndex, Cond.code yX1_firstBrokenIndex cX1_firstBrokenIndex 2 (some .int), Cond.methodLink RX1 19 yX1_keepsRules, Cond.instanceMethod yX1_keepsRules, Cond.selects RX1 yX1_keepsRules yX1_keepsRules, Cond.code yX1_keepsRules cX1_keepsRules 4 (some .boolean), Cond.fieldLink RX1 11 "RotorRouter$InputText" "codes" "[I"]
def wsX4_load_r2 : List Cond := [Cond.methodLink RX1 43 yX1_isNode, Cond.instanceMethod yX1_isNode, Cond.selects RX1 yX1_isNode yX1_isNode, Cond.code yX1_isNode cX1_isNode 2 (some .boolean), Cond.methodLink RX1 46 yX1_isNewLink, Cond.instanceMethod yX1_isNewLink, Cond.selects RX1 yX1_isNewLink yX1_isNewLink, Cond.code yX1_isNewLink cX1_isNewLink 7 (some .boolean), Cond.methodLink RX4 76 yX1_isConnected, Cond.instanceMethod yX1_isConnected, Cond.selects RX1 yX1_isConnected yX1_isConnected, Cond.code yX1_isConnected cX1_isConnected 5 (some .boolean), Cond.methodLink RX1 31 yX1_nodes, Cond.instanceMethod yX1_nodes, Cond.selects RX1 yX1_nodes yX1_nodes, Cond.code yX1_nodes cX1_nodes 1 (some .int), Cond.methodLink RX1 34 yX1_links, Cond.instanceMethod yX1_links, Cond.selects RX1 yX1_links yX1_links, Cond.code yX1_links cX1_links 1 (some .int), Cond.methodLink RX1 37 yX1_firstNode, Cond.instanceMethod yX1_firstNode, Cond.selects RX1 yX1_firstNode yX1_firstNode, Cond.code yX1_firstNode cX1_firstNode 2 (some .int)]
def wsX4_load_r3 : List Cond := [Cond.methodLink RX1 40 yX1_secondNode, Cond.instanceMethod yX1_secondNode, Cond.selects RX1 yX1_secondNode yX1_secondNode, Cond.code yX1_secondNode cX1_secondNode 2 (some .int), Cond.methodLink RX4 79 yX0_build, Cond.instanceMethod yX0_build, Cond.selects RX0 yX0_build yX0_build, Cond.initialized RX0, Cond.code yX0_build cX0_build 5 none, Cond.fieldLink RX0 18 "RotorRouter$Graph" "nodes" "I", Cond.fieldLink RX0 22 "RotorRouter$Graph" "links" "I", Cond.fieldLink RX0 9 "RotorRouter$Graph" "degrees" "[I", Cond.methodLink RX0 25 yX1_nodes, Cond.methodLink RX0 30 yX1_links, Cond.methodLink RX0 32 yX1_firstNode, Cond.methodLink RX0 36 yX1_secondNode, Cond.methodLink RX0 39 yX0_addNeighbor, Cond.instanceMethod yX0_addNeighbor, Cond.selects RX0 yX0_addNeighbor yX0_addNeighbor, Cond.code yX0_addNeighbor cX0_addNeighbor 3 none, Cond.fieldLink RX0 15 "RotorRouter$Graph" "neighbors" "[I", Cond.methodLink RX0 47 yX0_slot, Cond.static yX0_slot, Cond.code yX0_slot cX0_slot 2 (some .int)]
def wsX4_load_r4 : List Cond := [Cond.methodLink RX4 83 yX3_reset, Cond.instanceMethod yX3_reset, Cond.selects RX3 yX3_reset yX3_reset, Cond.initialized RX3, Cond.code yX3_reset cX3_reset 2 none, Cond.fieldLink RX3 9 "RotorRouter$State" "rotors" "[I", Cond.fieldLink RX3 15 "RotorRouter$State" "arrived" "[I", Cond.fieldLink RX3 18 "RotorRouter$State" "departed" "[I", Cond.fieldLink RX3 24 "RotorRouter$State" "walkers" "I"]
def wsX4_load : List Cond := .code yX4_load cX4_load 1 (some .int) :: ((wsX4_load_r1 ++ (wsX4_load_r2 ++ (wsX4_load_r3 ++ wsX4_load_r4))) ++ wsX40 ++ wsX10 ++ wsX00 ++ wsX30)
def wsX4_degree : List Cond := .code yX4_degree cX4_degree 2 (some .int) :: ([.fieldLink RX4 19 "RotorRouter" "graph" "LRotorRouter$Graph;", .fieldLink RX4 93 "RotorRouter$Graph" "degrees" "[I", .methodLink RX4 89 yX0_hasNode, .instanceMethod yX0_hasNode, .selects RX0 yX0_hasNode yX0_hasNode, .initialized RX0, .code yX0_hasNode cX0_hasNode 2 (some .boolean), .fieldLink RX0 18 "RotorRouter$Graph" "nodes" "I"] ++ wsX40 ++ wsX00)
def wsX4_neighbor : List Cond := .code yX4_neighbor cX4_neighbor 4 (some .int) :: ([.fieldLink RX4 19 "RotorRouter" "graph" "LRotorRouter$Graph;", .fieldLink RX4 100 "RotorRouter$Graph" "neighbors" "[I", .methodLink RX4 96 yX0_neighborError, .instanceMethod yX0_neighborError, .selects RX0 yX0_neighborError yX0_neighborError, .initialized RX0, .code yX0_neighborError cX0_neighborError 3 (some .int), .fieldLink RX0 9 "RotorRouter$Graph" "degrees" "[I", .methodLink RX0 43 yX0_hasNode, .instanceMethod yX0_hasNode, .selects RX0 yX0_hasNode yX0_hasNode, .code yX0_hasNode cX0_hasNode 2 (some .boolean), .fieldLink RX0 18 "RotorRouter$Graph" "nodes" "I", .methodLink RX4 103 yX0_slot, .static yX0_slot, .code yX0_slot cX0_slot 2 (some .int)] ++ wsX40 ++ wsX00)
def wsX4_rotor : List Cond := .code yX4_rotor cX4_rotor 2 (some .int) :: ([.fieldLink RX4 19 "RotorRouter" "graph" "LRotorRouter$Graph;", .fieldLink RX4 26 "RotorRouter" "current" "LRotorRouter$State;", .fieldLink RX4 106 "RotorRouter$State" "rotors" "[I", .methodLink RX4 89 yX0_hasNode, .instanceMethod yX0_hasNode, .selects RX0 yX0_hasNode yX0_hasNode, .initialized RX0, .code yX0_hasNode cX0_hasNode 2 (some .boolean), .fieldLink RX0 18 "RotorRouter$Graph" "nodes" "I"] ++ wsX40 ++ wsX30 ++ wsX00)
def wsX4_setRotor : List Cond := .code yX4_setRotor cX4_setRotor 5 (some .int) :: ([.fieldLink RX4 19 "RotorRouter" "graph" "LRotorRouter$Graph;", .fieldLink RX4 26 "RotorRouter" "current" "LRotorRouter$State;", .fieldLink RX4 106 "RotorRouter$State" "rotors" "[I", .methodLink RX4 96 yX0_neighborError, .instanceMethod yX0_neighborError, .selects RX0 yX0_neighborError yX0_neighborError, .initialized RX0, .code yX0_neighborError cX0_neighborError 3 (some .int), .fieldLink RX0 9 "RotorRouter$Graph" "degrees" "[I", .methodLink RX0 43 yX0_hasNode, .instanceMethod yX0_hasNode, .selects RX0 yX0_hasNode yX0_hasNode, .code yX0_hasNode cX0_hasNode 2 (some .boolean), .fieldLink RX0 18 "RotorRouter$Graph" "nodes" "I"] ++ wsX40 ++ wsX30 ++ wsX00)
def wsX4_addWalker : List Cond := .code yX4_addWalker cX4_addWalker 3 (some .int) :: ([.fieldLink RX4 19 "RotorRouter" "graph" "LRotorRouter$Graph;", .fieldLink RX4 26 "RotorRouter" "current" "LRotorRouter$State;", .fieldLink RX4 109 "RotorRouter$State" "walkers" "I", .fieldLink RX4 112 "RotorRouter$State" "positions" "[I", .methodLink RX4 89 yX0_hasNode, .instanceMethod yX0_hasNode, .selects RX0 yX0_hasNode yX0_hasNode, .initialized RX0, .code yX0_hasNode cX0_hasNode 2 (some .boolean), .fieldLink RX0 18 "RotorRouter$Graph" "nodes" "I"] ++ wsX40 ++ wsX30 ++ wsX00)
def wsX4_position : List Cond := .code yX4_position cX4_position 2 (some .int) :: ([.fieldLink RX4 26 "RotorRouter" "current" "LRotorRouter$State;", .fieldLink RX4 112 "RotorRouter$State" "positions" "[I", .methodLink RX4 115 yX3_hasWalker, .instanceMethod yX3_hasWalker, .selects RX3 yX3_hasWalker yX3_hasWalker, .initialized RX3, .code yX3_hasWalker cX3_hasWalker 2 (some .boolean), .fieldLink RX3 24 "RotorRouter$State" "walkers" "I"] ++ wsX40 ++ wsX30)
def wsX4_step_r1 : List Cond := [Cond.fieldLink RX4 26 "RotorRouter" "current" "LRotorRouter$State;", Cond.fieldLink RX4 19 "RotorRouter" "graph" "LRotorRouter$Graph;", Cond.fieldLink RX4 112 "RotorRouter$State" "positions" "[I", Cond.methodLink RX4 115 yX3_hasWalker, Cond.instanceMethod yX3_hasWalker, Cond.selects RX3 yX3_hasWalker yX3_hasWalker, Cond.initialized RX3, Cond.code yX3_hasWalker cX3_hasWalker 2 (some .boolean), Cond.fieldLink RX3 24 "RotorRouter$State" "walkers" "I", Cond.methodLink RX4 118 yX3_move, Cond.instanceMethod yX3_move, Cond.selects RX3 yX3_move yX3_move, Cond.code yX3_move cX3_move 6 none, Cond.fieldLink RX3 21 "RotorRouter$State" "positions" "[I", Cond.fieldLink RX3 9 "RotorRouter$State" "rotors" "[I", Cond.fieldLink RX3 40 "RotorRouter$Graph" "neighbors" "[I", Cond.fieldLink RX3 18 "RotorRouter$State" "departed" "[I", Cond.fieldLink RX3 15 "RotorRouter$State" "arrived" "[I", Cond.methodLink RX3 34 yX0_slot, Cond.static yX0_slot, Cond.initialized RX0, Cond.code yX0_slot cX0_slot 2 (some .int), Cond.methodLink RX3 43 yX0_rotorAfter, Cond.instanceMethod yX0_rotorAfter]
def wsX4_step_r2 : List Cond := [Cond.selects RX0 yX0_rotorAfter yX0_rotorAfter, Cond.code yX0_rotorAfter cX0_rotorAfter 4 (some .int), Cond.fieldLink RX0 9 "RotorRouter$Graph" "degrees" "[I"]
def wsX4_step : List Cond := .code yX4_step cX4_step 4 (some .int) :: ((wsX4_step_r1 ++ wsX4_step_r2) ++ wsX40 ++ wsX30 ++ wsX00)
def wsX4_makePass : List Cond := .code yX4_makePass cX4_makePass 4 (some .int) :: ([.fieldLink RX4 26 "RotorRouter" "current" "LRotorRouter$State;", .fieldLink RX4 109 "RotorRouter$State" "walkers" "I", .fieldLink RX4 112 "RotorRouter$State" "positions" "[I", .fieldLink RX4 19 "RotorRouter" "graph" "LRotorRouter$Graph;", .methodLink RX4 118 yX3_move, .instanceMethod yX3_move, .selects RX3 yX3_move yX3_move, .initialized RX3, .code yX3_move cX3_move 6 none, .fieldLink RX3 21 "RotorRouter$State" "positions" "[I", .fieldLink RX3 9 "RotorRouter$State" "rotors" "[I", .fieldLink RX3 40 "RotorRouter$Graph" "neighbors" "[I", .fieldLink RX3 18 "RotorRouter$State" "departed" "[I", .fieldLink RX3 15 "RotorRouter$State" "arrived" "[I", .methodLink RX3 34 yX0_slot, .static yX0_slot, .initialized RX0, .code yX0_slot cX0_slot 2 (some .int), .methodLink RX3 43 yX0_rotorAfter, .instanceMethod yX0_rotorAfter, .selects RX0 yX0_rotorAfter yX0_rotorAfter, .code yX0_rotorAfter cX0_rotorAfter 4 (some .int), .fieldLink RX0 9 "RotorRouter$Graph" "degrees" "[I"] ++ wsX40 ++ wsX30 ++ wsX00)
def wsX4_absorbInTurns_r1 : List Cond := [Cond.constant RX4 145 (1000000), Cond.methodLink RX4 198 yX4_makePass, Cond.instanceMethod yX4_makePass, Cond.selects RX4 yX4_makePass yX4_makePass, Cond.initialized RX4, Cond.code yX4_makePass cX4_makePass 4 (some .int), Cond.fieldLink RX4 26 "RotorRouter" "current" "LRotorRouter$State;", Cond.fieldLink RX4 109 "RotorRouter$State" "walkers" "I", Cond.fieldLink RX4 112 "RotorRouter$State" "positions" "[I", Cond.fieldLink RX4 19 "RotorRouter" "graph" "LRotorRouter$Graph;", Cond.methodLink RX4 118 yX3_move, Cond.instanceMethod yX3_move, Cond.selects RX3 yX3_move yX3_move, Cond.initialized RX3, Cond.code yX3_move cX3_move 6 none, Cond.fieldLink RX3 21 "RotorRouter$State" "positions" "[I", Cond.fieldLink RX3 9 "RotorRouter$State" "rotors" "[I", Cond.fieldLink RX3 40 "RotorRouter$Graph" "neighbors" "[I", Cond.fieldLink RX3 18 "RotorRouter$State" "departed" "[I", Cond.fieldLink RX3 15 "RotorRouter$State" "arrived" "[I", Cond.methodLink RX3 34 yX0_slot, Cond.static yX0_slot, Cond.initialized RX0, Cond.code yX0_slot cX0_slot 2 (some .int)]
def wsX4_absorbInTurns_r2 : List Cond := [Cond.methodLink RX3 43 yX0_rotorAfter, Cond.instanceMethod yX0_rotorAfter, Cond.selects RX0 yX0_rotorAfter yX0_rotorAfter, Cond.code yX0_rotorAfter cX0_rotorAfter 4 (some .int), Cond.fieldLink RX0 9 "RotorRouter$Graph" "degrees" "[I"]
def wsX4_absorbInTurns : List Cond := .code yX4_absorbInTurns cX4_absorbInTurns 5 (some .int) :: ((wsX4_absorbInTurns_r1 ++ wsX4_absorbInTurns_r2) ++ wsX40 ++ wsX30 ++ wsX00)
def wsX4_absorbOneByOne : List Cond := .code yX4_absorbOneByOne cX4_absorbOneByOne 4 (some .int) :: ([.fieldLink RX4 26 "RotorRouter" "current" "LRotorRouter$State;", .fieldLink RX4 109 "RotorRouter$State" "walkers" "I", .fieldLink RX4 112 "RotorRouter$State" "positions" "[I", .constant RX4 145 (1000000), .fieldLink RX4 19 "RotorRouter" "graph" "LRotorRouter$Graph;", .methodLink RX4 118 yX3_move, .instanceMethod yX3_move, .selects RX3 yX3_move yX3_move, .initialized RX3, .code yX3_move cX3_move 6 none, .fieldLink RX3 21 "RotorRouter$State" "positions" "[I", .fieldLink RX3 9 "RotorRouter$State" "rotors" "[I", .fieldLink RX3 40 "RotorRouter$Graph" "neighbors" "[I", .fieldLink RX3 18 "RotorRouter$State" "departed" "[I", .fieldLink RX3 15 "RotorRouter$State" "arrived" "[I", .methodLink RX3 34 yX0_slot, .static yX0_slot, .initialized RX0, .code yX0_slot cX0_slot 2 (some .int), .methodLink RX3 43 yX0_rotorAfter, .instanceMethod yX0_rotorAfter, .selects RX0 yX0_rotorAfter yX0_rotorAfter, .code yX0_rotorAfter cX0_rotorAfter 4 (some .int), .fieldLink RX0 9 "RotorRouter$Graph" "degrees" "[I"] ++ wsX40 ++ wsX30 ++ wsX00)
def wsX4_absorb_r1 : List Cond := [Cond.fieldLink RX4 19 "RotorRouter" "graph" "LRotorRouter$Graph;", Cond.methodLink RX4 89 yX0_hasNode, Cond.instanceMethod yX0_hasNode, Cond.selects RX0 yX0_hasNode yX0_hasNode, Cond.initialized RX0, Cond.code yX0_hasNode cX0_hasNode 2 (some .boolean), Cond.fieldLink RX0 18 "RotorRouter$Graph" "nodes" "I", Cond.methodLink RX4 122 yX4_absorbInTurns, Cond.instanceMethod yX4_absorbInTurns, Cond.selects RX4 yX4_absorbInTurns yX4_absorbInTurns, Cond.initialized RX4, Cond.code yX4_absorbInTurns cX4_absorbInTurns 5 (some .int), Cond.constant RX4 145 (1000000), Cond.methodLink RX4 198 yX4_makePass, Cond.instanceMethod yX4_makePass, Cond.selects RX4 yX4_makePass yX4_makePass, Cond.code yX4_makePass cX4_makePass 4 (some .int), Cond.fieldLink RX4 26 "RotorRouter" "current" "LRotorRouter$State;", Cond.fieldLink RX4 109 "RotorRouter$State" "walkers" "I", Cond.fieldLink RX4 112 "RotorRouter$State" "positions" "[I", Cond.methodLink RX4 118 yX3_move, Cond.instanceMethod yX3_move, Cond.selects RX3 yX3_move yX3_move, Cond.initialized RX3]
def wsX4_absorb_r2 : List Cond := [Cond.code yX3_move cX3_move 6 none, Cond.fieldLink RX3 21 "RotorRouter$State" "positions" "[I", Cond.fieldLink RX3 9 "RotorRouter$State" "rotors" "[I", Cond.fieldLink RX3 40 "RotorRouter$Graph" "neighbors" "[I", Cond.fieldLink RX3 18 "RotorRouter$State" "departed" "[I", Cond.fieldLink RX3 15 "RotorRouter$State" "arrived" "[I", Cond.methodLink RX3 34 yX0_slot, Cond.static yX0_slot, Cond.code yX0_slot cX0_slot 2 (some .int), Cond.methodLink RX3 43 yX0_rotorAfter, Cond.instanceMethod yX0_rotorAfter, Cond.selects RX0 yX0_rotorAfter yX0_rotorAfter, Cond.code yX0_rotorAfter cX0_rotorAfter 4 (some .int), Cond.fieldLink RX0 9 "RotorRouter$Graph" "degrees" "[I", Cond.methodLink RX4 126 yX4_absorbOneByOne, Cond.instanceMethod yX4_absorbOneByOne, Cond.selects RX4 yX4_absorbOneByOne yX4_absorbOneByOne, Cond.code yX4_absorbOneByOne cX4_absorbOneByOne 4 (some .int)]
def wsX4_absorb : List Cond := .code yX4_absorb cX4_absorb 3 (some .int) :: ((wsX4_absorb_r1 ++ wsX4_absorb_r2) ++ wsX40 ++ wsX00 ++ wsX30)
def wsX4_arrivals : List Cond := .code yX4_arrivals cX4_arrivals 2 (some .int) :: ([.fieldLink RX4 19 "RotorRouter" "graph" "LRotorRouter$Graph;", .fieldLink RX4 26 "RotorRouter" "current" "LRotorRouter$State;", .fieldLink RX4 129 "RotorRouter$State" "arrived" "[I", .methodLink RX4 89 yX0_hasNode, .instanceMethod yX0_hasNode, .selects RX0 yX0_hasNode yX0_hasNode, .initialized RX0, .code yX0_hasNode cX0_hasNode 2 (some .boolean), .fieldLink RX0 18 "RotorRouter$Graph" "nodes" "I"] ++ wsX40 ++ wsX30 ++ wsX00)
def wsX4_departures : List Cond := .code yX4_departures cX4_departures 4 (some .int) :: ([.fieldLink RX4 19 "RotorRouter" "graph" "LRotorRouter$Graph;", .fieldLink RX4 26 "RotorRouter" "current" "LRotorRouter$State;", .fieldLink RX4 132 "RotorRouter$State" "departed" "[I", .methodLink RX4 96 yX0_neighborError, .instanceMethod yX0_neighborError, .selects RX0 yX0_neighborError yX0_neighborError, .initialized RX0, .code yX0_neighborError cX0_neighborError 3 (some .int), .fieldLink RX0 9 "RotorRouter$Graph" "degrees" "[I", .methodLink RX0 43 yX0_hasNode, .instanceMethod yX0_hasNode, .selects RX0 yX0_hasNode yX0_hasNode, .code yX0_hasNode cX0_hasNode 2 (some .boolean), .fieldLink RX0 18 "RotorRouter$Graph" "nodes" "I", .methodLink RX4 103 yX0_slot, .static yX0_slot, .code yX0_slot cX0_slot 2 (some .int)] ++ wsX40 ++ wsX30 ++ wsX00)
def wsX4_stepsToCycle_r1 : List Cond := [Cond.fieldLink RX4 26 "RotorRouter" "current" "LRotorRouter$State;", Cond.fieldLink RX4 19 "RotorRouter" "graph" "LRotorRouter$Graph;", Cond.fieldLink RX4 135 "RotorRouter$Graph" "links" "I", Cond.fieldLink RX4 40 "RotorRouter" "probe" "LRotorRouter$Probe;", Cond.fieldLink RX4 112 "RotorRouter$State" "positions" "[I", Cond.fieldLink RX4 106 "RotorRouter$State" "rotors" "[I", Cond.fieldLink RX4 44 "RotorRouter" "probeAhead" "LRotorRouter$Probe;", Cond.constant RX4 145 (1000000), Cond.fieldLink RX4 86 "RotorRouter$Graph" "nodes" "I", Cond.methodLink RX4 115 yX3_hasWalker, Cond.instanceMethod yX3_hasWalker, Cond.selects RX3 yX3_hasWalker yX3_hasWalker, Cond.initialized RX3, Cond.code yX3_hasWalker cX3_hasWalker 2 (some .boolean), Cond.fieldLink RX3 24 "RotorRouter$State" "walkers" "I", Cond.methodLink RX4 138 yX2_start, Cond.instanceMethod yX2_start, Cond.selects RX2 yX2_start yX2_start, Cond.initialized RX2, Cond.code yX2_start cX2_start 3 none, Cond.fieldLink RX2 15 "RotorRouter$Probe" "node" "I", Cond.fieldLink RX2 9 "RotorRouter$Probe" "rotors" "[I", Cond.methodLink RX2 19 arraycopyName, Cond.native arraycopyName]
def wsX4_stepsToCycle_r2 : List Cond := [Cond.static arraycopyName, Cond.initialized "java/lang/System", Cond.methodLink RX4 142 yX2_move, Cond.instanceMethod yX2_move, Cond.selects RX2 yX2_move yX2_move, Cond.code yX2_move cX2_move 3 none, Cond.fieldLink RX2 25 "RotorRouter$Graph" "neighbors" "[I", Cond.methodLink RX2 30 yX0_slot, Cond.static yX0_slot, Cond.initialized RX0, Cond.code yX0_slot cX0_slot 2 (some .int), Cond.methodLink RX2 34 yX0_rotorAfter, Cond.instanceMethod yX0_rotorAfter, Cond.selects RX0 yX0_rotorAfter yX0_rotorAfter, Cond.code yX0_rotorAfter cX0_rotorAfter 4 (some .int), Cond.fieldLink RX0 9 "RotorRouter$Graph" "degrees" "[I", Cond.methodLink RX4 146 yX2_isSameAs, Cond.instanceMethod yX2_isSameAs, Cond.selects RX2 yX2_isSameAs yX2_isSameAs, Cond.code yX2_isSameAs cX2_isSameAs 4 (some .boolean)]
def wsX4_stepsToCycle : List Cond := .code yX4_stepsToCycle cX4_stepsToCycle 4 (some .int) :: ((wsX4_stepsToCycle_r1 ++ wsX4_stepsToCycle_r2) ++ wsX40 ++ wsX00 ++ wsX30 ++ wsX20)
def wsX4_coverTimeBelow_r1 : List Cond := [Cond.fieldLink RX4 40 "RotorRouter" "probe" "LRotorRouter$Probe;", Cond.fieldLink RX4 19 "RotorRouter" "graph" "LRotorRouter$Graph;", Cond.fieldLink RX4 86 "RotorRouter$Graph" "nodes" "I", Cond.fieldLink RX4 201 "RotorRouter$Probe" "node" "I", Cond.methodLink RX4 138 yX2_start, Cond.instanceMethod yX2_start, Cond.selects RX2 yX2_start yX2_start, Cond.initialized RX2, Cond.code yX2_start cX2_start 3 none, Cond.fieldLink RX2 15 "RotorRouter$Probe" "node" "I", Cond.fieldLink RX2 9 "RotorRouter$Probe" "rotors" "[I", Cond.methodLink RX2 19 arraycopyName, Cond.native arraycopyName, Cond.static arraycopyName, Cond.initialized "java/lang/System", Cond.methodLink RX4 142 yX2_move, Cond.instanceMethod yX2_move, Cond.selects RX2 yX2_move yX2_move, Cond.code yX2_move cX2_move 3 none, Cond.fieldLink RX2 25 "RotorRouter$Graph" "neighbors" "[I", Cond.methodLink RX2 30 yX0_slot, Cond.static yX0_slot, Cond.initialized RX0, Cond.code yX0_slot cX0_slot 2 (some .int)]
def wsX4_coverTimeBelow_r2 : List Cond := [Cond.methodLink RX2 34 yX0_rotorAfter, Cond.instanceMethod yX0_rotorAfter, Cond.selects RX0 yX0_rotorAfter yX0_rotorAfter, Cond.code yX0_rotorAfter cX0_rotorAfter 4 (some .int), Cond.fieldLink RX0 9 "RotorRouter$Graph" "degrees" "[I"]
def wsX4_coverTimeBelow : List Cond := .code yX4_coverTimeBelow cX4_coverTimeBelow 7 (some .int) :: ((wsX4_coverTimeBelow_r1 ++ wsX4_coverTimeBelow_r2) ++ wsX40 ++ wsX00 ++ wsX20)
def wsX4_coverTime_r1 : List Cond := [Cond.fieldLink RX4 26 "RotorRouter" "current" "LRotorRouter$State;", Cond.constant RX4 145 (1000000), Cond.fieldLink RX4 112 "RotorRouter$State" "positions" "[I", Cond.fieldLink RX4 106 "RotorRouter$State" "rotors" "[I", Cond.methodLink RX4 115 yX3_hasWalker, Cond.instanceMethod yX3_hasWalker, Cond.selects RX3 yX3_hasWalker yX3_hasWalker, Cond.initialized RX3, Cond.code yX3_hasWalker cX3_hasWalker 2 (some .boolean), Cond.fieldLink RX3 24 "RotorRouter$State" "walkers" "I", Cond.methodLink RX4 150 yX4_coverTimeBelow, Cond.instanceMethod yX4_coverTimeBelow, Cond.selects RX4 yX4_coverTimeBelow yX4_coverTimeBelow, Cond.initialized RX4, Cond.code yX4_coverTimeBelow cX4_coverTimeBelow 7 (some .int), Cond.fieldLink RX4 40 "RotorRouter" "probe" "LRotorRouter$Probe;", Cond.fieldLink RX4 19 "RotorRouter" "graph" "LRotorRouter$Graph;", Cond.fieldLink RX4 86 "RotorRouter$Graph" "nodes" "I", Cond.fieldLink RX4 201 "RotorRouter$Probe" "node" "I", Cond.methodLink RX4 138 yX2_start, Cond.instanceMethod yX2_start, Cond.selects RX2 yX2_start yX2_start, Cond.initialized RX2, Cond.code yX2_start cX2_start 3 none]
def wsX4_coverTime_r2 : List Cond := [Cond.fieldLink RX2 15 "RotorRouter$Probe" "node" "I", Cond.fieldLink RX2 9 "RotorRouter$Probe" "rotors" "[I", Cond.methodLink RX2 19 arraycopyName, Cond.native arraycopyName, Cond.static arraycopyName, Cond.initialized "java/lang/System", Cond.methodLink RX4 142 yX2_move, Cond.instanceMethod yX2_move, Cond.selects RX2 yX2_move yX2_move, Cond.code yX2_move cX2_move 3 none, Cond.fieldLink RX2 25 "RotorRouter$Graph" "neighbors" "[I", Cond.methodLink RX2 30 yX0_slot, Cond.static yX0_slot, Cond.initialized RX0, Cond.code yX0_slot cX0_slot 2 (some .int), Cond.methodLink RX2 34 yX0_rotorAfter, Cond.instanceMethod yX0_rotorAfter, Cond.selects RX0 yX0_rotorAfter yX0_rotorAfter, Cond.code yX0_rotorAfter cX0_rotorAfter 4 (some .int), Cond.fieldLink RX0 9 "RotorRouter$Graph" "degrees" "[I"]
def wsX4_coverTime : List Cond := .code yX4_coverTime cX4_coverTime 2 (some .int) :: ((wsX4_coverTime_r1 ++ wsX4_coverTime_r2) ++ wsX40 ++ wsX30 ++ wsX00 ++ wsX20)
def wsX4_turnTrialRotors : List Cond := .code yX4_turnTrialRotors cX4_turnTrialRotors 2 none :: ([.fieldLink RX4 19 "RotorRouter" "graph" "LRotorRouter$Graph;", .fieldLink RX4 86 "RotorRouter$Graph" "nodes" "I", .fieldLink RX4 47 "RotorRouter" "trialRotors" "[I", .methodLink RX4 213 yX0_rotorAfter, .instanceMethod yX0_rotorAfter, .selects RX0 yX0_rotorAfter yX0_rotorAfter, .initialized RX0, .code yX0_rotorAfter cX0_rotorAfter 4 (some .int), .fieldLink RX0 9 "RotorRouter$Graph" "degrees" "[I"] ++ wsX40 ++ wsX00)
def wsX4_searchAssignments_r1 : List Cond := [Cond.fieldLink RX4 19 "RotorRouter" "graph" "LRotorRouter$Graph;", Cond.fieldLink RX4 86 "RotorRouter$Graph" "nodes" "I", Cond.fieldLink RX4 47 "RotorRouter" "trialRotors" "[I", Cond.constant RX4 145 (1000000), Cond.fieldLink RX4 51 "RotorRouter" "bestRotors" "[I", Cond.methodLink RX4 204 arraycopyName, Cond.native arraycopyName, Cond.static arraycopyName, Cond.initialized "java/lang/System", Cond.methodLink RX4 154 yX0_assignments, Cond.instanceMethod yX0_assignments, Cond.selects RX0 yX0_assignments yX0_assignments, Cond.initialized RX0, Cond.code yX0_assignments cX0_assignments 3 (some .int), Cond.fieldLink RX0 18 "RotorRouter$Graph" "nodes" "I", Cond.fieldLink RX0 9 "RotorRouter$Graph" "degrees" "[I", Cond.methodLink RX4 150 yX4_coverTimeBelow, Cond.instanceMethod yX4_coverTimeBelow, Cond.selects RX4 yX4_coverTimeBelow yX4_coverTimeBelow, Cond.initialized RX4, Cond.code yX4_coverTimeBelow cX4_coverTimeBelow 7 (some .int), Cond.fieldLink RX4 40 "RotorRouter" "probe" "LRotorRouter$Probe;", Cond.fieldLink RX4 201 "RotorRouter$Probe" "node" "I", Cond.methodLink RX4 138 yX2_start]
def wsX4_searchAssignments_r2 : List Cond := [Cond.instanceMethod yX2_start, Cond.selects RX2 yX2_start yX2_start, Cond.initialized RX2, Cond.code yX2_start cX2_start 3 none, Cond.fieldLink RX2 15 "RotorRouter$Probe" "node" "I", Cond.fieldLink RX2 9 "RotorRouter$Probe" "rotors" "[I", Cond.methodLink RX2 19 arraycopyName, Cond.methodLink RX4 142 yX2_move, Cond.instanceMethod yX2_move, Cond.selects RX2 yX2_move yX2_move, Cond.code yX2_move cX2_move 3 none, Cond.fieldLink RX2 25 "RotorRouter$Graph" "neighbors" "[I", Cond.methodLink RX2 30 yX0_slot, Cond.static yX0_slot, Cond.code yX0_slot cX0_slot 2 (some .int), Cond.methodLink RX2 34 yX0_rotorAfter, Cond.instanceMethod yX0_rotorAfter, Cond.selects RX0 yX0_rotorAfter yX0_rotorAfter, Cond.code yX0_rotorAfter cX0_rotorAfter 4 (some .int), Cond.methodLink RX4 210 yX4_turnTrialRotors, Cond.instanceMethod yX4_turnTrialRotors, Cond.selects RX4 yX4_turnTrialRotors yX4_turnTrialRotors, Cond.code yX4_turnTrialRotors cX4_turnTrialRotors 2 none, Cond.methodLink RX4 213 yX0_rotorAfter]
def wsX4_searchAssignments : List Cond := .code yX4_searchAssignments cX4_searchAssignments 7 (some .int) :: ((wsX4_searchAssignments_r1 ++ wsX4_searchAssignments_r2) ++ wsX40 ++ wsX00 ++ wsX20)
def wsX4_leastCoverTime_r1 : List Cond := [Cond.fieldLink RX4 19 "RotorRouter" "graph" "LRotorRouter$Graph;", Cond.methodLink RX4 89 yX0_hasNode, Cond.instanceMethod yX0_hasNode, Cond.selects RX0 yX0_hasNode yX0_hasNode, Cond.initialized RX0, Cond.code yX0_hasNode cX0_hasNode 2 (some .boolean), Cond.fieldLink RX0 18 "RotorRouter$Graph" "nodes" "I", Cond.methodLink RX4 154 yX0_assignments, Cond.instanceMethod yX0_assignments, Cond.selects RX0 yX0_assignments yX0_assignments, Cond.code yX0_assignments cX0_assignments 3 (some .int), Cond.fieldLink RX0 9 "RotorRouter$Graph" "degrees" "[I", Cond.methodLink RX4 157 yX4_searchAssignments, Cond.instanceMethod yX4_searchAssignments, Cond.selects RX4 yX4_searchAssignments yX4_searchAssignments, Cond.initialized RX4, Cond.code yX4_searchAssignments cX4_searchAssignments 7 (some .int), Cond.fieldLink RX4 86 "RotorRouter$Graph" "nodes" "I", Cond.fieldLink RX4 47 "RotorRouter" "trialRotors" "[I", Cond.constant RX4 145 (1000000), Cond.fieldLink RX4 51 "RotorRouter" "bestRotors" "[I", Cond.methodLink RX4 204 arraycopyName, Cond.native arraycopyName, Cond.static arraycopyName]
def wsX4_leastCoverTime_r2 : List Cond := [Cond.initialized "java/lang/System", Cond.methodLink RX4 150 yX4_coverTimeBelow, Cond.instanceMethod yX4_coverTimeBelow, Cond.selects RX4 yX4_coverTimeBelow yX4_coverTimeBelow, Cond.code yX4_coverTimeBelow cX4_coverTimeBelow 7 (some .int), Cond.fieldLink RX4 40 "RotorRouter" "probe" "LRotorRouter$Probe;", Cond.fieldLink RX4 201 "RotorRouter$Probe" "node" "I", Cond.methodLink RX4 138 yX2_start, Cond.instanceMethod yX2_start, Cond.selects RX2 yX2_start yX2_start, Cond.initialized RX2, Cond.code yX2_start cX2_start 3 none, Cond.fieldLink RX2 15 "RotorRouter$Probe" "node" "I", Cond.fieldLink RX2 9 "RotorRouter$Probe" "rotors" "[I", Cond.methodLink RX2 19 arraycopyName, Cond.methodLink RX4 142 yX2_move, Cond.instanceMethod yX2_move, Cond.selects RX2 yX2_move yX2_move, Cond.code yX2_move cX2_move 3 none, Cond.fieldLink RX2 25 "RotorRouter$Graph" "neighbors" "[I", Cond.methodLink RX2 30 yX0_slot, Cond.static yX0_slot, Cond.code yX0_slot cX0_slot 2 (some .int), Cond.methodLink RX2 34 yX0_rotorAfter]
def wsX4_leastCoverTime_r3 : List Cond := [Cond.instanceMethod yX0_rotorAfter, Cond.selects RX0 yX0_rotorAfter yX0_rotorAfter, Cond.code yX0_rotorAfter cX0_rotorAfter 4 (some .int), Cond.methodLink RX4 210 yX4_turnTrialRotors, Cond.instanceMethod yX4_turnTrialRotors, Cond.selects RX4 yX4_turnTrialRotors yX4_turnTrialRotors, Cond.code yX4_turnTrialRotors cX4_turnTrialRotors 2 none, Cond.methodLink RX4 213 yX0_rotorAfter]
def wsX4_leastCoverTime : List Cond := .code yX4_leastCoverTime cX4_leastCoverTime 2 (some .int) :: ((wsX4_leastCoverTime_r1 ++ (wsX4_leastCoverTime_r2 ++ wsX4_leastCoverTime_r3)) ++ wsX40 ++ wsX00 ++ wsX20)
def wsX4_bestRotor_r1 : List Cond := [Cond.fieldLink RX4 19 "RotorRouter" "graph" "LRotorRouter$Graph;", Cond.fieldLink RX4 51 "RotorRouter" "bestRotors" "[I", Cond.methodLink RX4 89 yX0_hasNode, Cond.instanceMethod yX0_hasNode, Cond.selects RX0 yX0_hasNode yX0_hasNode, Cond.initialized RX0, Cond.code yX0_hasNode cX0_hasNode 2 (some .boolean), Cond.fieldLink RX0 18 "RotorRouter$Graph" "nodes" "I", Cond.methodLink RX4 154 yX0_assignments, Cond.instanceMethod yX0_assignments, Cond.selects RX0 yX0_assignments yX0_assignments, Cond.code yX0_assignments cX0_assignments 3 (some .int), Cond.fieldLink RX0 9 "RotorRouter$Graph" "degrees" "[I", Cond.methodLink RX4 157 yX4_searchAssignments, Cond.instanceMethod yX4_searchAssignments, Cond.selects RX4 yX4_searchAssignments yX4_searchAssignments, Cond.initialized RX4, Cond.code yX4_searchAssignments cX4_searchAssignments 7 (some .int), Cond.fieldLink RX4 86 "RotorRouter$Graph" "nodes" "I", Cond.fieldLink RX4 47 "RotorRouter" "trialRotors" "[I", Cond.constant RX4 145 (1000000), Cond.methodLink RX4 204 arraycopyName, Cond.native arraycopyName, Cond.static arraycopyName]
def wsX4_bestRotor_r2 : List Cond := [Cond.initialized "java/lang/System", Cond.methodLink RX4 150 yX4_coverTimeBelow, Cond.instanceMethod yX4_coverTimeBelow, Cond.selects RX4 yX4_coverTimeBelow yX4_coverTimeBelow, Cond.code yX4_coverTimeBelow cX4_coverTimeBelow 7 (some .int), Cond.fieldLink RX4 40 "RotorRouter" "probe" "LRotorRouter$Probe;", Cond.fieldLink RX4 201 "RotorRouter$Probe" "node" "I", Cond.methodLink RX4 138 yX2_start, Cond.instanceMethod yX2_start, Cond.selects RX2 yX2_start yX2_start, Cond.initialized RX2, Cond.code yX2_start cX2_start 3 none, Cond.fieldLink RX2 15 "RotorRouter$Probe" "node" "I", Cond.fieldLink RX2 9 "RotorRouter$Probe" "rotors" "[I", Cond.methodLink RX2 19 arraycopyName, Cond.methodLink RX4 142 yX2_move, Cond.instanceMethod yX2_move, Cond.selects RX2 yX2_move yX2_move, Cond.code yX2_move cX2_move 3 none, Cond.fieldLink RX2 25 "RotorRouter$Graph" "neighbors" "[I", Cond.methodLink RX2 30 yX0_slot, Cond.static yX0_slot, Cond.code yX0_slot cX0_slot 2 (some .int), Cond.methodLink RX2 34 yX0_rotorAfter]
def wsX4_bestRotor_r3 : List Cond := [Cond.instanceMethod yX0_rotorAfter, Cond.selects RX0 yX0_rotorAfter yX0_rotorAfter, Cond.code yX0_rotorAfter cX0_rotorAfter 4 (some .int), Cond.methodLink RX4 210 yX4_turnTrialRotors, Cond.instanceMethod yX4_turnTrialRotors, Cond.selects RX4 yX4_turnTrialRotors yX4_turnTrialRotors, Cond.code yX4_turnTrialRotors cX4_turnTrialRotors 2 none, Cond.methodLink RX4 213 yX0_rotorAfter]
def wsX4_bestRotor : List Cond := .code yX4_bestRotor cX4_bestRotor 3 (some .int) :: ((wsX4_bestRotor_r1 ++ (wsX4_bestRotor_r2 ++ wsX4_bestRotor_r3)) ++ wsX40 ++ wsX00 ++ wsX20)
def wsX4_spreadChances : List Cond := .code yX4_spreadChances cX4_spreadChances 4 none :: ([.fieldLink RX4 19 "RotorRouter" "graph" "LRotorRouter$Graph;", .fieldLink RX4 86 "RotorRouter$Graph" "nodes" "I", .fieldLink RX4 58 "RotorRouter" "nextChances" "[D", .fieldLink RX4 93 "RotorRouter$Graph" "degrees" "[I", .fieldLink RX4 100 "RotorRouter$Graph" "neighbors" "[I", .fieldLink RX4 54 "RotorRouter" "chances" "[D", .methodLink RX4 103 yX0_slot, .static yX0_slot, .initialized RX0, .code yX0_slot cX0_slot 2 (some .int)] ++ wsX40 ++ wsX00)
def wsX4_bitsOf : List Cond := .code yX4_bitsOf cX4_bitsOf 7 (some .long) :: ([.constantDouble RX4 216 (4611686018427387904), .constantDouble RX4 218 (4841369599423283200), .constantLong RX4 220 (4503599627370496)])
def wsX4_expectedArrivals_r1 : List Cond := [Cond.fieldLink RX4 19 "RotorRouter" "graph" "LRotorRouter$Graph;", Cond.constantLong RX4 160 (-4), Cond.constantLong RX4 162 (-6), Cond.fieldLink RX4 86 "RotorRouter$Graph" "nodes" "I", Cond.fieldLink RX4 54 "RotorRouter" "chances" "[D", Cond.methodLink RX4 89 yX0_hasNode, Cond.instanceMethod yX0_hasNode, Cond.selects RX0 yX0_hasNode yX0_hasNode, Cond.initialized RX0, Cond.code yX0_hasNode cX0_hasNode 2 (some .boolean), Cond.fieldLink RX0 18 "RotorRouter$Graph" "nodes" "I", Cond.methodLink RX4 164 yX4_spreadChances, Cond.instanceMethod yX4_spreadChances, Cond.selects RX4 yX4_spreadChances yX4_spreadChances, Cond.initialized RX4, Cond.code yX4_spreadChances cX4_spreadChances 4 none, Cond.fieldLink RX4 58 "RotorRouter" "nextChances" "[D", Cond.fieldLink RX4 93 "RotorRouter$Graph" "degrees" "[I", Cond.fieldLink RX4 100 "RotorRouter$Graph" "neighbors" "[I", Cond.methodLink RX4 103 yX0_slot, Cond.static yX0_slot, Cond.code yX0_slot cX0_slot 2 (some .int), Cond.methodLink RX4 167 yX4_bitsOf, Cond.static yX4_bitsOf]
def wsX4_expectedArrivals_r2 : List Cond := [Cond.code yX4_bitsOf cX4_bitsOf 7 (some .long), Cond.constantDouble RX4 216 (4611686018427387904), Cond.constantDouble RX4 218 (4841369599423283200), Cond.constantLong RX4 220 (4503599627370496)]
def wsX4_expectedArrivals : List Cond := .code yX4_expectedArrivals cX4_expectedArrivals 7 (some .long) :: ((wsX4_expectedArrivals_r1 ++ wsX4_expectedArrivals_r2) ++ wsX40 ++ wsX00)
def wsX4_snapshot : List Cond := .code yX4_snapshot cX4_snapshot 1 (some .int) :: ([.fieldLink RX4 19 "RotorRouter" "graph" "LRotorRouter$Graph;", .fieldLink RX4 86 "RotorRouter$Graph" "nodes" "I", .fieldLink RX4 30 "RotorRouter" "kept" "LRotorRouter$State;", .fieldLink RX4 26 "RotorRouter" "current" "LRotorRouter$State;", .fieldLink RX4 33 "RotorRouter" "hasKept" "Z", .fieldLink RX4 109 "RotorRouter$State" "walkers" "I", .methodLink RX4 171 yX3_copyFrom, .instanceMethod yX3_copyFrom, .selects RX3 yX3_copyFrom yX3_copyFrom, .initialized RX3, .code yX3_copyFrom cX3_copyFrom 2 none, .fieldLink RX3 9 "RotorRouter$State" "rotors" "[I", .methodLink RX3 28 arraycopyName, .native arraycopyName, .static arraycopyName, .initialized "java/lang/System", .fieldLink RX3 15 "RotorRouter$State" "arrived" "[I", .fieldLink RX3 18 "RotorRouter$State" "departed" "[I", .fieldLink RX3 21 "RotorRouter$State" "positions" "[I", .fieldLink RX3 24 "RotorRouter$State" "walkers" "I"] ++ wsX40 ++ wsX00 ++ wsX30)
def wsX4_restore : List Cond := .code yX4_restore cX4_restore 1 (some .int) :: ([.fieldLink RX4 33 "RotorRouter" "hasKept" "Z", .fieldLink RX4 26 "RotorRouter" "current" "LRotorRouter$State;", .fieldLink RX4 30 "RotorRouter" "kept" "LRotorRouter$State;", .fieldLink RX4 109 "RotorRouter$State" "walkers" "I", .methodLink RX4 171 yX3_copyFrom, .instanceMethod yX3_copyFrom, .selects RX3 yX3_copyFrom yX3_copyFrom, .initialized RX3, .code yX3_copyFrom cX3_copyFrom 2 none, .fieldLink RX3 9 "RotorRouter$State" "rotors" "[I", .methodLink RX3 28 arraycopyName, .native arraycopyName, .static arraycopyName, .initialized "java/lang/System", .fieldLink RX3 15 "RotorRouter$State" "arrived" "[I", .fieldLink RX3 18 "RotorRouter$State" "departed" "[I", .fieldLink RX3 21 "RotorRouter$State" "positions" "[I", .fieldLink RX3 24 "RotorRouter$State" "walkers" "I"] ++ wsX40 ++ wsX30)
def wsX4_walkerCount : List Cond := .code yX4_walkerCount cX4_walkerCount 1 (some .int) :: ([.fieldLink RX4 26 "RotorRouter" "current" "LRotorRouter$State;", .fieldLink RX4 109 "RotorRouter$State" "walkers" "I"] ++ wsX40 ++ wsX30)
def wsX4_linkCount : List Cond := .code yX4_linkCount cX4_linkCount 1 (some .int) :: ([.fieldLink RX4 19 "RotorRouter" "graph" "LRotorRouter$Graph;", .fieldLink RX4 135 "RotorRouter$Graph" "links" "I"] ++ wsX40 ++ wsX00)
def wsX4_hashed : List Cond := .code yX4_hashed cX4_hashed 4 (some .long) :: ([.constantLong RX4 222 (31)])
def wsX4_hashedNode : List Cond := .code yX4_hashedNode cX4_hashedNode 8 (some .long) :: ([.fieldLink RX4 19 "RotorRouter" "graph" "LRotorRouter$Graph;", .fieldLink RX4 93 "RotorRouter$Graph" "degrees" "[I", .fieldLink RX4 26 "RotorRouter" "current" "LRotorRouter$State;", .fieldLink RX4 106 "RotorRouter$State" "rotors" "[I", .fieldLink RX4 129 "RotorRouter$State" "arrived" "[I", .fieldLink RX4 100 "RotorRouter$Graph" "neighbors" "[I", .fieldLink RX4 132 "RotorRouter$State" "departed" "[I", .methodLink RX4 177 yX4_hashed, .static yX4_hashed, .initialized RX4, .code yX4_hashed cX4_hashed 4 (some .long), .constantLong RX4 222 (31), .methodLink RX4 103 yX0_slot, .static yX0_slot, .initialized RX0, .code yX0_slot cX0_slot 2 (some .int)] ++ wsX40 ++ wsX00 ++ wsX30)
def wsX4_hashedAnalysis_r1 : List Cond := [Cond.fieldLink RX4 19 "RotorRouter" "graph" "LRotorRouter$Graph;", Cond.methodLink RX4 154 yX0_assignments, Cond.instanceMethod yX0_assignments, Cond.selects RX0 yX0_assignments yX0_assignments, Cond.initialized RX0, Cond.code yX0_assignments cX0_assignments 3 (some .int), Cond.fieldLink RX0 18 "RotorRouter$Graph" "nodes" "I", Cond.fieldLink RX0 9 "RotorRouter$Graph" "degrees" "[I", Cond.methodLink RX4 157 yX4_searchAssignments, Cond.instanceMethod yX4_searchAssignments, Cond.selects RX4 yX4_searchAssignments yX4_searchAssignments, Cond.initialized RX4, Cond.code yX4_searchAssignments cX4_searchAssignments 7 (some .int), Cond.fieldLink RX4 86 "RotorRouter$Graph" "nodes" "I", Cond.fieldLink RX4 47 "RotorRouter" "trialRotors" "[I", Cond.constant RX4 145 (1000000), Cond.fieldLink RX4 51 "RotorRouter" "bestRotors" "[I", Cond.methodLink RX4 204 arraycopyName, Cond.native arraycopyName, Cond.static arraycopyName, Cond.initialized "java/lang/System", Cond.methodLink RX4 150 yX4_coverTimeBelow, Cond.instanceMethod yX4_coverTimeBelow, Cond.selects RX4 yX4_coverTimeBelow yX4_coverTimeBelow]
def wsX4_hashedAnalysis_r2 : List Cond := [Cond.code yX4_coverTimeBelow cX4_coverTimeBelow 7 (some .int), Cond.fieldLink RX4 40 "RotorRouter" "probe" "LRotorRouter$Probe;", Cond.fieldLink RX4 201 "RotorRouter$Probe" "node" "I", Cond.methodLink RX4 138 yX2_start, Cond.instanceMethod yX2_start, Cond.selects RX2 yX2_start yX2_start, Cond.initialized RX2, Cond.code yX2_start cX2_start 3 none, Cond.fieldLink RX2 15 "RotorRouter$Probe" "node" "I", Cond.fieldLink RX2 9 "RotorRouter$Probe" "rotors" "[I", Cond.methodLink RX2 19 arraycopyName, Cond.methodLink RX4 142 yX2_move, Cond.instanceMethod yX2_move, Cond.selects RX2 yX2_move yX2_move, Cond.code yX2_move cX2_move 3 none, Cond.fieldLink RX2 25 "RotorRouter$Graph" "neighbors" "[I", Cond.methodLink RX2 30 yX0_slot, Cond.static yX0_slot, Cond.code yX0_slot cX0_slot 2 (some .int), Cond.methodLink RX2 34 yX0_rotorAfter, Cond.instanceMethod yX0_rotorAfter, Cond.selects RX0 yX0_rotorAfter yX0_rotorAfter, Cond.code yX0_rotorAfter cX0_rotorAfter 4 (some .int), Cond.methodLink RX4 210 yX4_turnTrialRotors]
def wsX4_hashedAnalysis_r3 : List Cond := [Cond.instanceMethod yX4_turnTrialRotors, Cond.selects RX4 yX4_turnTrialRotors yX4_turnTrialRotors, Cond.code yX4_turnTrialRotors cX4_turnTrialRotors 2 none, Cond.methodLink RX4 213 yX0_rotorAfter, Cond.methodLink RX4 177 yX4_hashed, Cond.static yX4_hashed, Cond.code yX4_hashed cX4_hashed 4 (some .long), Cond.constantLong RX4 222 (31), Cond.methodLink RX4 224 yX4_expectedArrivals, Cond.instanceMethod yX4_expectedArrivals, Cond.selects RX4 yX4_expectedArrivals yX4_expectedArrivals, Cond.code yX4_expectedArrivals cX4_expectedArrivals 7 (some .long), Cond.constantLong RX4 160 (-4), Cond.constantLong RX4 162 (-6), Cond.fieldLink RX4 54 "RotorRouter" "chances" "[D", Cond.methodLink RX4 89 yX0_hasNode, Cond.instanceMethod yX0_hasNode, Cond.selects RX0 yX0_hasNode yX0_hasNode, Cond.code yX0_hasNode cX0_hasNode 2 (some .boolean), Cond.methodLink RX4 164 yX4_spreadChances, Cond.instanceMethod yX4_spreadChances, Cond.selects RX4 yX4_spreadChances yX4_spreadChances, Cond.code yX4_spreadChances cX4_spreadChances 4 none, Cond.fieldLink RX4 58 "RotorRouter" "nextChances" "[D"]
def wsX4_hashedAnalysis_r4 : List Cond := [Cond.fieldLink RX4 93 "RotorRouter$Graph" "degrees" "[I", Cond.fieldLink RX4 100 "RotorRouter$Graph" "neighbors" "[I", Cond.methodLink RX4 103 yX0_slot, Cond.methodLink RX4 167 yX4_bitsOf, Cond.static yX4_bitsOf, Cond.code yX4_bitsOf cX4_bitsOf 7 (some .long), Cond.constantDouble RX4 216 (4611686018427387904), Cond.constantDouble RX4 218 (4841369599423283200), Cond.constantLong RX4 220 (4503599627370496)]
def wsX4_hashedAnalysis : List Cond := .code yX4_hashedAnalysis cX4_hashedAnalysis 5 (some .long) :: ((wsX4_hashedAnalysis_r1 ++ (wsX4_hashedAnalysis_r2 ++ (wsX4_hashedAnalysis_r3 ++ wsX4_hashedAnalysis_r4))) ++ wsX40 ++ wsX00 ++ wsX20)
def wsX4_hashedInput : List Cond := .code yX4_hashedInput cX4_hashedInput 6 (some .long) :: ([.fieldLink RX4 12 "RotorRouter" "input" "LRotorRouter$InputText;", .fieldLink RX4 61 "RotorRouter$InputText" "length" "I", .fieldLink RX4 65 "RotorRouter$InputText" "codes" "[I", .methodLink RX4 177 yX4_hashed, .static yX4_hashed, .initialized RX4, .code yX4_hashed cX4_hashed 4 (some .long), .constantLong RX4 222 (31)] ++ wsX40 ++ wsX10)
def wsX4_digest_r1 : List Cond := [Cond.constantLong RX4 175 (1753), Cond.fieldLink RX4 19 "RotorRouter" "graph" "LRotorRouter$Graph;", Cond.fieldLink RX4 86 "RotorRouter$Graph" "nodes" "I", Cond.fieldLink RX4 135 "RotorRouter$Graph" "links" "I", Cond.fieldLink RX4 26 "RotorRouter" "current" "LRotorRouter$State;", Cond.fieldLink RX4 109 "RotorRouter$State" "walkers" "I", Cond.fieldLink RX4 112 "RotorRouter$State" "positions" "[I", Cond.methodLink RX4 177 yX4_hashed, Cond.static yX4_hashed, Cond.initialized RX4, Cond.code yX4_hashed cX4_hashed 4 (some .long), Cond.constantLong RX4 222 (31), Cond.methodLink RX4 181 yX4_hashedNode, Cond.instanceMethod yX4_hashedNode, Cond.selects RX4 yX4_hashedNode yX4_hashedNode, Cond.code yX4_hashedNode cX4_hashedNode 8 (some .long), Cond.fieldLink RX4 93 "RotorRouter$Graph" "degrees" "[I", Cond.fieldLink RX4 106 "RotorRouter$State" "rotors" "[I", Cond.fieldLink RX4 129 "RotorRouter$State" "arrived" "[I", Cond.fieldLink RX4 100 "RotorRouter$Graph" "neighbors" "[I", Cond.fieldLink RX4 132 "RotorRouter$State" "departed" "[I", Cond.methodLink RX4 103 yX0_slot, Cond.static yX0_slot, Cond.initialized RX0]
def wsX4_digest_r2 : List Cond := [Cond.code yX0_slot cX0_slot 2 (some .int), Cond.methodLink RX4 185 yX4_stepsToCycle, Cond.instanceMethod yX4_stepsToCycle, Cond.selects RX4 yX4_stepsToCycle yX4_stepsToCycle, Cond.code yX4_stepsToCycle cX4_stepsToCycle 4 (some .int), Cond.fieldLink RX4 40 "RotorRouter" "probe" "LRotorRouter$Probe;", Cond.fieldLink RX4 44 "RotorRouter" "probeAhead" "LRotorRouter$Probe;", Cond.constant RX4 145 (1000000), Cond.methodLink RX4 115 yX3_hasWalker, Cond.instanceMethod yX3_hasWalker, Cond.selects RX3 yX3_hasWalker yX3_hasWalker, Cond.initialized RX3, Cond.code yX3_hasWalker cX3_hasWalker 2 (some .boolean), Cond.fieldLink RX3 24 "RotorRouter$State" "walkers" "I", Cond.methodLink RX4 138 yX2_start, Cond.instanceMethod yX2_start, Cond.selects RX2 yX2_start yX2_start, Cond.initialized RX2, Cond.code yX2_start cX2_start 3 none, Cond.fieldLink RX2 15 "RotorRouter$Probe" "node" "I", Cond.fieldLink RX2 9 "RotorRouter$Probe" "rotors" "[I", Cond.methodLink RX2 19 arraycopyName, Cond.native arraycopyName, Cond.static arraycopyName]
def wsX4_digest_r3 : List Cond := [Cond.initialized "java/lang/System", Cond.methodLink RX4 142 yX2_move, Cond.instanceMethod yX2_move, Cond.selects RX2 yX2_move yX2_move, Cond.code yX2_move cX2_move 3 none, Cond.fieldLink RX2 25 "RotorRouter$Graph" "neighbors" "[I", Cond.methodLink RX2 30 yX0_slot, Cond.methodLink RX2 34 yX0_rotorAfter, Cond.instanceMethod yX0_rotorAfter, Cond.selects RX0 yX0_rotorAfter yX0_rotorAfter, Cond.code yX0_rotorAfter cX0_rotorAfter 4 (some .int), Cond.fieldLink RX0 9 "RotorRouter$Graph" "degrees" "[I", Cond.methodLink RX4 146 yX2_isSameAs, Cond.instanceMethod yX2_isSameAs, Cond.selects RX2 yX2_isSameAs yX2_isSameAs, Cond.code yX2_isSameAs cX2_isSameAs 4 (some .boolean), Cond.methodLink RX4 188 yX4_coverTime, Cond.instanceMethod yX4_coverTime, Cond.selects RX4 yX4_coverTime yX4_coverTime, Cond.code yX4_coverTime cX4_coverTime 2 (some .int), Cond.methodLink RX4 150 yX4_coverTimeBelow, Cond.instanceMethod yX4_coverTimeBelow, Cond.selects RX4 yX4_coverTimeBelow yX4_coverTimeBelow, Cond.code yX4_coverTimeBelow cX4_coverTimeBelow 7 (some .int)]
def wsX4_digest_r4 : List Cond := [Cond.fieldLink RX4 201 "RotorRouter$Probe" "node" "I", Cond.methodLink RX4 191 yX4_hashedAnalysis, Cond.instanceMethod yX4_hashedAnalysis, Cond.selects RX4 yX4_hashedAnalysis yX4_hashedAnalysis, Cond.code yX4_hashedAnalysis cX4_hashedAnalysis 5 (some .long), Cond.methodLink RX4 154 yX0_assignments, Cond.instanceMethod yX0_assignments, Cond.selects RX0 yX0_assignments yX0_assignments, Cond.code yX0_assignments cX0_assignments 3 (some .int), Cond.fieldLink RX0 18 "RotorRouter$Graph" "nodes" "I", Cond.methodLink RX4 157 yX4_searchAssignments, Cond.instanceMethod yX4_searchAssignments, Cond.selects RX4 yX4_searchAssignments yX4_searchAssignments, Cond.code yX4_searchAssignments cX4_searchAssignments 7 (some .int), Cond.fieldLink RX4 47 "RotorRouter" "trialRotors" "[I", Cond.fieldLink RX4 51 "RotorRouter" "bestRotors" "[I", Cond.methodLink RX4 204 arraycopyName, Cond.methodLink RX4 210 yX4_turnTrialRotors, Cond.instanceMethod yX4_turnTrialRotors, Cond.selects RX4 yX4_turnTrialRotors yX4_turnTrialRotors, Cond.code yX4_turnTrialRotors cX4_turnTrialRotors 2 none, Cond.methodLink RX4 213 yX0_rotorAfter, Cond.methodLink RX4 224 yX4_expectedArrivals, Cond.instanceMethod yX4_expectedArrivals]
def wsX4_digest_r5 : List Cond := [Cond.selects RX4 yX4_expectedArrivals yX4_expectedArrivals, Cond.code yX4_expectedArrivals cX4_expectedArrivals 7 (some .long), Cond.constantLong RX4 160 (-4), Cond.constantLong RX4 162 (-6), Cond.fieldLink RX4 54 "RotorRouter" "chances" "[D", Cond.methodLink RX4 89 yX0_hasNode, Cond.instanceMethod yX0_hasNode, Cond.selects RX0 yX0_hasNode yX0_hasNode, Cond.code yX0_hasNode cX0_hasNode 2 (some .boolean), Cond.methodLink RX4 164 yX4_spreadChances, Cond.instanceMethod yX4_spreadChances, Cond.selects RX4 yX4_spreadChances yX4_spreadChances, Cond.code yX4_spreadChances cX4_spreadChances 4 none, Cond.fieldLink RX4 58 "RotorRouter" "nextChances" "[D", Cond.methodLink RX4 167 yX4_bitsOf, Cond.static yX4_bitsOf, Cond.code yX4_bitsOf cX4_bitsOf 7 (some .long), Cond.constantDouble RX4 216 (4611686018427387904), Cond.constantDouble RX4 218 (4841369599423283200), Cond.constantLong RX4 220 (4503599627370496), Cond.methodLink RX4 195 yX4_hashedInput, Cond.instanceMethod yX4_hashedInput, Cond.selects RX4 yX4_hashedInput yX4_hashedInput, Cond.code yX4_hashedInput cX4_hashedInput 6 (some .long)]
def wsX4_digest_r6 : List Cond := [Cond.fieldLink RX4 12 "RotorRouter" "input" "LRotorRouter$InputText;", Cond.fieldLink RX4 61 "RotorRouter$InputText" "length" "I", Cond.fieldLink RX4 65 "RotorRouter$InputText" "codes" "[I"]
def wsX4_digest : List Cond := .code yX4_digest cX4_digest 4 (some .long) :: ((wsX4_digest_r1 ++ (wsX4_digest_r2 ++ (wsX4_digest_r3 ++ (wsX4_digest_r4 ++ (wsX4_digest_r5 ++ wsX4_digest_r6))))) ++ wsX40 ++ wsX00 ++ wsX30 ++ wsX20 ++ wsX10)
def wsX5_init : List Cond := .code yX5_init cX5_init 1 none :: ([.methodLink RX5 1 objectInit, .instanceMethod objectInit, .code objectInit ⟨#[0xb1]⟩ 1 none, .arrayClass .int, .fieldLink RX5 7 "RotorRouterModel" "buffer" "[I", .fieldLink RX5 13 "RotorRouterModel" "table" "[I", .fieldLink RX5 16 "RotorRouterModel" "degrees" "[I", .fieldLink RX5 19 "RotorRouterModel" "rotors" "[I", .fieldLink RX5 22 "RotorRouterModel" "places" "[I", .fieldLink RX5 25 "RotorRouterModel" "arrived" "[I", .fieldLink RX5 28 "RotorRouterModel" "departed" "[I", .fieldLink RX5 31 "RotorRouterModel" "first" "[I", .fieldLink RX5 34 "RotorRouterModel" "second" "[I", .arrayClass .double, .fieldLink RX5 37 "RotorRouterModel" "chance" "[D", .fieldLink RX5 41 "RotorRouterModel" "after" "[D", .fieldLink RX5 44 "RotorRouterModel" "keptRotors" "[I", .fieldLink RX5 47 "RotorRouterModel" "keptPlaces" "[I", .fieldLink RX5 50 "RotorRouterModel" "keptArrived" "[I", .fieldLink RX5 53 "RotorRouterModel" "keptDeparted" "[I"] ++ wsX50)
def wsX5_within : List Cond := .code yX5_within cX5_within 3 (some .boolean) :: ([])
def wsX5_append : List Cond := .code yX5_append cX5_append 2 (some .int) :: ([.fieldLink RX5 60 "RotorRouterModel" "length" "I", .fieldLink RX5 7 "RotorRouterModel" "buffer" "[I", .methodLink RX5 56 yX5_within, .static yX5_within, .initialized RX5, .code yX5_within cX5_within 3 (some .boolean)] ++ wsX50)
def wsX5_clearInput : List Cond := .code yX5_clearInput cX5_clearInput 2 (some .int) :: ([.fieldLink RX5 60 "RotorRouterModel" "length" "I"] ++ wsX50)
def wsX5_isNodeDigit : List Cond := .code yX5_isNodeDigit cX5_isNodeDigit 2 (some .boolean) :: ([.fieldLink RX5 7 "RotorRouterModel" "buffer" "[I"] ++ wsX50)
def wsX5_isSecondNode : List Cond := .code yX5_isSecondNode cX5_isSecondNode 7 (some .boolean) :: ([.fieldLink RX5 7 "RotorRouterModel" "buffer" "[I", .methodLink RX5 64 yX5_isNodeDigit, .instanceMethod yX5_isNodeDigit, .selects RX5 yX5_isNodeDigit yX5_isNodeDigit, .initialized RX5, .code yX5_isNodeDigit cX5_isNodeDigit 2 (some .boolean)] ++ wsX50)
def wsX5_isRight : List Cond := .code yX5_isRight cX5_isRight 3 (some .boolean) :: ([.fieldLink RX5 7 "RotorRouterModel" "buffer" "[I", .methodLink RX5 56 yX5_within, .static yX5_within, .initialized RX5, .code yX5_within cX5_within 3 (some .boolean), .methodLink RX5 64 yX5_isNodeDigit, .instanceMethod yX5_isNodeDigit, .selects RX5 yX5_isNodeDigit yX5_isNodeDigit, .code yX5_isNodeDigit cX5_isNodeDigit 2 (some .boolean), .methodLink RX5 68 yX5_isSecondNode, .instanceMethod yX5_isSecondNode, .selects RX5 yX5_isSecondNode yX5_isSecondNode, .code yX5_isSecondNode cX5_isSecondNode 7 (some .boolean)] ++ wsX50)
def wsX5_rightLength : List Cond := .code yX5_rightLength cX5_rightLength 2 (some .int) :: ([.fieldLink RX5 60 "RotorRouterModel" "length" "I", .methodLink RX5 71 yX5_isRight, .instanceMethod yX5_isRight, .selects RX5 yX5_isRight yX5_isRight, .initialized RX5, .code yX5_isRight cX5_isRight 3 (some .boolean), .fieldLink RX5 7 "RotorRouterModel" "buffer" "[I", .methodLink RX5 56 yX5_within, .static yX5_within, .code yX5_within cX5_within 3 (some .boolean), .methodLink RX5 64 yX5_isNodeDigit, .instanceMethod yX5_isNodeDigit, .selects RX5 yX5_isNodeDigit yX5_isNodeDigit, .code yX5_isNodeDigit cX5_isNodeDigit 2 (some .boolean), .methodLink RX5 68 yX5_isSecondNode, .instanceMethod yX5_isSecondNode, .selects RX5 yX5_isSecondNode yX5_isSecondNode, .code yX5_isSecondNode cX5_isSecondNode 7 (some .boolean)] ++ wsX50)
def wsX5_firstError : List Cond := .code yX5_firstError cX5_firstError 1 (some .int) :: ([.methodLink RX5 74 yX5_rightLength, .instanceMethod yX5_rightLength, .selects RX5 yX5_rightLength yX5_rightLength, .initialized RX5, .code yX5_rightLength cX5_rightLength 2 (some .int), .fieldLink RX5 60 "RotorRouterModel" "length" "I", .methodLink RX5 71 yX5_isRight, .instanceMethod yX5_isRight, .selects RX5 yX5_isRight yX5_isRight, .code yX5_isRight cX5_isRight 3 (some .boolean), .fieldLink RX5 7 "RotorRouterModel" "buffer" "[I", .methodLink RX5 56 yX5_within, .static yX5_within, .code yX5_within cX5_within 3 (some .boolean), .methodLink RX5 64 yX5_isNodeDigit, .instanceMethod yX5_isNodeDigit, .selects RX5 yX5_isNodeDigit yX5_isNodeDigit, .code yX5_isNodeDigit cX5_isNodeDigit 2 (some .boolean), .methodLink RX5 68 yX5_isSecondNode, .instanceMethod yX5_isSecondNode, .selects RX5 yX5_isSecondNode yX5_isSecondNode, .code yX5_isSecondNode cX5_isSecondNode 7 (some .boolean)] ++ wsX50)
def wsX5_isConnected : List Cond := .code yX5_isConnected cX5_isConnected 5 (some .boolean) :: ([.fieldLink RX5 60 "RotorRouterModel" "length" "I", .fieldLink RX5 7 "RotorRouterModel" "buffer" "[I"] ++ wsX50)
def wsX5_join : List Cond := .code yX5_join cX5_join 3 none :: ([.fieldLink RX5 13 "RotorRouterModel" "table" "[I", .fieldLink RX5 16 "RotorRouterModel" "degrees" "[I"] ++ wsX50)
def wsX5_load_r1 : List Cond := [Cond.fieldLink RX5 60 "RotorRouterModel" "length" "I", Cond.fieldLink RX5 7 "RotorRouterModel" "buffer" "[I", Cond.fieldLink RX5 82 "RotorRouterModel" "nodes" "I", Cond.fieldLink RX5 85 "RotorRouterModel" "links" "I", Cond.fieldLink RX5 28 "RotorRouterModel" "departed" "[I", Cond.fieldLink RX5 16 "RotorRouterModel" "degrees" "[I", Cond.fieldLink RX5 19 "RotorRouterModel" "rotors" "[I", Cond.fieldLink RX5 25 "RotorRouterModel" "arrived" "[I", Cond.fieldLink RX5 92 "RotorRouterModel" "walkers" "I", Cond.fieldLink RX5 95 "RotorRouterModel" "hasSnapshot" "Z", Cond.methodLink RX5 74 yX5_rightLength, Cond.instanceMethod yX5_rightLength, Cond.selects RX5 yX5_rightLength yX5_rightLength, Cond.initialized RX5, Cond.code yX5_rightLength cX5_rightLength 2 (some .int), Cond.methodLink RX5 71 yX5_isRight, Cond.instanceMethod yX5_isRight, Cond.selects RX5 yX5_isRight yX5_isRight, Cond.code yX5_isRight cX5_isRight 3 (some .boolean), Cond.methodLink RX5 56 yX5_within, Cond.static yX5_within, Cond.code yX5_within cX5_within 3 (some .boolean), Cond.methodLink RX5 64 yX5_isNodeDigit, Cond.instanceMethod yX5_isNodeDigit]
def wsX5_load_r2 : List Cond := [Cond.selects RX5 yX5_isNodeDigit yX5_isNodeDigit, Cond.code yX5_isNodeDigit cX5_isNodeDigit 2 (some .boolean), Cond.methodLink RX5 68 yX5_isSecondNode, Cond.instanceMethod yX5_isSecondNode, Cond.selects RX5 yX5_isSecondNode yX5_isSecondNode, Cond.code yX5_isSecondNode cX5_isSecondNode 7 (some .boolean), Cond.methodLink RX5 78 yX5_isConnected, Cond.instanceMethod yX5_isConnected, Cond.selects RX5 yX5_isConnected yX5_isConnected, Cond.code yX5_isConnected cX5_isConnected 5 (some .boolean), Cond.methodLink RX5 88 yX5_join, Cond.instanceMethod yX5_join, Cond.selects RX5 yX5_join yX5_join, Cond.code yX5_join cX5_join 3 none, Cond.fieldLink RX5 13 "RotorRouterModel" "table" "[I"]
def wsX5_load : List Cond := .code yX5_load cX5_load 2 (some .int) :: ((wsX5_load_r1 ++ wsX5_load_r2) ++ wsX50)
def wsX5_isNode : List Cond := .code yX5_isNode cX5_isNode 2 (some .boolean) :: ([.fieldLink RX5 82 "RotorRouterModel" "nodes" "I", .methodLink RX5 56 yX5_within, .static yX5_within, .initialized RX5, .code yX5_within cX5_within 3 (some .boolean)] ++ wsX50)
def wsX5_degree : List Cond := .code yX5_degree cX5_degree 2 (some .int) :: ([.fieldLink RX5 16 "RotorRouterModel" "degrees" "[I", .methodLink RX5 99 yX5_isNode, .instanceMethod yX5_isNode, .selects RX5 yX5_isNode yX5_isNode, .initialized RX5, .code yX5_isNode cX5_isNode 2 (some .boolean), .fieldLink RX5 82 "RotorRouterModel" "nodes" "I", .methodLink RX5 56 yX5_within, .static yX5_within, .code yX5_within cX5_within 3 (some .boolean)] ++ wsX50)
def wsX5_errorOf : List Cond := .code yX5_errorOf cX5_errorOf 3 (some .int) :: ([.fieldLink RX5 16 "RotorRouterModel" "degrees" "[I", .methodLink RX5 99 yX5_isNode, .instanceMethod yX5_isNode, .selects RX5 yX5_isNode yX5_isNode, .initialized RX5, .code yX5_isNode cX5_isNode 2 (some .boolean), .fieldLink RX5 82 "RotorRouterModel" "nodes" "I", .methodLink RX5 56 yX5_within, .static yX5_within, .code yX5_within cX5_within 3 (some .boolean)] ++ wsX50)
def wsX5_neighbor : List Cond := .code yX5_neighbor cX5_neighbor 4 (some .int) :: ([.fieldLink RX5 13 "RotorRouterModel" "table" "[I", .methodLink RX5 102 yX5_errorOf, .instanceMethod yX5_errorOf, .selects RX5 yX5_errorOf yX5_errorOf, .initialized RX5, .code yX5_errorOf cX5_errorOf 3 (some .int), .fieldLink RX5 16 "RotorRouterModel" "degrees" "[I", .methodLink RX5 99 yX5_isNode, .instanceMethod yX5_isNode, .selects RX5 yX5_isNode yX5_isNode, .code yX5_isNode cX5_isNode 2 (some .boolean), .fieldLink RX5 82 "RotorRouterModel" "nodes" "I", .methodLink RX5 56 yX5_within, .static yX5_within, .code yX5_within cX5_within 3 (some .boolean)] ++ wsX50)
def wsX5_rotor : List Cond := .code yX5_rotor cX5_rotor 2 (some .int) :: ([.fieldLink RX5 19 "RotorRouterModel" "rotors" "[I", .methodLink RX5 99 yX5_isNode, .instanceMethod yX5_isNode, .selects RX5 yX5_isNode yX5_isNode, .initialized RX5, .code yX5_isNode cX5_isNode 2 (some .boolean), .fieldLink RX5 82 "RotorRouterModel" "nodes" "I", .methodLink RX5 56 yX5_within, .static yX5_within, .code yX5_within cX5_within 3 (some .boolean)] ++ wsX50)
def wsX5_setRotor : List Cond := .code yX5_setRotor cX5_setRotor 5 (some .int) :: ([.fieldLink RX5 19 "RotorRouterModel" "rotors" "[I", .methodLink RX5 102 yX5_errorOf, .instanceMethod yX5_errorOf, .selects RX5 yX5_errorOf yX5_errorOf, .initialized RX5, .code yX5_errorOf cX5_errorOf 3 (some .int), .fieldLink RX5 16 "RotorRouterModel" "degrees" "[I", .methodLink RX5 99 yX5_isNode, .instanceMethod yX5_isNode, .selects RX5 yX5_isNode yX5_isNode, .code yX5_isNode cX5_isNode 2 (some .boolean), .fieldLink RX5 82 "RotorRouterModel" "nodes" "I", .methodLink RX5 56 yX5_within, .static yX5_within, .code yX5_within cX5_within 3 (some .boolean)] ++ wsX50)
def wsX5_isWalker : List Cond := .code yX5_isWalker cX5_isWalker 2 (some .boolean) :: ([.fieldLink RX5 92 "RotorRouterModel" "walkers" "I", .methodLink RX5 56 yX5_within, .static yX5_within, .initialized RX5, .code yX5_within cX5_within 3 (some .boolean)] ++ wsX50)
def wsX5_addWalker : List Cond := .code yX5_addWalker cX5_addWalker 2 (some .int) :: ([.fieldLink RX5 92 "RotorRouterModel" "walkers" "I", .fieldLink RX5 22 "RotorRouterModel" "places" "[I", .methodLink RX5 99 yX5_isNode, .instanceMethod yX5_isNode, .selects RX5 yX5_isNode yX5_isNode, .initialized RX5, .code yX5_isNode cX5_isNode 2 (some .boolean), .fieldLink RX5 82 "RotorRouterModel" "nodes" "I", .methodLink RX5 56 yX5_within, .static yX5_within, .code yX5_within cX5_within 3 (some .boolean)] ++ wsX50)
def wsX5_position : List Cond := .code yX5_position cX5_position 2 (some .int) :: ([.fieldLink RX5 22 "RotorRouterModel" "places" "[I", .methodLink RX5 106 yX5_isWalker, .instanceMethod yX5_isWalker, .selects RX5 yX5_isWalker yX5_isWalker, .initialized RX5, .code yX5_isWalker cX5_isWalker 2 (some .boolean), .fieldLink RX5 92 "RotorRouterModel" "walkers" "I", .methodLink RX5 56 yX5_within, .static yX5_within, .code yX5_within cX5_within 3 (some .boolean)] ++ wsX50)
def wsX5_go : List Cond := .code yX5_go cX5_go 4 (some .int) :: ([.fieldLink RX5 13 "RotorRouterModel" "table" "[I", .fieldLink RX5 16 "RotorRouterModel" "degrees" "[I"] ++ wsX50)
def wsX5_stepOnce : List Cond := .code yX5_stepOnce cX5_stepOnce 3 none :: ([.fieldLink RX5 22 "RotorRouterModel" "places" "[I", .fieldLink RX5 28 "RotorRouterModel" "departed" "[I", .fieldLink RX5 19 "RotorRouterModel" "rotors" "[I", .fieldLink RX5 25 "RotorRouterModel" "arrived" "[I", .methodLink RX5 109 yX5_go, .instanceMethod yX5_go, .selects RX5 yX5_go yX5_go, .initialized RX5, .code yX5_go cX5_go 4 (some .int), .fieldLink RX5 13 "RotorRouterModel" "table" "[I", .fieldLink RX5 16 "RotorRouterModel" "degrees" "[I"] ++ wsX50)
def wsX5_step : List Cond := .code yX5_step cX5_step 4 (some .int) :: ([.fieldLink RX5 22 "RotorRouterModel" "places" "[I", .methodLink RX5 106 yX5_isWalker, .instanceMethod yX5_isWalker, .selects RX5 yX5_isWalker yX5_isWalker, .initialized RX5, .code yX5_isWalker cX5_isWalker 2 (some .boolean), .fieldLink RX5 92 "RotorRouterModel" "walkers" "I", .methodLink RX5 56 yX5_within, .static yX5_within, .code yX5_within cX5_within 3 (some .boolean), .methodLink RX5 113 yX5_stepOnce, .instanceMethod yX5_stepOnce, .selects RX5 yX5_stepOnce yX5_stepOnce, .code yX5_stepOnce cX5_stepOnce 3 none, .fieldLink RX5 28 "RotorRouterModel" "departed" "[I", .fieldLink RX5 19 "RotorRouterModel" "rotors" "[I", .fieldLink RX5 25 "RotorRouterModel" "arrived" "[I", .methodLink RX5 109 yX5_go, .instanceMethod yX5_go, .selects RX5 yX5_go yX5_go, .code yX5_go cX5_go 4 (some .int), .fieldLink RX5 13 "RotorRouterModel" "table" "[I", .fieldLink RX5 16 "RotorRouterModel" "degrees" "[I"] ++ wsX50)
def wsX5_pass : List Cond := .code yX5_pass cX5_pass 4 (some .int) :: ([.fieldLink RX5 92 "RotorRouterModel" "walkers" "I", .fieldLink RX5 22 "RotorRouterModel" "places" "[I", .methodLink RX5 113 yX5_stepOnce, .instanceMethod yX5_stepOnce, .selects RX5 yX5_stepOnce yX5_stepOnce, .initialized RX5, .code yX5_stepOnce cX5_stepOnce 3 none, .fieldLink RX5 28 "RotorRouterModel" "departed" "[I", .fieldLink RX5 19 "RotorRouterModel" "rotors" "[I", .fieldLink RX5 25 "RotorRouterModel" "arrived" "[I", .methodLink RX5 109 yX5_go, .instanceMethod yX5_go, .selects RX5 yX5_go yX5_go, .code yX5_go cX5_go 4 (some .int), .fieldLink RX5 13 "RotorRouterModel" "table" "[I", .fieldLink RX5 16 "RotorRouterModel" "degrees" "[I"] ++ wsX50)
def wsX5_absorb_r1 : List Cond := [Cond.fieldLink RX5 92 "RotorRouterModel" "walkers" "I", Cond.fieldLink RX5 22 "RotorRouterModel" "places" "[I", Cond.methodLink RX5 99 yX5_isNode, Cond.instanceMethod yX5_isNode, Cond.selects RX5 yX5_isNode yX5_isNode, Cond.initialized RX5, Cond.code yX5_isNode cX5_isNode 2 (some .boolean), Cond.fieldLink RX5 82 "RotorRouterModel" "nodes" "I", Cond.methodLink RX5 56 yX5_within, Cond.static yX5_within, Cond.code yX5_within cX5_within 3 (some .boolean), Cond.methodLink RX5 113 yX5_stepOnce, Cond.instanceMethod yX5_stepOnce, Cond.selects RX5 yX5_stepOnce yX5_stepOnce, Cond.code yX5_stepOnce cX5_stepOnce 3 none, Cond.fieldLink RX5 28 "RotorRouterModel" "departed" "[I", Cond.fieldLink RX5 19 "RotorRouterModel" "rotors" "[I", Cond.fieldLink RX5 25 "RotorRouterModel" "arrived" "[I", Cond.methodLink RX5 109 yX5_go, Cond.instanceMethod yX5_go, Cond.selects RX5 yX5_go yX5_go, Cond.code yX5_go cX5_go 4 (some .int), Cond.fieldLink RX5 13 "RotorRouterModel" "table" "[I", Cond.fieldLink RX5 16 "RotorRouterModel" "degrees" "[I"]
def wsX5_absorb_r2 : List Cond := [Cond.methodLink RX5 117 yX5_pass, Cond.instanceMethod yX5_pass, Cond.selects RX5 yX5_pass yX5_pass, Cond.code yX5_pass cX5_pass 4 (some .int)]
def wsX5_absorb : List Cond := .code yX5_absorb cX5_absorb 5 (some .int) :: ((wsX5_absorb_r1 ++ wsX5_absorb_r2) ++ wsX50)
def wsX5_arrivals : List Cond := .code yX5_arrivals cX5_arrivals 2 (some .int) :: ([.fieldLink RX5 25 "RotorRouterModel" "arrived" "[I", .methodLink RX5 99 yX5_isNode, .instanceMethod yX5_isNode, .selects RX5 yX5_isNode yX5_isNode, .initialized RX5, .code yX5_isNode cX5_isNode 2 (some .boolean), .fieldLink RX5 82 "RotorRouterModel" "nodes" "I", .methodLink RX5 56 yX5_within, .static yX5_within, .code yX5_within cX5_within 3 (some .boolean)] ++ wsX50)
def wsX5_departures : List Cond := .code yX5_departures cX5_departures 4 (some .int) :: ([.fieldLink RX5 28 "RotorRouterModel" "departed" "[I", .methodLink RX5 102 yX5_errorOf, .instanceMethod yX5_errorOf, .selects RX5 yX5_errorOf yX5_errorOf, .initialized RX5, .code yX5_errorOf cX5_errorOf 3 (some .int), .fieldLink RX5 16 "RotorRouterModel" "degrees" "[I", .methodLink RX5 99 yX5_isNode, .instanceMethod yX5_isNode, .selects RX5 yX5_isNode yX5_isNode, .code yX5_isNode cX5_isNode 2 (some .boolean), .fieldLink RX5 82 "RotorRouterModel" "nodes" "I", .methodLink RX5 56 yX5_within, .static yX5_within, .code yX5_within cX5_within 3 (some .boolean)] ++ wsX50)
def wsX5_copyRotors : List Cond := .code yX5_copyRotors cX5_copyRotors 4 none :: ([])
def wsX5_areEqual : List Cond := .code yX5_areEqual cX5_areEqual 3 (some .boolean) :: ([.fieldLink RX5 82 "RotorRouterModel" "nodes" "I", .fieldLink RX5 31 "RotorRouterModel" "first" "[I", .fieldLink RX5 34 "RotorRouterModel" "second" "[I"] ++ wsX50)
def wsX5_cycleOf : List Cond := .code yX5_cycleOf cX5_cycleOf 5 (some .int) :: ([.fieldLink RX5 19 "RotorRouterModel" "rotors" "[I", .fieldLink RX5 31 "RotorRouterModel" "first" "[I", .fieldLink RX5 34 "RotorRouterModel" "second" "[I", .fieldLink RX5 22 "RotorRouterModel" "places" "[I", .fieldLink RX5 85 "RotorRouterModel" "links" "I", .methodLink RX5 121 yX5_copyRotors, .instanceMethod yX5_copyRotors, .selects RX5 yX5_copyRotors yX5_copyRotors, .initialized RX5, .code yX5_copyRotors cX5_copyRotors 4 none, .methodLink RX5 109 yX5_go, .instanceMethod yX5_go, .selects RX5 yX5_go yX5_go, .code yX5_go cX5_go 4 (some .int), .fieldLink RX5 13 "RotorRouterModel" "table" "[I", .fieldLink RX5 16 "RotorRouterModel" "degrees" "[I", .methodLink RX5 125 yX5_areEqual, .instanceMethod yX5_areEqual, .selects RX5 yX5_areEqual yX5_areEqual, .code yX5_areEqual cX5_areEqual 3 (some .boolean), .fieldLink RX5 82 "RotorRouterModel" "nodes" "I"] ++ wsX50)
def wsX5_stepsToCycle_r1 : List Cond := [Cond.methodLink RX5 106 yX5_isWalker, Cond.instanceMethod yX5_isWalker, Cond.selects RX5 yX5_isWalker yX5_isWalker, Cond.initialized RX5, Cond.code yX5_isWalker cX5_isWalker 2 (some .boolean), Cond.fieldLink RX5 92 "RotorRouterModel" "walkers" "I", Cond.methodLink RX5 56 yX5_within, Cond.static yX5_within, Cond.code yX5_within cX5_within 3 (some .boolean), Cond.methodLink RX5 128 yX5_cycleOf, Cond.instanceMethod yX5_cycleOf, Cond.selects RX5 yX5_cycleOf yX5_cycleOf, Cond.code yX5_cycleOf cX5_cycleOf 5 (some .int), Cond.fieldLink RX5 19 "RotorRouterModel" "rotors" "[I", Cond.fieldLink RX5 31 "RotorRouterModel" "first" "[I", Cond.fieldLink RX5 34 "RotorRouterModel" "second" "[I", Cond.fieldLink RX5 22 "RotorRouterModel" "places" "[I", Cond.fieldLink RX5 85 "RotorRouterModel" "links" "I", Cond.methodLink RX5 121 yX5_copyRotors, Cond.instanceMethod yX5_copyRotors, Cond.selects RX5 yX5_copyRotors yX5_copyRotors, Cond.code yX5_copyRotors cX5_copyRotors 4 none, Cond.methodLink RX5 109 yX5_go, Cond.instanceMethod yX5_go]
def wsX5_stepsToCycle_r2 : List Cond := [Cond.selects RX5 yX5_go yX5_go, Cond.code yX5_go cX5_go 4 (some .int), Cond.fieldLink RX5 13 "RotorRouterModel" "table" "[I", Cond.fieldLink RX5 16 "RotorRouterModel" "degrees" "[I", Cond.methodLink RX5 125 yX5_areEqual, Cond.instanceMethod yX5_areEqual, Cond.selects RX5 yX5_areEqual yX5_areEqual, Cond.code yX5_areEqual cX5_areEqual 3 (some .boolean), Cond.fieldLink RX5 82 "RotorRouterModel" "nodes" "I"]
def wsX5_stepsToCycle : List Cond := .code yX5_stepsToCycle cX5_stepsToCycle 2 (some .int) :: ((wsX5_stepsToCycle_r1 ++ wsX5_stepsToCycle_r2) ++ wsX50)
def wsX5_coverFrom : List Cond := .code yX5_coverFrom cX5_coverFrom 5 (some .int) :: ([.fieldLink RX5 82 "RotorRouterModel" "nodes" "I", .fieldLink RX5 31 "RotorRouterModel" "first" "[I", .methodLink RX5 109 yX5_go, .instanceMethod yX5_go, .selects RX5 yX5_go yX5_go, .initialized RX5, .code yX5_go cX5_go 4 (some .int), .fieldLink RX5 13 "RotorRouterModel" "table" "[I", .fieldLink RX5 16 "RotorRouterModel" "degrees" "[I"] ++ wsX50)
def wsX5_coverOf : List Cond := .code yX5_coverOf cX5_coverOf 2 (some .int) :: ([.fieldLink RX5 19 "RotorRouterModel" "rotors" "[I", .fieldLink RX5 31 "RotorRouterModel" "first" "[I", .fieldLink RX5 22 "RotorRouterModel" "places" "[I", .methodLink RX5 121 yX5_copyRotors, .instanceMethod yX5_copyRotors, .selects RX5 yX5_copyRotors yX5_copyRotors, .initialized RX5, .code yX5_copyRotors cX5_copyRotors 4 none, .methodLink RX5 131 yX5_coverFrom, .instanceMethod yX5_coverFrom, .selects RX5 yX5_coverFrom yX5_coverFrom, .code yX5_coverFrom cX5_coverFrom 5 (some .int), .fieldLink RX5 82 "RotorRouterModel" "nodes" "I", .methodLink RX5 109 yX5_go, .instanceMethod yX5_go, .selects RX5 yX5_go yX5_go, .code yX5_go cX5_go 4 (some .int), .fieldLink RX5 13 "RotorRouterModel" "table" "[I", .fieldLink RX5 16 "RotorRouterModel" "degrees" "[I"] ++ wsX50)
def wsX5_coverTime_r1 : List Cond := [Cond.methodLink RX5 106 yX5_isWalker, Cond.instanceMethod yX5_isWalker, Cond.selects RX5 yX5_isWalker yX5_isWalker, Cond.initialized RX5, Cond.code yX5_isWalker cX5_isWalker 2 (some .boolean), Cond.fieldLink RX5 92 "RotorRouterModel" "walkers" "I", Cond.methodLink RX5 56 yX5_within, Cond.static yX5_within, Cond.code yX5_within cX5_within 3 (some .boolean), Cond.methodLink RX5 134 yX5_coverOf, Cond.instanceMethod yX5_coverOf, Cond.selects RX5 yX5_coverOf yX5_coverOf, Cond.code yX5_coverOf cX5_coverOf 2 (some .int), Cond.fieldLink RX5 19 "RotorRouterModel" "rotors" "[I", Cond.fieldLink RX5 31 "RotorRouterModel" "first" "[I", Cond.fieldLink RX5 22 "RotorRouterModel" "places" "[I", Cond.methodLink RX5 121 yX5_copyRotors, Cond.instanceMethod yX5_copyRotors, Cond.selects RX5 yX5_copyRotors yX5_copyRotors, Cond.code yX5_copyRotors cX5_copyRotors 4 none, Cond.methodLink RX5 131 yX5_coverFrom, Cond.instanceMethod yX5_coverFrom, Cond.selects RX5 yX5_coverFrom yX5_coverFrom, Cond.code yX5_coverFrom cX5_coverFrom 5 (some .int)]
def wsX5_coverTime_r2 : List Cond := [Cond.fieldLink RX5 82 "RotorRouterModel" "nodes" "I", Cond.methodLink RX5 109 yX5_go, Cond.instanceMethod yX5_go, Cond.selects RX5 yX5_go yX5_go, Cond.code yX5_go cX5_go 4 (some .int), Cond.fieldLink RX5 13 "RotorRouterModel" "table" "[I", Cond.fieldLink RX5 16 "RotorRouterModel" "degrees" "[I"]
def wsX5_coverTime : List Cond := .code yX5_coverTime cX5_coverTime 2 (some .int) :: ((wsX5_coverTime_r1 ++ wsX5_coverTime_r2) ++ wsX50)
def wsX5_assignments : List Cond := .code yX5_assignments cX5_assignments 3 (some .int) :: ([.fieldLink RX5 82 "RotorRouterModel" "nodes" "I", .fieldLink RX5 16 "RotorRouterModel" "degrees" "[I"] ++ wsX50)
def wsX5_layAssignment : List Cond := .code yX5_layAssignment cX5_layAssignment 4 none :: ([.fieldLink RX5 82 "RotorRouterModel" "nodes" "I", .fieldLink RX5 31 "RotorRouterModel" "first" "[I", .fieldLink RX5 16 "RotorRouterModel" "degrees" "[I"] ++ wsX50)
def wsX5_leastFrom : List Cond := .code yX5_leastFrom cX5_leastFrom 6 (some .int) :: ([.constant RX5 140 (1073741824), .fieldLink RX5 144 "RotorRouterModel" "bestCode" "I", .methodLink RX5 137 yX5_assignments, .instanceMethod yX5_assignments, .selects RX5 yX5_assignments yX5_assignments, .initialized RX5, .code yX5_assignments cX5_assignments 3 (some .int), .fieldLink RX5 82 "RotorRouterModel" "nodes" "I", .fieldLink RX5 16 "RotorRouterModel" "degrees" "[I", .methodLink RX5 141 yX5_layAssignment, .instanceMethod yX5_layAssignment, .selects RX5 yX5_layAssignment yX5_layAssignment, .code yX5_layAssignment cX5_layAssignment 4 none, .fieldLink RX5 31 "RotorRouterModel" "first" "[I", .methodLink RX5 131 yX5_coverFrom, .instanceMethod yX5_coverFrom, .selects RX5 yX5_coverFrom yX5_coverFrom, .code yX5_coverFrom cX5_coverFrom 5 (some .int), .methodLink RX5 109 yX5_go, .instanceMethod yX5_go, .selects RX5 yX5_go yX5_go, .code yX5_go cX5_go 4 (some .int), .fieldLink RX5 13 "RotorRouterModel" "table" "[I"] ++ wsX50)
def wsX5_leastCoverTime_r1 : List Cond := [Cond.methodLink RX5 99 yX5_isNode, Cond.instanceMethod yX5_isNode, Cond.selects RX5 yX5_isNode yX5_isNode, Cond.initialized RX5, Cond.code yX5_isNode cX5_isNode 2 (some .boolean), Cond.fieldLink RX5 82 "RotorRouterModel" "nodes" "I", Cond.methodLink RX5 56 yX5_within, Cond.static yX5_within, Cond.code yX5_within cX5_within 3 (some .boolean), Cond.methodLink RX5 137 yX5_assignments, Cond.instanceMethod yX5_assignments, Cond.selects RX5 yX5_assignments yX5_assignments, Cond.code yX5_assignments cX5_assignments 3 (some .int), Cond.fieldLink RX5 16 "RotorRouterModel" "degrees" "[I", Cond.methodLink RX5 147 yX5_leastFrom, Cond.instanceMethod yX5_leastFrom, Cond.selects RX5 yX5_leastFrom yX5_leastFrom, Cond.code yX5_leastFrom cX5_leastFrom 6 (some .int), Cond.constant RX5 140 (1073741824), Cond.fieldLink RX5 144 "RotorRouterModel" "bestCode" "I", Cond.methodLink RX5 141 yX5_layAssignment, Cond.instanceMethod yX5_layAssignment, Cond.selects RX5 yX5_layAssignment yX5_layAssignment, Cond.code yX5_layAssignment cX5_layAssignment 4 none]
def wsX5_leastCoverTime_r2 : List Cond := [Cond.fieldLink RX5 31 "RotorRouterModel" "first" "[I", Cond.methodLink RX5 131 yX5_coverFrom, Cond.instanceMethod yX5_coverFrom, Cond.selects RX5 yX5_coverFrom yX5_coverFrom, Cond.code yX5_coverFrom cX5_coverFrom 5 (some .int), Cond.methodLink RX5 109 yX5_go, Cond.instanceMethod yX5_go, Cond.selects RX5 yX5_go yX5_go, Cond.code yX5_go cX5_go 4 (some .int), Cond.fieldLink RX5 13 "RotorRouterModel" "table" "[I"]
def wsX5_leastCoverTime : List Cond := .code yX5_leastCoverTime cX5_leastCoverTime 2 (some .int) :: ((wsX5_leastCoverTime_r1 ++ wsX5_leastCoverTime_r2) ++ wsX50)
def wsX5_bestRotor_r1 : List Cond := [Cond.fieldLink RX5 144 "RotorRouterModel" "bestCode" "I", Cond.fieldLink RX5 31 "RotorRouterModel" "first" "[I", Cond.methodLink RX5 99 yX5_isNode, Cond.instanceMethod yX5_isNode, Cond.selects RX5 yX5_isNode yX5_isNode, Cond.initialized RX5, Cond.code yX5_isNode cX5_isNode 2 (some .boolean), Cond.fieldLink RX5 82 "RotorRouterModel" "nodes" "I", Cond.methodLink RX5 56 yX5_within, Cond.static yX5_within, Cond.code yX5_within cX5_within 3 (some .boolean), Cond.methodLink RX5 137 yX5_assignments, Cond.instanceMethod yX5_assignments, Cond.selects RX5 yX5_assignments yX5_assignments, Cond.code yX5_assignments cX5_assignments 3 (some .int), Cond.fieldLink RX5 16 "RotorRouterModel" "degrees" "[I", Cond.methodLink RX5 147 yX5_leastFrom, Cond.instanceMethod yX5_leastFrom, Cond.selects RX5 yX5_leastFrom yX5_leastFrom, Cond.code yX5_leastFrom cX5_leastFrom 6 (some .int), Cond.constant RX5 140 (1073741824), Cond.methodLink RX5 141 yX5_layAssignment, Cond.instanceMethod yX5_layAssignment, Cond.selects RX5 yX5_layAssignment yX5_layAssignment]
def wsX5_bestRotor_r2 : List Cond := [Cond.code yX5_layAssignment cX5_layAssignment 4 none, Cond.methodLink RX5 131 yX5_coverFrom, Cond.instanceMethod yX5_coverFrom, Cond.selects RX5 yX5_coverFrom yX5_coverFrom, Cond.code yX5_coverFrom cX5_coverFrom 5 (some .int), Cond.methodLink RX5 109 yX5_go, Cond.instanceMethod yX5_go, Cond.selects RX5 yX5_go yX5_go, Cond.code yX5_go cX5_go 4 (some .int), Cond.fieldLink RX5 13 "RotorRouterModel" "table" "[I"]
def wsX5_bestRotor : List Cond := .code yX5_bestRotor cX5_bestRotor 4 (some .int) :: ((wsX5_bestRotor_r1 ++ wsX5_bestRotor_r2) ++ wsX50)
def wsX5_spread : List Cond := .code yX5_spread cX5_spread 3 none :: ([.fieldLink RX5 41 "RotorRouterModel" "after" "[D", .fieldLink RX5 82 "RotorRouterModel" "nodes" "I", .fieldLink RX5 16 "RotorRouterModel" "degrees" "[I", .fieldLink RX5 13 "RotorRouterModel" "table" "[I", .fieldLink RX5 37 "RotorRouterModel" "chance" "[D"] ++ wsX50)
def wsJxe99ae_isNaN_b9ae7 : List Cond := .code yJxe99ae_isNaN_b9ae7 cJxe99ae_isNaN_b9ae7 2 (some .boolean) :: ([])
def wsJxe99ae_doubleToLongBits_ccdee : List Cond := .code yJxe99ae_doubleToLongBits_ccdee cJxe99ae_doubleToLongBits_ccdee 2 (some .long) :: ([.methodLink RJxe99ae 134 ⟨"java/lang/Double", "doubleToRawLongBits", "(D)J"⟩, .native ⟨"java/lang/Double", "doubleToRawLongBits", "(D)J"⟩, .static ⟨"java/lang/Double", "doubleToRawLongBits", "(D)J"⟩, .initialized "java/lang/Double", .constantLong RJxe99ae 137 (9221120237041090560), .methodLink RJxe99ae 122 yJxe99ae_isNaN_b9ae7, .static yJxe99ae_isNaN_b9ae7, .initialized RJxe99ae, .code yJxe99ae_isNaN_b9ae7 cJxe99ae_isNaN_b9ae7 2 (some .boolean)])
def wsX5_expected : List Cond := .code yX5_expected cX5_expected 7 (some .long) :: ([.fieldLink RX5 37 "RotorRouterModel" "chance" "[D", .methodLink RX5 150 yX5_spread, .instanceMethod yX5_spread, .selects RX5 yX5_spread yX5_spread, .initialized RX5, .code yX5_spread cX5_spread 3 none, .fieldLink RX5 41 "RotorRouterModel" "after" "[D", .fieldLink RX5 82 "RotorRouterModel" "nodes" "I", .fieldLink RX5 16 "RotorRouterModel" "degrees" "[I", .fieldLink RX5 13 "RotorRouterModel" "table" "[I", .methodLink RX5 153 yJxe99ae_doubleToLongBits_ccdee, .static yJxe99ae_doubleToLongBits_ccdee, .initialized RJxe99ae, .code yJxe99ae_doubleToLongBits_ccdee cJxe99ae_doubleToLongBits_ccdee 2 (some .long), .methodLink RJxe99ae 134 ⟨"java/lang/Double", "doubleToRawLongBits", "(D)J"⟩, .native ⟨"java/lang/Double", "doubleToRawLongBits", "(D)J"⟩, .static ⟨"java/lang/Double", "doubleToRawLongBits", "(D)J"⟩, .initialized "java/lang/Double", .constantLong RJxe99ae 137 (9221120237041090560), .methodLink RJxe99ae 122 yJxe99ae_isNaN_b9ae7, .static yJxe99ae_isNaN_b9ae7, .code yJxe99ae_isNaN_b9ae7 cJxe99ae_isNaN_b9ae7 2 (some .boolean)] ++ wsX50)
def wsX5_expectedArrivals_r1 : List Cond := [Cond.constantLong RX5 159 (-4), Cond.constantLong RX5 165 (-6), Cond.methodLink RX5 99 yX5_isNode, Cond.instanceMethod yX5_isNode, Cond.selects RX5 yX5_isNode yX5_isNode, Cond.initialized RX5, Cond.code yX5_isNode cX5_isNode 2 (some .boolean), Cond.fieldLink RX5 82 "RotorRouterModel" "nodes" "I", Cond.methodLink RX5 56 yX5_within, Cond.static yX5_within, Cond.code yX5_within cX5_within 3 (some .boolean), Cond.methodLink RX5 161 yX5_expected, Cond.instanceMethod yX5_expected, Cond.selects RX5 yX5_expected yX5_expected, Cond.code yX5_expected cX5_expected 7 (some .long), Cond.fieldLink RX5 37 "RotorRouterModel" "chance" "[D", Cond.methodLink RX5 150 yX5_spread, Cond.instanceMethod yX5_spread, Cond.selects RX5 yX5_spread yX5_spread, Cond.code yX5_spread cX5_spread 3 none, Cond.fieldLink RX5 41 "RotorRouterModel" "after" "[D", Cond.fieldLink RX5 16 "RotorRouterModel" "degrees" "[I", Cond.fieldLink RX5 13 "RotorRouterModel" "table" "[I", Cond.methodLink RX5 153 yJxe99ae_doubleToLongBits_ccdee]
def wsX5_expectedArrivals_r2 : List Cond := [Cond.static yJxe99ae_doubleToLongBits_ccdee, Cond.initialized RJxe99ae, Cond.code yJxe99ae_doubleToLongBits_ccdee cJxe99ae_doubleToLongBits_ccdee 2 (some .long), Cond.methodLink RJxe99ae 134 ⟨"java/lang/Double", "doubleToRawLongBits", "(D)J"⟩, Cond.native ⟨"java/lang/Double", "doubleToRawLongBits", "(D)J"⟩, Cond.static ⟨"java/lang/Double", "doubleToRawLongBits", "(D)J"⟩, Cond.initialized "java/lang/Double", Cond.constantLong RJxe99ae 137 (9221120237041090560), Cond.methodLink RJxe99ae 122 yJxe99ae_isNaN_b9ae7, Cond.static yJxe99ae_isNaN_b9ae7, Cond.code yJxe99ae_isNaN_b9ae7 cJxe99ae_isNaN_b9ae7 2 (some .boolean)]
def wsX5_expectedArrivals : List Cond := .code yX5_expectedArrivals cX5_expectedArrivals 4 (some .long) :: ((wsX5_expectedArrivals_r1 ++ wsX5_expectedArrivals_r2) ++ wsX50)
def wsX5_snapshot : List Cond := .code yX5_snapshot cX5_snapshot 2 (some .int) :: ([.fieldLink RX5 82 "RotorRouterModel" "nodes" "I", .fieldLink RX5 95 "RotorRouterModel" "hasSnapshot" "Z", .fieldLink RX5 92 "RotorRouterModel" "walkers" "I", .fieldLink RX5 167 "RotorRouterModel" "keptWalkers" "I", .fieldLink RX5 19 "RotorRouterModel" "rotors" "[I", .fieldLink RX5 44 "RotorRouterModel" "keptRotors" "[I", .fieldLink RX5 25 "RotorRouterModel" "arrived" "[I", .fieldLink RX5 50 "RotorRouterModel" "keptArrived" "[I", .fieldLink RX5 47 "RotorRouterModel" "keptPlaces" "[I", .fieldLink RX5 22 "RotorRouterModel" "places" "[I", .fieldLink RX5 53 "RotorRouterModel" "keptDeparted" "[I", .fieldLink RX5 28 "RotorRouterModel" "departed" "[I", .methodLink RX5 121 yX5_copyRotors, .instanceMethod yX5_copyRotors, .selects RX5 yX5_copyRotors yX5_copyRotors, .initialized RX5, .code yX5_copyRotors cX5_copyRotors 4 none] ++ wsX50)
def wsX5_restore : List Cond := .code yX5_restore cX5_restore 2 (some .int) :: ([.fieldLink RX5 95 "RotorRouterModel" "hasSnapshot" "Z", .fieldLink RX5 167 "RotorRouterModel" "keptWalkers" "I", .fieldLink RX5 92 "RotorRouterModel" "walkers" "I", .fieldLink RX5 44 "RotorRouterModel" "keptRotors" "[I", .fieldLink RX5 19 "RotorRouterModel" "rotors" "[I", .fieldLink RX5 50 "RotorRouterModel" "keptArrived" "[I", .fieldLink RX5 25 "RotorRouterModel" "arrived" "[I", .fieldLink RX5 22 "RotorRouterModel" "places" "[I", .fieldLink RX5 47 "RotorRouterModel" "keptPlaces" "[I", .fieldLink RX5 28 "RotorRouterModel" "departed" "[I", .fieldLink RX5 53 "RotorRouterModel" "keptDeparted" "[I", .methodLink RX5 121 yX5_copyRotors, .instanceMethod yX5_copyRotors, .selects RX5 yX5_copyRotors yX5_copyRotors, .initialized RX5, .code yX5_copyRotors cX5_copyRotors 4 none] ++ wsX50)
def wsX5_walkerCount : List Cond := .code yX5_walkerCount cX5_walkerCount 1 (some .int) :: ([.fieldLink RX5 92 "RotorRouterModel" "walkers" "I"] ++ wsX50)
def wsX5_linkCount : List Cond := .code yX5_linkCount cX5_linkCount 1 (some .int) :: ([.fieldLink RX5 85 "RotorRouterModel" "links" "I"] ++ wsX50)
def wsX5_mix : List Cond := .code yX5_mix cX5_mix 3 none :: ([.constantLong RX5 170 (31), .fieldLink RX5 172 "RotorRouterModel" "hash" "J"] ++ wsX50)
def wsX5_mixNode : List Cond := .code yX5_mixNode cX5_mixNode 3 none :: ([.fieldLink RX5 16 "RotorRouterModel" "degrees" "[I", .fieldLink RX5 19 "RotorRouterModel" "rotors" "[I", .fieldLink RX5 25 "RotorRouterModel" "arrived" "[I", .fieldLink RX5 13 "RotorRouterModel" "table" "[I", .fieldLink RX5 28 "RotorRouterModel" "departed" "[I", .methodLink RX5 176 yX5_mix, .instanceMethod yX5_mix, .selects RX5 yX5_mix yX5_mix, .initialized RX5, .code yX5_mix cX5_mix 3 none, .constantLong RX5 170 (31), .fieldLink RX5 172 "RotorRouterModel" "hash" "J"] ++ wsX50)
def wsX5_digest_r1 : List Cond := [Cond.constantLong RX5 180 (1753), Cond.fieldLink RX5 172 "RotorRouterModel" "hash" "J", Cond.fieldLink RX5 82 "RotorRouterModel" "nodes" "I", Cond.fieldLink RX5 85 "RotorRouterModel" "links" "I", Cond.fieldLink RX5 92 "RotorRouterModel" "walkers" "I", Cond.fieldLink RX5 22 "RotorRouterModel" "places" "[I", Cond.fieldLink RX5 60 "RotorRouterModel" "length" "I", Cond.fieldLink RX5 7 "RotorRouterModel" "buffer" "[I", Cond.methodLink RX5 176 yX5_mix, Cond.instanceMethod yX5_mix, Cond.selects RX5 yX5_mix yX5_mix, Cond.initialized RX5, Cond.code yX5_mix cX5_mix 3 none, Cond.constantLong RX5 170 (31), Cond.methodLink RX5 182 yX5_mixNode, Cond.instanceMethod yX5_mixNode, Cond.selects RX5 yX5_mixNode yX5_mixNode, Cond.code yX5_mixNode cX5_mixNode 3 none, Cond.fieldLink RX5 16 "RotorRouterModel" "degrees" "[I", Cond.fieldLink RX5 19 "RotorRouterModel" "rotors" "[I", Cond.fieldLink RX5 25 "RotorRouterModel" "arrived" "[I", Cond.fieldLink RX5 13 "RotorRouterModel" "table" "[I", Cond.fieldLink RX5 28 "RotorRouterModel" "departed" "[I", Cond.methodLink RX5 128 yX5_cycleOf]
def wsX5_digest_r2 : List Cond := [Cond.instanceMethod yX5_cycleOf, Cond.selects RX5 yX5_cycleOf yX5_cycleOf, Cond.code yX5_cycleOf cX5_cycleOf 5 (some .int), Cond.fieldLink RX5 31 "RotorRouterModel" "first" "[I", Cond.fieldLink RX5 34 "RotorRouterModel" "second" "[I", Cond.methodLink RX5 121 yX5_copyRotors, Cond.instanceMethod yX5_copyRotors, Cond.selects RX5 yX5_copyRotors yX5_copyRotors, Cond.code yX5_copyRotors cX5_copyRotors 4 none, Cond.methodLink RX5 109 yX5_go, Cond.instanceMethod yX5_go, Cond.selects RX5 yX5_go yX5_go, Cond.code yX5_go cX5_go 4 (some .int), Cond.methodLink RX5 125 yX5_areEqual, Cond.instanceMethod yX5_areEqual, Cond.selects RX5 yX5_areEqual yX5_areEqual, Cond.code yX5_areEqual cX5_areEqual 3 (some .boolean), Cond.methodLink RX5 134 yX5_coverOf, Cond.instanceMethod yX5_coverOf, Cond.selects RX5 yX5_coverOf yX5_coverOf, Cond.code yX5_coverOf cX5_coverOf 2 (some .int), Cond.methodLink RX5 131 yX5_coverFrom, Cond.instanceMethod yX5_coverFrom, Cond.selects RX5 yX5_coverFrom yX5_coverFrom]
def wsX5_digest_r3 : List Cond := [Cond.code yX5_coverFrom cX5_coverFrom 5 (some .int), Cond.methodLink RX5 137 yX5_assignments, Cond.instanceMethod yX5_assignments, Cond.selects RX5 yX5_assignments yX5_assignments, Cond.code yX5_assignments cX5_assignments 3 (some .int), Cond.methodLink RX5 147 yX5_leastFrom, Cond.instanceMethod yX5_leastFrom, Cond.selects RX5 yX5_leastFrom yX5_leastFrom, Cond.code yX5_leastFrom cX5_leastFrom 6 (some .int), Cond.constant RX5 140 (1073741824), Cond.fieldLink RX5 144 "RotorRouterModel" "bestCode" "I", Cond.methodLink RX5 141 yX5_layAssignment, Cond.instanceMethod yX5_layAssignment, Cond.selects RX5 yX5_layAssignment yX5_layAssignment, Cond.code yX5_layAssignment cX5_layAssignment 4 none, Cond.methodLink RX5 161 yX5_expected, Cond.instanceMethod yX5_expected, Cond.selects RX5 yX5_expected yX5_expected, Cond.code yX5_expected cX5_expected 7 (some .long), Cond.fieldLink RX5 37 "RotorRouterModel" "chance" "[D", Cond.methodLink RX5 150 yX5_spread, Cond.instanceMethod yX5_spread, Cond.selects RX5 yX5_spread yX5_spread, Cond.code yX5_spread cX5_spread 3 none]
def wsX5_digest_r4 : List Cond := [Cond.fieldLink RX5 41 "RotorRouterModel" "after" "[D", Cond.methodLink RX5 153 yJxe99ae_doubleToLongBits_ccdee, Cond.static yJxe99ae_doubleToLongBits_ccdee, Cond.initialized RJxe99ae, Cond.code yJxe99ae_doubleToLongBits_ccdee cJxe99ae_doubleToLongBits_ccdee 2 (some .long), Cond.methodLink RJxe99ae 134 ⟨"java/lang/Double", "doubleToRawLongBits", "(D)J"⟩, Cond.native ⟨"java/lang/Double", "doubleToRawLongBits", "(D)J"⟩, Cond.static ⟨"java/lang/Double", "doubleToRawLongBits", "(D)J"⟩, Cond.initialized "java/lang/Double", Cond.constantLong RJxe99ae 137 (9221120237041090560), Cond.methodLink RJxe99ae 122 yJxe99ae_isNaN_b9ae7, Cond.static yJxe99ae_isNaN_b9ae7, Cond.code yJxe99ae_isNaN_b9ae7 cJxe99ae_isNaN_b9ae7 2 (some .boolean)]
def wsX5_digest : List Cond := .code yX5_digest cX5_digest 2 (some .long) :: ((wsX5_digest_r1 ++ (wsX5_digest_r2 ++ (wsX5_digest_r3 ++ wsX5_digest_r4))) ++ wsX50)
def wsL_law_r1 : List Cond := [Cond.classLink RL 7 RX4, Cond.instantiable RX4 11, Cond.initialized RX4, Cond.classLink RL 10 RX5, Cond.instantiable RX5 23, Cond.initialized RX5, Cond.methodLink RL 9 yX4_init, Cond.instanceMethod yX4_init, Cond.code yX4_init cX4_init 1 none, Cond.methodLink RX4 3 objectInit, Cond.instanceMethod objectInit, Cond.code objectInit ⟨#[0xb1]⟩ 1 none, Cond.classLink RX4 9 RX1, Cond.instantiable RX1 2, Cond.initialized RX1, Cond.fieldLink RX4 12 "RotorRouter" "input" "LRotorRouter$InputText;", Cond.classLink RX4 16 RX0, Cond.instantiable RX0 4, Cond.initialized RX0, Cond.fieldLink RX4 19 "RotorRouter" "graph" "LRotorRouter$Graph;", Cond.classLink RX4 23 RX3, Cond.instantiable RX3 5, Cond.initialized RX3, Cond.fieldLink RX4 26 "RotorRouter" "current" "LRotorRouter$State;"]
def wsL_law_r2 : List Cond := [Cond.fieldLink RX4 30 "RotorRouter" "kept" "LRotorRouter$State;", Cond.fieldLink RX4 33 "RotorRouter" "hasKept" "Z", Cond.classLink RX4 37 RX2, Cond.instantiable RX2 2, Cond.initialized RX2, Cond.fieldLink RX4 40 "RotorRouter" "probe" "LRotorRouter$Probe;", Cond.fieldLink RX4 44 "RotorRouter" "probeAhead" "LRotorRouter$Probe;", Cond.arrayClass .int, Cond.fieldLink RX4 47 "RotorRouter" "trialRotors" "[I", Cond.fieldLink RX4 51 "RotorRouter" "bestRotors" "[I", Cond.arrayClass .double, Cond.fieldLink RX4 54 "RotorRouter" "chances" "[D", Cond.fieldLink RX4 58 "RotorRouter" "nextChances" "[D", Cond.instanceMethod yX1_init, Cond.code yX1_init cX1_init 1 none, Cond.methodLink RX1 5 objectInit, Cond.fieldLink RX1 11 "RotorRouter$InputText" "codes" "[I", Cond.fieldLink RX1 15 "RotorRouter$InputText" "length" "I", Cond.instanceMethod yX0_init, Cond.code yX0_init cX0_init 1 none, Cond.methodLink RX0 3 objectInit, Cond.fieldLink RX0 9 "RotorRouter$Graph" "degrees" "[I", Cond.fieldLink RX0 15 "RotorRouter$Graph" "neighbors" "[I", Cond.fieldLink RX0 18 "RotorRouter$Graph" "nodes" "I"]
def wsL_law_r3 : List Cond := [Cond.fieldLink RX0 22 "RotorRouter$Graph" "links" "I", Cond.instanceMethod yX3_init, Cond.code yX3_init cX3_init 1 none, Cond.methodLink RX3 3 objectInit, Cond.fieldLink RX3 9 "RotorRouter$State" "rotors" "[I", Cond.fieldLink RX3 15 "RotorRouter$State" "arrived" "[I", Cond.fieldLink RX3 18 "RotorRouter$State" "departed" "[I", Cond.fieldLink RX3 21 "RotorRouter$State" "positions" "[I", Cond.fieldLink RX3 24 "RotorRouter$State" "walkers" "I", Cond.instanceMethod yX2_init, Cond.code yX2_init cX2_init 1 none, Cond.methodLink RX2 3 objectInit, Cond.fieldLink RX2 9 "RotorRouter$Probe" "rotors" "[I", Cond.fieldLink RX2 15 "RotorRouter$Probe" "node" "I", Cond.methodLink RL 12 yX5_init, Cond.instanceMethod yX5_init, Cond.code yX5_init cX5_init 1 none, Cond.methodLink RX5 1 objectInit, Cond.fieldLink RX5 7 "RotorRouterModel" "buffer" "[I", Cond.fieldLink RX5 13 "RotorRouterModel" "table" "[I", Cond.fieldLink RX5 16 "RotorRouterModel" "degrees" "[I", Cond.fieldLink RX5 19 "RotorRouterModel" "rotors" "[I", Cond.fieldLink RX5 22 "RotorRouterModel" "places" "[I", Cond.fieldLink RX5 25 "RotorRouterModel" "arrived" "[I"]
def wsL_law_r4 : List Cond := [Cond.fieldLink RX5 28 "RotorRouterModel" "departed" "[I", Cond.fieldLink RX5 31 "RotorRouterModel" "first" "[I", Cond.fieldLink RX5 34 "RotorRouterModel" "second" "[I", Cond.fieldLink RX5 37 "RotorRouterModel" "chance" "[D", Cond.fieldLink RX5 41 "RotorRouterModel" "after" "[D", Cond.fieldLink RX5 44 "RotorRouterModel" "keptRotors" "[I", Cond.fieldLink RX5 47 "RotorRouterModel" "keptPlaces" "[I", Cond.fieldLink RX5 50 "RotorRouterModel" "keptArrived" "[I", Cond.fieldLink RX5 53 "RotorRouterModel" "keptDeparted" "[I", Cond.methodLink RL 13 yX4_append, Cond.instanceMethod yX4_append, Cond.selects RX4 yX4_append yX4_append, Cond.code yX4_append cX4_append 2 (some .int), Cond.fieldLink RX4 61 "RotorRouter$InputText" "length" "I", Cond.fieldLink RX4 65 "RotorRouter$InputText" "codes" "[I", Cond.methodLink RL 17 yX5_append, Cond.instanceMethod yX5_append, Cond.selects RX5 yX5_append yX5_append, Cond.code yX5_append cX5_append 2 (some .int), Cond.fieldLink RX5 60 "RotorRouterModel" "length" "I", Cond.methodLink RX5 56 yX5_within, Cond.static yX5_within, Cond.code yX5_within cX5_within 3 (some .boolean), Cond.methodLink RL 18 yX4_clearInput]
def wsL_law_r5 : List Cond := [Cond.instanceMethod yX4_clearInput, Cond.selects RX4 yX4_clearInput yX4_clearInput, Cond.code yX4_clearInput cX4_clearInput 2 (some .int), Cond.methodLink RL 22 yX5_clearInput, Cond.instanceMethod yX5_clearInput, Cond.selects RX5 yX5_clearInput yX5_clearInput, Cond.code yX5_clearInput cX5_clearInput 2 (some .int), Cond.methodLink RL 23 yX4_firstError, Cond.instanceMethod yX4_firstError, Cond.selects RX4 yX4_firstError yX4_firstError, Cond.code yX4_firstError cX4_firstError 1 (some .int), Cond.methodLink RX4 68 yX1_firstBrokenIndex, Cond.instanceMethod yX1_firstBrokenIndex, Cond.selects RX1 yX1_firstBrokenIndex yX1_firstBrokenIndex, Cond.code yX1_firstBrokenIndex cX1_firstBrokenIndex 2 (some .int), Cond.methodLink RX1 19 yX1_keepsRules, Cond.instanceMethod yX1_keepsRules, Cond.selects RX1 yX1_keepsRules yX1_keepsRules, Cond.code yX1_keepsRules cX1_keepsRules 4 (some .boolean), Cond.methodLink RX1 23 yX1_placeInGroup, Cond.static yX1_placeInGroup, Cond.code yX1_placeInGroup cX1_placeInGroup 1 (some .int), Cond.methodLink RX1 43 yX1_isNode, Cond.instanceMethod yX1_isNode]
def wsL_law_r6 : List Cond := [Cond.selects RX1 yX1_isNode yX1_isNode, Cond.code yX1_isNode cX1_isNode 2 (some .boolean), Cond.methodLink RX1 46 yX1_isNewLink, Cond.instanceMethod yX1_isNewLink, Cond.selects RX1 yX1_isNewLink yX1_isNewLink, Cond.code yX1_isNewLink cX1_isNewLink 7 (some .boolean), Cond.methodLink RL 26 yX5_firstError, Cond.instanceMethod yX5_firstError, Cond.selects RX5 yX5_firstError yX5_firstError, Cond.code yX5_firstError cX5_firstError 1 (some .int), Cond.methodLink RX5 74 yX5_rightLength, Cond.instanceMethod yX5_rightLength, Cond.selects RX5 yX5_rightLength yX5_rightLength, Cond.code yX5_rightLength cX5_rightLength 2 (some .int), Cond.methodLink RX5 71 yX5_isRight, Cond.instanceMethod yX5_isRight, Cond.selects RX5 yX5_isRight yX5_isRight, Cond.code yX5_isRight cX5_isRight 3 (some .boolean), Cond.methodLink RX5 64 yX5_isNodeDigit, Cond.instanceMethod yX5_isNodeDigit, Cond.selects RX5 yX5_isNodeDigit yX5_isNodeDigit, Cond.code yX5_isNodeDigit cX5_isNodeDigit 2 (some .boolean), Cond.methodLink RX5 68 yX5_isSecondNode, Cond.instanceMethod yX5_isSecondNode]
def wsL_law_r7 : List Cond := [Cond.selects RX5 yX5_isSecondNode yX5_isSecondNode, Cond.code yX5_isSecondNode cX5_isSecondNode 7 (some .boolean), Cond.methodLink RL 27 yX4_load, Cond.instanceMethod yX4_load, Cond.selects RX4 yX4_load yX4_load, Cond.code yX4_load cX4_load 1 (some .int), Cond.fieldLink RX4 86 "RotorRouter$Graph" "nodes" "I", Cond.methodLink RX4 72 yX1_isComplete, Cond.instanceMethod yX1_isComplete, Cond.selects RX1 yX1_isComplete yX1_isComplete, Cond.code yX1_isComplete cX1_isComplete 1 (some .boolean), Cond.methodLink RX1 27 yX1_firstBrokenIndex, Cond.methodLink RX4 76 yX1_isConnected, Cond.instanceMethod yX1_isConnected, Cond.selects RX1 yX1_isConnected yX1_isConnected, Cond.code yX1_isConnected cX1_isConnected 5 (some .boolean), Cond.methodLink RX1 31 yX1_nodes, Cond.instanceMethod yX1_nodes, Cond.selects RX1 yX1_nodes yX1_nodes, Cond.code yX1_nodes cX1_nodes 1 (some .int), Cond.methodLink RX1 34 yX1_links, Cond.instanceMethod yX1_links, Cond.selects RX1 yX1_links yX1_links, Cond.code yX1_links cX1_links 1 (some .int)]
def wsL_law_r8 : List Cond := [Cond.methodLink RX1 37 yX1_firstNode, Cond.instanceMethod yX1_firstNode, Cond.selects RX1 yX1_firstNode yX1_firstNode, Cond.code yX1_firstNode cX1_firstNode 2 (some .int), Cond.methodLink RX1 40 yX1_secondNode, Cond.instanceMethod yX1_secondNode, Cond.selects RX1 yX1_secondNode yX1_secondNode, Cond.code yX1_secondNode cX1_secondNode 2 (some .int), Cond.methodLink RX4 79 yX0_build, Cond.instanceMethod yX0_build, Cond.selects RX0 yX0_build yX0_build, Cond.code yX0_build cX0_build 5 none, Cond.methodLink RX0 25 yX1_nodes, Cond.methodLink RX0 30 yX1_links, Cond.methodLink RX0 32 yX1_firstNode, Cond.methodLink RX0 36 yX1_secondNode, Cond.methodLink RX0 39 yX0_addNeighbor, Cond.instanceMethod yX0_addNeighbor, Cond.selects RX0 yX0_addNeighbor yX0_addNeighbor, Cond.code yX0_addNeighbor cX0_addNeighbor 3 none, Cond.methodLink RX0 47 yX0_slot, Cond.static yX0_slot, Cond.code yX0_slot cX0_slot 2 (some .int), Cond.methodLink RX4 83 yX3_reset]
def wsL_law_r9 : List Cond := [Cond.instanceMethod yX3_reset, Cond.selects RX3 yX3_reset yX3_reset, Cond.code yX3_reset cX3_reset 2 none, Cond.methodLink RL 30 yX5_load, Cond.instanceMethod yX5_load, Cond.selects RX5 yX5_load yX5_load, Cond.code yX5_load cX5_load 2 (some .int), Cond.fieldLink RX5 82 "RotorRouterModel" "nodes" "I", Cond.fieldLink RX5 85 "RotorRouterModel" "links" "I", Cond.fieldLink RX5 92 "RotorRouterModel" "walkers" "I", Cond.fieldLink RX5 95 "RotorRouterModel" "hasSnapshot" "Z", Cond.methodLink RX5 78 yX5_isConnected, Cond.instanceMethod yX5_isConnected, Cond.selects RX5 yX5_isConnected yX5_isConnected, Cond.code yX5_isConnected cX5_isConnected 5 (some .boolean), Cond.methodLink RX5 88 yX5_join, Cond.instanceMethod yX5_join, Cond.selects RX5 yX5_join yX5_join, Cond.code yX5_join cX5_join 3 none, Cond.methodLink RL 31 yX4_degree, Cond.instanceMethod yX4_degree, Cond.selects RX4 yX4_degree yX4_degree, Cond.code yX4_degree cX4_degree 2 (some .int), Cond.fieldLink RX4 93 "RotorRouter$Graph" "degrees" "[I"]
def wsL_law_r10 : List Cond := [Cond.methodLink RX4 89 yX0_hasNode, Cond.instanceMethod yX0_hasNode, Cond.selects RX0 yX0_hasNode yX0_hasNode, Cond.code yX0_hasNode cX0_hasNode 2 (some .boolean), Cond.methodLink RL 34 yX5_degree, Cond.instanceMethod yX5_degree, Cond.selects RX5 yX5_degree yX5_degree, Cond.code yX5_degree cX5_degree 2 (some .int), Cond.methodLink RX5 99 yX5_isNode, Cond.instanceMethod yX5_isNode, Cond.selects RX5 yX5_isNode yX5_isNode, Cond.code yX5_isNode cX5_isNode 2 (some .boolean), Cond.methodLink RL 35 yX4_neighbor, Cond.instanceMethod yX4_neighbor, Cond.selects RX4 yX4_neighbor yX4_neighbor, Cond.code yX4_neighbor cX4_neighbor 4 (some .int), Cond.fieldLink RX4 100 "RotorRouter$Graph" "neighbors" "[I", Cond.methodLink RX4 96 yX0_neighborError, Cond.instanceMethod yX0_neighborError, Cond.selects RX0 yX0_neighborError yX0_neighborError, Cond.code yX0_neighborError cX0_neighborError 3 (some .int), Cond.methodLink RX0 43 yX0_hasNode, Cond.methodLink RX4 103 yX0_slot, Cond.methodLink RL 39 yX5_neighbor]
def wsL_law_r11 : List Cond := [Cond.instanceMethod yX5_neighbor, Cond.selects RX5 yX5_neighbor yX5_neighbor, Cond.code yX5_neighbor cX5_neighbor 4 (some .int), Cond.methodLink RX5 102 yX5_errorOf, Cond.instanceMethod yX5_errorOf, Cond.selects RX5 yX5_errorOf yX5_errorOf, Cond.code yX5_errorOf cX5_errorOf 3 (some .int), Cond.methodLink RL 40 yX4_rotor, Cond.instanceMethod yX4_rotor, Cond.selects RX4 yX4_rotor yX4_rotor, Cond.code yX4_rotor cX4_rotor 2 (some .int), Cond.fieldLink RX4 106 "RotorRouter$State" "rotors" "[I", Cond.methodLink RL 43 yX5_rotor, Cond.instanceMethod yX5_rotor, Cond.selects RX5 yX5_rotor yX5_rotor, Cond.code yX5_rotor cX5_rotor 2 (some .int), Cond.methodLink RL 44 yX4_setRotor, Cond.instanceMethod yX4_setRotor, Cond.selects RX4 yX4_setRotor yX4_setRotor, Cond.code yX4_setRotor cX4_setRotor 5 (some .int), Cond.methodLink RL 47 yX5_setRotor, Cond.instanceMethod yX5_setRotor, Cond.selects RX5 yX5_setRotor yX5_setRotor, Cond.code yX5_setRotor cX5_setRotor 5 (some .int)]
def wsL_law_r12 : List Cond := [Cond.methodLink RL 48 yX4_addWalker, Cond.instanceMethod yX4_addWalker, Cond.selects RX4 yX4_addWalker yX4_addWalker, Cond.code yX4_addWalker cX4_addWalker 3 (some .int), Cond.fieldLink RX4 109 "RotorRouter$State" "walkers" "I", Cond.fieldLink RX4 112 "RotorRouter$State" "positions" "[I", Cond.methodLink RL 51 yX5_addWalker, Cond.instanceMethod yX5_addWalker, Cond.selects RX5 yX5_addWalker yX5_addWalker, Cond.code yX5_addWalker cX5_addWalker 2 (some .int), Cond.methodLink RL 52 yX4_position, Cond.instanceMethod yX4_position, Cond.selects RX4 yX4_position yX4_position, Cond.code yX4_position cX4_position 2 (some .int), Cond.methodLink RX4 115 yX3_hasWalker, Cond.instanceMethod yX3_hasWalker, Cond.selects RX3 yX3_hasWalker yX3_hasWalker, Cond.code yX3_hasWalker cX3_hasWalker 2 (some .boolean), Cond.methodLink RL 55 yX5_position, Cond.instanceMethod yX5_position, Cond.selects RX5 yX5_position yX5_position, Cond.code yX5_position cX5_position 2 (some .int), Cond.methodLink RX5 106 yX5_isWalker, Cond.instanceMethod yX5_isWalker]
def wsL_law_r13 : List Cond := [Cond.selects RX5 yX5_isWalker yX5_isWalker, Cond.code yX5_isWalker cX5_isWalker 2 (some .boolean), Cond.methodLink RL 56 yX4_step, Cond.instanceMethod yX4_step, Cond.selects RX4 yX4_step yX4_step, Cond.code yX4_step cX4_step 4 (some .int), Cond.methodLink RX4 118 yX3_move, Cond.instanceMethod yX3_move, Cond.selects RX3 yX3_move yX3_move, Cond.code yX3_move cX3_move 6 none, Cond.fieldLink RX3 40 "RotorRouter$Graph" "neighbors" "[I", Cond.methodLink RX3 34 yX0_slot, Cond.methodLink RX3 43 yX0_rotorAfter, Cond.instanceMethod yX0_rotorAfter, Cond.selects RX0 yX0_rotorAfter yX0_rotorAfter, Cond.code yX0_rotorAfter cX0_rotorAfter 4 (some .int), Cond.methodLink RL 59 yX5_step, Cond.instanceMethod yX5_step, Cond.selects RX5 yX5_step yX5_step, Cond.code yX5_step cX5_step 4 (some .int), Cond.methodLink RX5 113 yX5_stepOnce, Cond.instanceMethod yX5_stepOnce, Cond.selects RX5 yX5_stepOnce yX5_stepOnce, Cond.code yX5_stepOnce cX5_stepOnce 3 none]
def wsL_law_r14 : List Cond := [Cond.methodLink RX5 109 yX5_go, Cond.instanceMethod yX5_go, Cond.selects RX5 yX5_go yX5_go, Cond.code yX5_go cX5_go 4 (some .int), Cond.methodLink RL 60 yX4_absorb, Cond.instanceMethod yX4_absorb, Cond.selects RX4 yX4_absorb yX4_absorb, Cond.code yX4_absorb cX4_absorb 3 (some .int), Cond.methodLink RX4 122 yX4_absorbInTurns, Cond.instanceMethod yX4_absorbInTurns, Cond.selects RX4 yX4_absorbInTurns yX4_absorbInTurns, Cond.code yX4_absorbInTurns cX4_absorbInTurns 5 (some .int), Cond.constant RX4 145 (1000000), Cond.methodLink RX4 198 yX4_makePass, Cond.instanceMethod yX4_makePass, Cond.selects RX4 yX4_makePass yX4_makePass, Cond.code yX4_makePass cX4_makePass 4 (some .int), Cond.methodLink RX4 126 yX4_absorbOneByOne, Cond.instanceMethod yX4_absorbOneByOne, Cond.selects RX4 yX4_absorbOneByOne yX4_absorbOneByOne, Cond.code yX4_absorbOneByOne cX4_absorbOneByOne 4 (some .int), Cond.methodLink RL 64 yX5_absorb, Cond.instanceMethod yX5_absorb, Cond.selects RX5 yX5_absorb yX5_absorb]
def wsL_law_r15 : List Cond := [Cond.code yX5_absorb cX5_absorb 5 (some .int), Cond.methodLink RX5 117 yX5_pass, Cond.instanceMethod yX5_pass, Cond.selects RX5 yX5_pass yX5_pass, Cond.code yX5_pass cX5_pass 4 (some .int), Cond.methodLink RL 65 yX4_arrivals, Cond.instanceMethod yX4_arrivals, Cond.selects RX4 yX4_arrivals yX4_arrivals, Cond.code yX4_arrivals cX4_arrivals 2 (some .int), Cond.fieldLink RX4 129 "RotorRouter$State" "arrived" "[I", Cond.methodLink RL 68 yX5_arrivals, Cond.instanceMethod yX5_arrivals, Cond.selects RX5 yX5_arrivals yX5_arrivals, Cond.code yX5_arrivals cX5_arrivals 2 (some .int), Cond.methodLink RL 69 yX4_departures, Cond.instanceMethod yX4_departures, Cond.selects RX4 yX4_departures yX4_departures, Cond.code yX4_departures cX4_departures 4 (some .int), Cond.fieldLink RX4 132 "RotorRouter$State" "departed" "[I", Cond.methodLink RL 72 yX5_departures, Cond.instanceMethod yX5_departures, Cond.selects RX5 yX5_departures yX5_departures, Cond.code yX5_departures cX5_departures 4 (some .int), Cond.methodLink RL 73 yX4_stepsToCycle]
def wsL_law_r16 : List Cond := [Cond.instanceMethod yX4_stepsToCycle, Cond.selects RX4 yX4_stepsToCycle yX4_stepsToCycle, Cond.code yX4_stepsToCycle cX4_stepsToCycle 4 (some .int), Cond.fieldLink RX4 135 "RotorRouter$Graph" "links" "I", Cond.methodLink RX4 138 yX2_start, Cond.instanceMethod yX2_start, Cond.selects RX2 yX2_start yX2_start, Cond.code yX2_start cX2_start 3 none, Cond.methodLink RX2 19 arraycopyName, Cond.native arraycopyName, Cond.static arraycopyName, Cond.initialized "java/lang/System", Cond.methodLink RX4 142 yX2_move, Cond.instanceMethod yX2_move, Cond.selects RX2 yX2_move yX2_move, Cond.code yX2_move cX2_move 3 none, Cond.fieldLink RX2 25 "RotorRouter$Graph" "neighbors" "[I", Cond.methodLink RX2 30 yX0_slot, Cond.methodLink RX2 34 yX0_rotorAfter, Cond.methodLink RX4 146 yX2_isSameAs, Cond.instanceMethod yX2_isSameAs, Cond.selects RX2 yX2_isSameAs yX2_isSameAs, Cond.code yX2_isSameAs cX2_isSameAs 4 (some .boolean), Cond.methodLink RL 76 yX5_stepsToCycle]
def wsL_law_r17 : List Cond := [Cond.instanceMethod yX5_stepsToCycle, Cond.selects RX5 yX5_stepsToCycle yX5_stepsToCycle, Cond.code yX5_stepsToCycle cX5_stepsToCycle 2 (some .int), Cond.methodLink RX5 128 yX5_cycleOf, Cond.instanceMethod yX5_cycleOf, Cond.selects RX5 yX5_cycleOf yX5_cycleOf, Cond.code yX5_cycleOf cX5_cycleOf 5 (some .int), Cond.methodLink RX5 121 yX5_copyRotors, Cond.instanceMethod yX5_copyRotors, Cond.selects RX5 yX5_copyRotors yX5_copyRotors, Cond.code yX5_copyRotors cX5_copyRotors 4 none, Cond.methodLink RX5 125 yX5_areEqual, Cond.instanceMethod yX5_areEqual, Cond.selects RX5 yX5_areEqual yX5_areEqual, Cond.code yX5_areEqual cX5_areEqual 3 (some .boolean), Cond.methodLink RL 77 yX4_coverTime, Cond.instanceMethod yX4_coverTime, Cond.selects RX4 yX4_coverTime yX4_coverTime, Cond.code yX4_coverTime cX4_coverTime 2 (some .int), Cond.methodLink RX4 150 yX4_coverTimeBelow, Cond.instanceMethod yX4_coverTimeBelow, Cond.selects RX4 yX4_coverTimeBelow yX4_coverTimeBelow, Cond.code yX4_coverTimeBelow cX4_coverTimeBelow 7 (some .int), Cond.fieldLink RX4 201 "RotorRouter$Probe" "node" "I"]
def wsL_law_r18 : List Cond := [Cond.methodLink RL 80 yX5_coverTime, Cond.instanceMethod yX5_coverTime, Cond.selects RX5 yX5_coverTime yX5_coverTime, Cond.code yX5_coverTime cX5_coverTime 2 (some .int), Cond.methodLink RX5 134 yX5_coverOf, Cond.instanceMethod yX5_coverOf, Cond.selects RX5 yX5_coverOf yX5_coverOf, Cond.code yX5_coverOf cX5_coverOf 2 (some .int), Cond.methodLink RX5 131 yX5_coverFrom, Cond.instanceMethod yX5_coverFrom, Cond.selects RX5 yX5_coverFrom yX5_coverFrom, Cond.code yX5_coverFrom cX5_coverFrom 5 (some .int), Cond.methodLink RL 81 yX4_leastCoverTime, Cond.instanceMethod yX4_leastCoverTime, Cond.selects RX4 yX4_leastCoverTime yX4_leastCoverTime, Cond.code yX4_leastCoverTime cX4_leastCoverTime 2 (some .int), Cond.methodLink RX4 154 yX0_assignments, Cond.instanceMethod yX0_assignments, Cond.selects RX0 yX0_assignments yX0_assignments, Cond.code yX0_assignments cX0_assignments 3 (some .int), Cond.methodLink RX4 157 yX4_searchAssignments, Cond.instanceMethod yX4_searchAssignments, Cond.selects RX4 yX4_searchAssignments yX4_searchAssignments, Cond.code yX4_searchAssignments cX4_searchAssignments 7 (some .int)]
def wsL_law_r19 : List Cond := [Cond.methodLink RX4 204 arraycopyName, Cond.methodLink RX4 210 yX4_turnTrialRotors, Cond.instanceMethod yX4_turnTrialRotors, Cond.selects RX4 yX4_turnTrialRotors yX4_turnTrialRotors, Cond.code yX4_turnTrialRotors cX4_turnTrialRotors 2 none, Cond.methodLink RX4 213 yX0_rotorAfter, Cond.methodLink RL 84 yX5_leastCoverTime, Cond.instanceMethod yX5_leastCoverTime, Cond.selects RX5 yX5_leastCoverTime yX5_leastCoverTime, Cond.code yX5_leastCoverTime cX5_leastCoverTime 2 (some .int), Cond.methodLink RX5 137 yX5_assignments, Cond.instanceMethod yX5_assignments, Cond.selects RX5 yX5_assignments yX5_assignments, Cond.code yX5_assignments cX5_assignments 3 (some .int), Cond.methodLink RX5 147 yX5_leastFrom, Cond.instanceMethod yX5_leastFrom, Cond.selects RX5 yX5_leastFrom yX5_leastFrom, Cond.code yX5_leastFrom cX5_leastFrom 6 (some .int), Cond.constant RX5 140 (1073741824), Cond.fieldLink RX5 144 "RotorRouterModel" "bestCode" "I", Cond.methodLink RX5 141 yX5_layAssignment, Cond.instanceMethod yX5_layAssignment, Cond.selects RX5 yX5_layAssignment yX5_layAssignment, Cond.code yX5_layAssignment cX5_layAssignment 4 none]
def wsL_law_r20 : List Cond := [Cond.methodLink RL 85 yX4_bestRotor, Cond.instanceMethod yX4_bestRotor, Cond.selects RX4 yX4_bestRotor yX4_bestRotor, Cond.code yX4_bestRotor cX4_bestRotor 3 (some .int), Cond.methodLink RL 88 yX5_bestRotor, Cond.instanceMethod yX5_bestRotor, Cond.selects RX5 yX5_bestRotor yX5_bestRotor, Cond.code yX5_bestRotor cX5_bestRotor 4 (some .int), Cond.methodLink RL 89 yX4_expectedArrivals, Cond.instanceMethod yX4_expectedArrivals, Cond.selects RX4 yX4_expectedArrivals yX4_expectedArrivals, Cond.code yX4_expectedArrivals cX4_expectedArrivals 7 (some .long), Cond.constantLong RX4 160 (-4), Cond.constantLong RX4 162 (-6), Cond.methodLink RX4 164 yX4_spreadChances, Cond.instanceMethod yX4_spreadChances, Cond.selects RX4 yX4_spreadChances yX4_spreadChances, Cond.code yX4_spreadChances cX4_spreadChances 4 none, Cond.methodLink RX4 167 yX4_bitsOf, Cond.static yX4_bitsOf, Cond.code yX4_bitsOf cX4_bitsOf 7 (some .long), Cond.constantDouble RX4 216 (4611686018427387904), Cond.constantDouble RX4 218 (4841369599423283200), Cond.constantLong RX4 220 (4503599627370496)]
def wsL_law_r21 : List Cond := [Cond.methodLink RL 93 yX5_expectedArrivals, Cond.instanceMethod yX5_expectedArrivals, Cond.selects RX5 yX5_expectedArrivals yX5_expectedArrivals, Cond.code yX5_expectedArrivals cX5_expectedArrivals 4 (some .long), Cond.constantLong RX5 159 (-4), Cond.constantLong RX5 165 (-6), Cond.methodLink RX5 161 yX5_expected, Cond.instanceMethod yX5_expected, Cond.selects RX5 yX5_expected yX5_expected, Cond.code yX5_expected cX5_expected 7 (some .long), Cond.methodLink RX5 150 yX5_spread, Cond.instanceMethod yX5_spread, Cond.selects RX5 yX5_spread yX5_spread, Cond.code yX5_spread cX5_spread 3 none, Cond.methodLink RX5 153 yJxe99ae_doubleToLongBits_ccdee, Cond.static yJxe99ae_doubleToLongBits_ccdee, Cond.initialized RJxe99ae, Cond.code yJxe99ae_doubleToLongBits_ccdee cJxe99ae_doubleToLongBits_ccdee 2 (some .long), Cond.methodLink RJxe99ae 134 ⟨"java/lang/Double", "doubleToRawLongBits", "(D)J"⟩, Cond.native ⟨"java/lang/Double", "doubleToRawLongBits", "(D)J"⟩, Cond.static ⟨"java/lang/Double", "doubleToRawLongBits", "(D)J"⟩, Cond.initialized "java/lang/Double", Cond.constantLong RJxe99ae 137 (9221120237041090560), Cond.methodLink RJxe99ae 122 yJxe99ae_isNaN_b9ae7]
def wsL_law_r22 : List Cond := [Cond.static yJxe99ae_isNaN_b9ae7, Cond.code yJxe99ae_isNaN_b9ae7 cJxe99ae_isNaN_b9ae7 2 (some .boolean), Cond.methodLink RL 94 yX4_snapshot, Cond.instanceMethod yX4_snapshot, Cond.selects RX4 yX4_snapshot yX4_snapshot, Cond.code yX4_snapshot cX4_snapshot 1 (some .int), Cond.methodLink RX4 171 yX3_copyFrom, Cond.instanceMethod yX3_copyFrom, Cond.selects RX3 yX3_copyFrom yX3_copyFrom, Cond.code yX3_copyFrom cX3_copyFrom 2 none, Cond.methodLink RX3 28 arraycopyName, Cond.methodLink RL 97 yX5_snapshot, Cond.instanceMethod yX5_snapshot, Cond.selects RX5 yX5_snapshot yX5_snapshot, Cond.code yX5_snapshot cX5_snapshot 2 (some .int), Cond.fieldLink RX5 167 "RotorRouterModel" "keptWalkers" "I", Cond.methodLink RL 98 yX4_restore, Cond.instanceMethod yX4_restore, Cond.selects RX4 yX4_restore yX4_restore, Cond.code yX4_restore cX4_restore 1 (some .int), Cond.methodLink RL 101 yX5_restore, Cond.instanceMethod yX5_restore, Cond.selects RX5 yX5_restore yX5_restore, Cond.code yX5_restore cX5_restore 2 (some .int)]
def wsL_law_r23 : List Cond := [Cond.methodLink RL 102 yX4_walkerCount, Cond.instanceMethod yX4_walkerCount, Cond.selects RX4 yX4_walkerCount yX4_walkerCount, Cond.code yX4_walkerCount cX4_walkerCount 1 (some .int), Cond.methodLink RL 105 yX5_walkerCount, Cond.instanceMethod yX5_walkerCount, Cond.selects RX5 yX5_walkerCount yX5_walkerCount, Cond.code yX5_walkerCount cX5_walkerCount 1 (some .int), Cond.methodLink RL 106 yX4_linkCount, Cond.instanceMethod yX4_linkCount, Cond.selects RX4 yX4_linkCount yX4_linkCount, Cond.code yX4_linkCount cX4_linkCount 1 (some .int), Cond.methodLink RL 109 yX5_linkCount, Cond.instanceMethod yX5_linkCount, Cond.selects RX5 yX5_linkCount yX5_linkCount, Cond.code yX5_linkCount cX5_linkCount 1 (some .int), Cond.methodLink RL 110 yX4_digest, Cond.instanceMethod yX4_digest, Cond.selects RX4 yX4_digest yX4_digest, Cond.code yX4_digest cX4_digest 4 (some .long), Cond.constantLong RX4 175 (1753), Cond.methodLink RX4 177 yX4_hashed, Cond.static yX4_hashed, Cond.code yX4_hashed cX4_hashed 4 (some .long)]
def wsL_law_r24 : List Cond := [Cond.constantLong RX4 222 (31), Cond.methodLink RX4 181 yX4_hashedNode, Cond.instanceMethod yX4_hashedNode, Cond.selects RX4 yX4_hashedNode yX4_hashedNode, Cond.code yX4_hashedNode cX4_hashedNode 8 (some .long), Cond.methodLink RX4 185 yX4_stepsToCycle, Cond.methodLink RX4 188 yX4_coverTime, Cond.methodLink RX4 191 yX4_hashedAnalysis, Cond.instanceMethod yX4_hashedAnalysis, Cond.selects RX4 yX4_hashedAnalysis yX4_hashedAnalysis, Cond.code yX4_hashedAnalysis cX4_hashedAnalysis 5 (some .long), Cond.methodLink RX4 224 yX4_expectedArrivals, Cond.methodLink RX4 195 yX4_hashedInput, Cond.instanceMethod yX4_hashedInput, Cond.selects RX4 yX4_hashedInput yX4_hashedInput, Cond.code yX4_hashedInput cX4_hashedInput 6 (some .long), Cond.methodLink RL 114 yX5_digest, Cond.instanceMethod yX5_digest, Cond.selects RX5 yX5_digest yX5_digest, Cond.code yX5_digest cX5_digest 2 (some .long), Cond.constantLong RX5 180 (1753), Cond.fieldLink RX5 172 "RotorRouterModel" "hash" "J", Cond.methodLink RX5 176 yX5_mix, Cond.instanceMethod yX5_mix]
def wsL_law_r25 : List Cond := [Cond.selects RX5 yX5_mix yX5_mix, Cond.code yX5_mix cX5_mix 3 none, Cond.constantLong RX5 170 (31), Cond.methodLink RX5 182 yX5_mixNode, Cond.instanceMethod yX5_mixNode, Cond.selects RX5 yX5_mixNode yX5_mixNode, Cond.code yX5_mixNode cX5_mixNode 3 none]
def wsL_law : List Cond := (wsL_law_r1 ++ (wsL_law_r2 ++ (wsL_law_r3 ++ (wsL_law_r4 ++ (wsL_law_r5 ++ (wsL_law_r6 ++ (wsL_law_r7 ++ (wsL_law_r8 ++ (wsL_law_r9 ++ (wsL_law_r10 ++ (wsL_law_r11 ++ (wsL_law_r12 ++ (wsL_law_r13 ++ (wsL_law_r14 ++ (wsL_law_r15 ++ (wsL_law_r16 ++ (wsL_law_r17 ++ (wsL_law_r18 ++ (wsL_law_r19 ++ (wsL_law_r20 ++ (wsL_law_r21 ++ (wsL_law_r22 ++ (wsL_law_r23 ++ (wsL_law_r24 ++ wsL_law_r25)))))))))))))))))))))))) ++ wsX40 ++ wsX50 ++ wsX10 ++ wsX00 ++ wsX30 ++ wsX20 ++ ([] : List Cond)
abbrev vwCl : List vw_C := [(RX0, TX0, 4), (RX1, TX1, 2), (RX2, TX2, 2), (RX3, TX3, 5), (RX4, TX4, 11), (RX5, TX5, 23)]
end
section
theorem dX0_init_0 : decode cX0_init 0 = .ok (.aload_n 0, 1) := by decide +kernel
theorem dX0_init_1 : decode cX0_init 1 = .ok (.invokespecial 3, 3) := by decide +kernel
theorem dX0_init_4 : decode cX0_init 4 = .ok (.aload_n 0, 1) := by decide +kernel
theorem dX0_init_5 : decode cX0_init 5 = .ok (.bipush 8, 2) := by decide +kernel
theorem dX0_init_7 : decode cX0_init 7 = .ok (.newarray .int, 2) := by decide +kernel
theorem dX0_init_9 : decode cX0_init 9 = .ok (.putfield 9, 3) := by decide +kernel
theorem dX0_init_12 : decode cX0_init 12 = .ok (.aload_n 0, 1) := by decide +kernel
theorem dX0_init_13 : decode cX0_init 13 = .ok (.bipush 56, 2) := by decide +kernel
theorem dX0_init_15 : decode cX0_init 15 = .ok (.newarray .int, 2) := by decide +kernel
theorem dX0_init_17 : decode cX0_init 17 = .ok (.putfield 15, 3) := by decide +kernel
theorem dX0_init_20 : decode cX0_init 20 = .ok (.aload_n 0, 1) := by decide +kernel
theorem dX0_init_21 : decode cX0_init 21 = .ok (.iconst 0, 1) := by decide +kernel
theorem dX0_init_22 : decode cX0_init 22 = .ok (.putfield 18, 3) := by decide +kernel
theorem dX0_init_25 : decode cX0_init 25 = .ok (.aload_n 0, 1) := by decide +kernel
theorem dX0_init_26 : decode cX0_init 26 = .ok (.iconst 0, 1) := by decide +kernel
theorem dX0_init_27 : decode cX0_init 27 = .ok (.putfield 22, 3) := by decide +kernel
theorem dX0_init_30 : decode cX0_init 30 = .ok (.return_, 1) := by decide +kernel
theorem dX0_slot_0 : decode cX0_slot 0 = .ok (.iload_n 0, 1) := by decide +kernel
theorem dX0_slot_1 : decode cX0_slot 1 = .ok (.bipush 7, 2) := by decide +kernel
theorem dX0_slot_3 : decode cX0_slot 3 = .ok (.imul, 1) := by decide +kernel
theorem dX0_slot_4 : decode cX0_slot 4 = .ok (.iload_n 1, 1) := by decide +kernel
theorem dX0_slot_5 : decode cX0_slot 5 = .ok (.iadd, 1) := by decide +kernel
theorem dX0_slot_6 : decode cX0_slot 6 = .ok (.ireturn, 1) := by decide +kernel
set_option maxRecDepth 20000 in
theorem ggX0_build_X1_nodes : GoodIn wsX0_build wsX1_nodes := goodIn_r _ [8, 9, 36, 37] rfl (by decide +kernel)
set_option maxRecDepth 20000 in
theorem gX0_build_X1_nodes : GoodIn wsX0_build (wsV RX0 25 RX1 yX1_nodes wsX1_nodes) := goodIn_app (goodIn_of _ (by decide +kernel)) ggX0_build_X1_nodes
set_option maxRecDepth 20000 in
theorem ggX0_build_X1_links : GoodIn wsX0_build wsX1_links := goodIn_r _ [13, 14, 36, 37] rfl (by decide +kernel)
set_option maxRecDepth 20000 in
theorem gX0_build_X1_links : GoodIn wsX0_build (wsV RX0 30 RX1 yX1_links wsX1_links) := goodIn_app (goodIn_of _ (by decide +kernel)) ggX0_build_X1_links
set_option maxRecDepth 20000 in
theorem ggX0_build_X1_firstNode : GoodIn wsX0_build wsX1_firstNode := goodIn_r _ [18, 9, 36, 37] rfl (by decide +kernel)
set_option maxRecDepth 20000 in
theorem gX0_build_X1_firstNode : GoodIn wsX0_build (wsV RX0 32 RX1 yX1_firstNode wsX1_firstNode) := goodIn_app (goodIn_of _ (by decide +kernel)) ggX0_build_X1_firstNode
set_option maxRecDepth 20000 in
theorem ggX0_build_X1_secondNode : GoodIn wsX0_build wsX1_secondNode := goodIn_r _ [22, 9, 36, 37] rfl (by decide +kernel)
set_option maxRecDepth 20000 in
theorem gX0_build_X1_secondNode : GoodIn wsX0_build (wsV RX0 36 RX1 yX1_secondNode wsX1_secondNode) := goodIn_app (goodIn_of _ (by decide +kernel)) ggX0_build_X1_secondNode
set_option maxRecDepth 20000 in
theorem ggX0_build_X0_addNeighbor : GoodIn wsX0_build wsX0_addNeighbor := goodIn_r _ [27, 28, 3, 29, 30, 26, 31, 32, 33, 34, 35] rfl (by decide +kernel)
set_option maxRecDepth 20000 in
theorem gX0_build_X0_addNeighbor : GoodIn wsX0_build (wsV RX0 39 RX0 yX0_addNeighbor wsX0_addNeighbor) := goodIn_app (goodIn_of _ (by decide +kernel)) ggX0_build_X0_addNeighbor
theorem dX0_build_0 : decode cX0_build 0 = .ok (.aload_n 0, 1) := by decide +kernel
theorem dX0_build_1 : decode cX0_build 1 = .ok (.aload_n 1, 1) := by decide +kernel
theorem dX0_build_2 : decode cX0_build 2 = .ok (.invokevirtual 25, 3) := by decide +kernel
theorem dX0_build_5 : decode cX0_build 5 = .ok (.putfield 18, 3) := by decide +kernel
theorem dX0_build_8 : decode cX0_build 8 = .ok (.aload_n 0, 1) := by decide +kernel
theorem dX0_build_9 : decode cX0_build 9 = .ok (.aload_n 1, 1) := by decide +kernel
theorem dX0_build_10 : decode cX0_build 10 = .ok (.invokevirtual 30, 3) := by decide +kernel
theorem dX0_build_13 : decode cX0_build 13 = .ok (.putfield 22, 3) := by decide +kernel
theorem dX0_build_16 : decode cX0_build 16 = .ok (.iconst 0, 1) := by decide +kernel
theorem dX0_build_17 : decode cX0_build 17 = .ok (.istore_n 2, 1) := by decide +kernel
theorem dX0_build_18 : decode cX0_build 18 = .ok (.iload_n 2, 1) := by decide +kernel
theorem dX0_build_19 : decode cX0_build 19 = .ok (.bipush 8, 2) := by decide +kernel
theorem dX0_build_21 : decode cX0_build 21 = .ok (.if_icmp .ge 16, 3) := by decide +kernel
theorem dX0_build_24 : decode cX0_build 24 = .ok (.aload_n 0, 1) := by decide +kernel
theorem dX0_build_25 : decode cX0_build 25 = .ok (.getfield 9, 3) := by decide +kernel
theorem dX0_build_28 : decode cX0_build 28 = .ok (.iload_n 2, 1) := by decide +kernel
theorem dX0_build_29 : decode cX0_build 29 = .ok (.iconst 0, 1) := by decide +kernel
theorem dX0_build_30 : decode cX0_build 30 = .ok (.iastore, 1) := by decide +kernel
theorem dX0_build_31 : decode cX0_build 31 = .ok (.iinc 2 1, 3) := by decide +kernel
theorem dX0_build_34 : decode cX0_build 34 = .ok (.goto (-16), 3) := by decide +kernel
theorem dX0_build_37 : decode cX0_build 37 = .ok (.iconst 0, 1) := by decide +kernel
theorem dX0_build_38 : decode cX0_build 38 = .ok (.istore_n 2, 1) := by decide +kernel
theorem dX0_build_39 : decode cX0_build 39 = .ok (.iload_n 2, 1) := by decide +kernel
theorem dX0_build_40 : decode cX0_build 40 = .ok (.aload_n 0, 1) := by decide +kernel
theorem dX0_build_41 : decode cX0_build 41 = .ok (.getfield 22, 3) := by decide +kernel
theorem dX0_build_44 : decode cX0_build 44 = .ok (.if_icmp .ge 36, 3) := by decide +kernel
theorem dX0_build_47 : decode cX0_build 47 = .ok (.aload_n 1, 1) := by decide +kernel
theorem dX0_build_48 : decode cX0_build 48 = .ok (.iload_n 2, 1) := by decide +kernel
theorem dX0_build_49 : decode cX0_build 49 = .ok (.invokevirtual 32, 3) := by decide +kernel
theorem dX0_build_52 : decode cX0_build 52 = .ok (.istore_n 3, 1) := by decide +kernel
theorem dX0_build_53 : decode cX0_build 53 = .ok (.aload_n 1, 1) := by decide +kernel
theorem dX0_build_54 : decode cX0_build 54 = .ok (.iload_n 2, 1) := by decide +kernel
theorem dX0_build_55 : decode cX0_build 55 = .ok (.invokevirtual 36, 3) := by decide +kernel
theorem dX0_build_58 : decode cX0_build 58 = .ok (.istore 4, 2) := by decide +kernel
theorem dX0_build_60 : decode cX0_build 60 = .ok (.aload_n 0, 1) := by decide +kernel
theorem dX0_build_61 : decode cX0_build 61 = .ok (.iload_n 3, 1) := by decide +kernel
theorem dX0_build_62 : decode cX0_build 62 = .ok (.iload 4, 2) := by decide +kernel
theorem dX0_build_64 : decode cX0_build 64 = .ok (.invokevirtual 39, 3) := by decide +kernel
theorem dX0_build_67 : decode cX0_build 67 = .ok (.aload_n 0, 1) := by decide +kernel
theorem dX0_build_68 : decode cX0_build 68 = .ok (.iload 4, 2) := by decide +kernel
theorem dX0_build_70 : decode cX0_build 70 = .ok (.iload_n 3, 1) := by decide +kernel
theorem dX0_build_71 : decode cX0_build 71 = .ok (.invokevirtual 39, 3) := by decide +kernel
theorem dX0_build_74 : decode cX0_build 74 = .ok (.iinc 2 1, 3) := by decide +kernel
theorem dX0_build_77 : decode cX0_build 77 = .ok (.goto (-38), 3) := by decide +kernel
theorem dX0_build_80 : decode cX0_build 80 = .ok (.return_, 1) := by decide +kernel
theorem dX0_hasNode_0 : decode cX0_hasNode 0 = .ok (.iload_n 1, 1) := by decide +kernel
theorem dX0_hasNode_1 : decode cX0_hasNode 1 = .ok (.ifCond .lt 15, 3) := by decide +kernel
theorem dX0_hasNode_4 : decode cX0_hasNode 4 = .ok (.iload_n 1, 1) := by decide +kernel
theorem dX0_hasNode_5 : decode cX0_hasNode 5 = .ok (.aload_n 0, 1) := by decide +kernel
theorem dX0_hasNode_6 : decode cX0_hasNode 6 = .ok (.getfield 18, 3) := by decide +kernel
theorem dX0_hasNode_9 : decode cX0_hasNode 9 = .ok (.if_icmp .ge 7, 3) := by decide +kernel
theorem dX0_hasNode_12 : decode cX0_hasNode 12 = .ok (.iconst 1, 1) := by decide +kernel
theorem dX0_hasNode_13 : decode cX0_hasNode 13 = .ok (.goto 4, 3) := by decide +kernel
theorem dX0_hasNode_16 : decode cX0_hasNode 16 = .ok (.iconst 0, 1) := by decide +kernel
theorem dX0_hasNode_17 : decode cX0_hasNode 17 = .ok (.ireturn, 1) := by decide +kernel
set_option maxRecDepth 20000 in
theorem ggX0_neighborError_X0_hasNode : GoodIn wsX0_neighborError wsX0_hasNode := goodIn_r _ [6, 7, 8, 9, 10, 11] rfl (by decide +kernel)
set_option maxRecDepth 20000 in
theorem gX0_neighborError_X0_hasNode : GoodIn wsX0_neighborError (wsV RX0 43 RX0 yX0_hasNode wsX0_hasNode) := goodIn_app (goodIn_of _ (by decide +kernel)) ggX0_neighborError_X0_hasNode
theorem dX0_neighborError_0 : decode cX0_neighborError 0 = .ok (.aload_n 0, 1) := by decide +kernel
theorem dX0_neighborError_1 : decode cX0_neighborError 1 = .ok (.iload_n 1, 1) := by decide +kernel
theorem dX0_neighborError_2 : decode cX0_neighborError 2 = .ok (.invokevirtual 43, 3) := by decide +kernel
theorem dX0_neighborError_5 : decode cX0_neighborError 5 = .ok (.ifCond .ne 6, 3) := by decide +kernel
theorem dX0_neighborError_8 : decode cX0_neighborError 8 = .ok (.bipush (-4), 2) := by decide +kernel
theorem dX0_neighborError_10 : decode cX0_neighborError 10 = .ok (.ireturn, 1) := by decide +kernel
theorem dX0_neighborError_11 : decode cX0_neighborError 11 = .ok (.iload_n 2, 1) := by decide +kernel
theorem dX0_neighborError_12 : decode cX0_neighborError 12 = .ok (.ifCond .lt 17, 3) := by decide +kernel
theorem dX0_neighborError_15 : decode cX0_neighborError 15 = .ok (.iload_n 2, 1) := by decide +kernel
theorem dX0_neighborError_16 : decode cX0_neighborError 16 = .ok (.aload_n 0, 1) := by decide +kernel
theorem dX0_neighborError_17 : decode cX0_neighborError 17 = .ok (.getfield 9, 3) := by decide +kernel
theorem dX0_neighborError_20 : decode cX0_neighborError 20 = .ok (.iload_n 1, 1) := by decide +kernel
theorem dX0_neighborError_21 : decode cX0_neighborError 21 = .ok (.iaload, 1) := by decide +kernel
theorem dX0_neighborError_22 : decode cX0_neighborError 22 = .ok (.if_icmp .ge 7, 3) := by decide +kernel
theorem dX0_neighborError_25 : decode cX0_neighborError 25 = .ok (.iconst 0, 1) := by decide +kernel
theorem dX0_neighborError_26 : decode cX0_neighborError 26 = .ok (.goto 5, 3) := by decide +kernel
theorem dX0_neighborError_29 : decode cX0_neighborError 29 = .ok (.bipush (-6), 2) := by decide +kernel
theorem dX0_neighborError_31 : decode cX0_neighborError 31 = .ok (.ireturn, 1) := by decide +kernel
theorem dX0_rotorAfter_0 : decode cX0_rotorAfter 0 = .ok (.iload_n 2, 1) := by decide +kernel
theorem dX0_rotorAfter_1 : decode cX0_rotorAfter 1 = .ok (.iconst 1, 1) := by decide +kernel
theorem dX0_rotorAfter_2 : decode cX0_rotorAfter 2 = .ok (.iadd, 1) := by decide +kernel
theorem dX0_rotorAfter_3 : decode cX0_rotorAfter 3 = .ok (.istore_n 3, 1) := by decide +kernel
theorem dX0_rotorAfter_4 : decode cX0_rotorAfter 4 = .ok (.iload_n 3, 1) := by decide +kernel
theorem dX0_rotorAfter_5 : decode cX0_rotorAfter 5 = .ok (.aload_n 0, 1) := by decide +kernel
theorem dX0_rotorAfter_6 : decode cX0_rotorAfter 6 = .ok (.getfield 9, 3) := by decide +kernel
theorem dX0_rotorAfter_9 : decode cX0_rotorAfter 9 = .ok (.iload_n 1, 1) := by decide +kernel
theorem dX0_rotorAfter_10 : decode cX0_rotorAfter 10 = .ok (.iaload, 1) := by decide +kernel
theorem dX0_rotorAfter_11 : decode cX0_rotorAfter 11 = .ok (.if_icmp .ne 7, 3) := by decide +kernel
theorem dX0_rotorAfter_14 : decode cX0_rotorAfter 14 = .ok (.iconst 0, 1) := by decide +kernel
theorem dX0_rotorAfter_15 : decode cX0_rotorAfter 15 = .ok (.goto 4, 3) := by decide +kernel
theorem dX0_rotorAfter_18 : decode cX0_rotorAfter 18 = .ok (.iload_n 3, 1) := by decide +kernel
theorem dX0_rotorAfter_19 : decode cX0_rotorAfter 19 = .ok (.ireturn, 1) := by decide +kernel
theorem dX0_assignments_0 : decode cX0_assignments 0 = .ok (.iconst 1, 1) := by decide +kernel
theorem dX0_assignments_1 : decode cX0_assignments 1 = .ok (.istore_n 1, 1) := by decide +kernel
theorem dX0_assignments_2 : decode cX0_assignments 2 = .ok (.iconst 0, 1) := by decide +kernel
theorem dX0_assignments_3 : decode cX0_assignments 3 = .ok (.istore_n 2, 1) := by decide +kernel
theorem dX0_assignments_4 : decode cX0_assignments 4 = .ok (.iload_n 2, 1) := by decide +kernel
theorem dX0_assignments_5 : decode cX0_assignments 5 = .ok (.aload_n 0, 1) := by decide +kernel
theorem dX0_assignments_6 : decode cX0_assignments 6 = .ok (.getfield 18, 3) := by decide +kernel
theorem dX0_assignments_9 : decode cX0_assignments 9 = .ok (.if_icmp .ge 18, 3) := by decide +kernel
theorem dX0_assignments_12 : decode cX0_assignments 12 = .ok (.iload_n 1, 1) := by decide +kernel
theorem dX0_assignments_13 : decode cX0_assignments 13 = .ok (.aload_n 0, 1) := by decide +kernel
theorem dX0_assignments_14 : decode cX0_assignments 14 = .ok (.getfield 9, 3) := by decide +kernel
theorem dX0_assignments_17 : decode cX0_assignments 17 = .ok (.iload_n 2, 1) := by decide +kernel
theorem dX0_assignments_18 : decode cX0_assignments 18 = .ok (.iaload, 1) := by decide +kernel
theorem dX0_assignments_19 : decode cX0_assignments 19 = .ok (.imul, 1) := by decide +kernel
theorem dX0_assignments_20 : decode cX0_assignments 20 = .ok (.istore_n 1, 1) := by decide +kernel
theorem dX0_assignments_21 : decode cX0_assignments 21 = .ok (.iinc 2 1, 3) := by decide +kernel
theorem dX0_assignments_24 : decode cX0_assignments 24 = .ok (.goto (-20), 3) := by decide +kernel
theorem dX0_assignments_27 : decode cX0_assignments 27 = .ok (.iload_n 1, 1) := by decide +kernel
theorem dX0_assignments_28 : decode cX0_assignments 28 = .ok (.ireturn, 1) := by decide +kernel
set_option maxRecDepth 20000 in
theorem ggX0_addNeighbor_X0_slot : GoodIn wsX0_addNeighbor wsX0_slot := goodIn_r _ [6] rfl (by decide +kernel)
set_option maxRecDepth 20000 in
theorem gX0_addNeighbor_X0_slot : GoodIn wsX0_addNeighbor (va_wsS RX0 47 yX0_slot wsX0_slot) := goodIn_app (goodIn_of _ (by decide +kernel)) ggX0_addNeighbor_X0_slot
theorem dX0_addNeighbor_0 : decode cX0_addNeighbor 0 = .ok (.aload_n 0, 1) := by decide +kernel
theorem dX0_addNeighbor_1 : decode cX0_addNeighbor 1 = .ok (.getfield 15, 3) := by decide +kernel
theorem dX0_addNeighbor_4 : decode cX0_addNeighbor 4 = .ok (.iload_n 1, 1) := by decide +kernel
theorem dX0_addNeighbor_5 : decode cX0_addNeighbor 5 = .ok (.aload_n 0, 1) := by decide +kernel
theorem dX0_addNeighbor_6 : decode cX0_addNeighbor 6 = .ok (.getfield 9, 3) := by decide +kernel
theorem dX0_addNeighbor_9 : decode cX0_addNeighbor 9 = .ok (.iload_n 1, 1) := by decide +kernel
theorem dX0_addNeighbor_10 : decode cX0_addNeighbor 10 = .ok (.iaload, 1) := by decide +kernel
theorem dX0_addNeighbor_11 : decode cX0_addNeighbor 11 = .ok (.invokestatic 47, 3) := by decide +kernel
theorem dX0_addNeighbor_14 : decode cX0_addNeighbor 14 = .ok (.iload_n 2, 1) := by decide +kernel
theorem dX0_addNeighbor_15 : decode cX0_addNeighbor 15 = .ok (.iastore, 1) := by decide +kernel
theorem dX0_addNeighbor_16 : decode cX0_addNeighbor 16 = .ok (.aload_n 0, 1) := by decide +kernel
theorem dX0_addNeighbor_17 : decode cX0_addNeighbor 17 = .ok (.getfield 9, 3) := by decide +kernel
theorem dX0_addNeighbor_20 : decode cX0_addNeighbor 20 = .ok (.iload_n 1, 1) := by decide +kernel
theorem dX0_addNeighbor_21 : decode cX0_addNeighbor 21 = .ok (.dup2, 1) := by decide +kernel
theorem dX0_addNeighbor_22 : decode cX0_addNeighbor 22 = .ok (.iaload, 1) := by decide +kernel
theorem dX0_addNeighbor_23 : decode cX0_addNeighbor 23 = .ok (.iconst 1, 1) := by decide +kernel
theorem dX0_addNeighbor_24 : decode cX0_addNeighbor 24 = .ok (.iadd, 1) := by decide +kernel
theorem dX0_addNeighbor_25 : decode cX0_addNeighbor 25 = .ok (.iastore, 1) := by decide +kernel
theorem dX0_addNeighbor_26 : decode cX0_addNeighbor 26 = .ok (.return_, 1) := by decide +kernel
theorem dX1_init_0 : decode cX1_init 0 = .ok (.aload_n 0, 1) := by decide +kernel
theorem dX1_init_1 : decode cX1_init 1 = .ok (.invokespecial 5, 3) := by decide +kernel
theorem dX1_init_4 : decode cX1_init 4 = .ok (.aload_n 0, 1) := by decide +kernel
theorem dX1_init_5 : decode cX1_init 5 = .ok (.bipush 40, 2) := by decide +kernel
theorem dX1_init_7 : decode cX1_init 7 = .ok (.newarray .int, 2) := by decide +kernel
theorem dX1_init_9 : decode cX1_init 9 = .ok (.putfield 11, 3) := by decide +kernel
theorem dX1_init_12 : decode cX1_init 12 = .ok (.aload_n 0, 1) := by decide +kernel
theorem dX1_init_13 : decode cX1_init 13 = .ok (.iconst 0, 1) := by decide +kernel
theorem dX1_init_14 : decode cX1_init 14 = .ok (.putfield 15, 3) := by decide +kernel
theorem dX1_init_17 : decode cX1_init 17 = .ok (.return_, 1) := by decide +kernel
set_option maxRecDepth 20000 in
theorem ggX1_firstBrokenIndex_X1_keepsRules : GoodIn wsX1_firstBrokenIndex wsX1_keepsRules := goodIn_r _ [6, 7, 8, 9, 5, 10, 11, 12, 13, 14, 15, 16, 17, 18, 19, 20] rfl (by decide +kernel)
set_option maxRecDepth 20000 in
theorem gX1_firstBrokenIndex_X1_keepsRules : GoodIn wsX1_firstBrokenIndex (wsV RX1 19 RX1 yX1_keepsRules wsX1_keepsRules) := goodIn_app (goodIn_of _ (by decide +kernel)) ggX1_firstBrokenIndex_X1_keepsRules
theorem dX1_firstBrokenIndex_0 : decode cX1_firstBrokenIndex 0 = .ok (.iconst 0, 1) := by decide +kernel
theorem dX1_firstBrokenIndex_1 : decode cX1_firstBrokenIndex 1 = .ok (.istore_n 1, 1) := by decide +kernel
theorem dX1_firstBrokenIndex_2 : decode cX1_firstBrokenIndex 2 = .ok (.iload_n 1, 1) := by decide +kernel
theorem dX1_firstBrokenIndex_3 : decode cX1_firstBrokenIndex 3 = .ok (.aload_n 0, 1) := by decide +kernel
theorem dX1_firstBrokenIndex_4 : decode cX1_firstBrokenIndex 4 = .ok (.getfield 15, 3) := by decide +kernel
theorem dX1_firstBrokenIndex_7 : decode cX1_firstBrokenIndex 7 = .ok (.if_icmp .ge 17, 3) := by decide +kernel
theorem dX1_firstBrokenIndex_10 : decode cX1_firstBrokenIndex 10 = .ok (.aload_n 0, 1) := by decide +kernel
theorem dX1_firstBrokenIndex_11 : decode cX1_firstBrokenIndex 11 = .ok (.iload_n 1, 1) := by decide +kernel
theorem dX1_firstBrokenIndex_12 : decode cX1_firstBrokenIndex 12 = .ok (.invokevirtual 19, 3) := by decide +kernel
theorem dX1_firstBrokenIndex_15 : decode cX1_firstBrokenIndex 15 = .ok (.ifCond .eq 9, 3) := by decide +kernel
theorem dX1_firstBrokenIndex_18 : decode cX1_firstBrokenIndex 18 = .ok (.iinc 1 1, 3) := by decide +kernel
theorem dX1_firstBrokenIndex_21 : decode cX1_firstBrokenIndex 21 = .ok (.goto (-19), 3) := by decide +kernel
theorem dX1_firstBrokenIndex_24 : decode cX1_firstBrokenIndex 24 = .ok (.iload_n 1, 1) := by decide +kernel
theorem dX1_firstBrokenIndex_25 : decode cX1_firstBrokenIndex 25 = .ok (.ireturn, 1) := by decide +kernel
set_option maxRecDepth 20000 in
theorem ggX1_isComplete_X1_placeInGroup : GoodIn wsX1_isComplete wsX1_placeInGroup := goodIn_r _ [5] rfl (by decide +kernel)
set_option maxRecDepth 20000 in
theorem gX1_isComplete_X1_placeInGroup : GoodIn wsX1_isComplete (va_wsS RX1 23 yX1_placeInGroup wsX1_placeInGroup) := goodIn_app (goodIn_of _ (by decide +kernel)) ggX1_isComplete_X1_placeInGroup
set_option maxRecDepth 20000 in
theorem ggX1_isComplete_X1_firstBrokenIndex : GoodIn wsX1_isComplete wsX1_firstBrokenIndex := goodIn_r _ [9, 1, 10, 11, 12, 4, 13, 14, 2, 3, 5, 15, 16, 17, 18, 19, 20, 21, 22, 23, 24] rfl (by decide +kernel)
set_option maxRecDepth 20000 in
theorem gX1_isComplete_X1_firstBrokenIndex : GoodIn wsX1_isComplete (wsV RX1 27 RX1 yX1_firstBrokenIndex wsX1_firstBrokenIndex) := goodIn_app (goodIn_of _ (by decide +kernel)) ggX1_isComplete_X1_firstBrokenIndex
theorem dX1_isComplete_0 : decode cX1_isComplete 0 = .ok (.aload_n 0, 1) := by decide +kernel
theorem dX1_isComplete_1 : decode cX1_isComplete 1 = .ok (.getfield 15, 3) := by decide +kernel
theorem dX1_isComplete_4 : decode cX1_isComplete 4 = .ok (.iconst 2, 1) := by decide +kernel
theorem dX1_isComplete_5 : decode cX1_isComplete 5 = .ok (.if_icmp .le 31, 3) := by decide +kernel
theorem dX1_isComplete_8 : decode cX1_isComplete 8 = .ok (.aload_n 0, 1) := by decide +kernel
theorem dX1_isComplete_9 : decode cX1_isComplete 9 = .ok (.getfield 15, 3) := by decide +kernel
theorem dX1_isComplete_12 : decode cX1_isComplete 12 = .ok (.iconst 1, 1) := by decide +kernel
theorem dX1_isComplete_13 : decode cX1_isComplete 13 = .ok (.isub, 1) := by decide +kernel
theorem dX1_isComplete_14 : decode cX1_isComplete 14 = .ok (.invokestatic 23, 3) := by decide +kernel
theorem dX1_isComplete_17 : decode cX1_isComplete 17 = .ok (.iconst 1, 1) := by decide +kernel
theorem dX1_isComplete_18 : decode cX1_isComplete 18 = .ok (.if_icmp .ne 18, 3) := by decide +kernel
theorem dX1_isComplete_21 : decode cX1_isComplete 21 = .ok (.aload_n 0, 1) := by decide +kernel
theorem dX1_isComplete_22 : decode cX1_isComplete 22 = .ok (.invokevirtual 27, 3) := by decide +kernel
theorem dX1_isComplete_25 : decode cX1_isComplete 25 = .ok (.aload_n 0, 1) := by decide +kernel
theorem dX1_isComplete_26 : decode cX1_isComplete 26 = .ok (.getfield 15, 3) := by decide +kernel
theorem dX1_isComplete_29 : decode cX1_isComplete 29 = .ok (.if_icmp .ne 7, 3) := by decide +kernel
theorem dX1_isComplete_32 : decode cX1_isComplete 32 = .ok (.iconst 1, 1) := by decide +kernel
theorem dX1_isComplete_33 : decode cX1_isComplete 33 = .ok (.goto 4, 3) := by decide +kernel
theorem dX1_isComplete_36 : decode cX1_isComplete 36 = .ok (.iconst 0, 1) := by decide +kernel
theorem dX1_isComplete_37 : decode cX1_isComplete 37 = .ok (.ireturn, 1) := by decide +kernel
set_option maxRecDepth 20000 in
theorem ggX1_isConnected_X1_nodes : GoodIn wsX1_isConnected wsX1_nodes := goodIn_r _ [5, 6, 20, 21] rfl (by decide +kernel)
set_option maxRecDepth 20000 in
theorem gX1_isConnected_X1_nodes : GoodIn wsX1_isConnected (wsV RX1 31 RX1 yX1_nodes wsX1_nodes) := goodIn_app (goodIn_of _ (by decide +kernel)) ggX1_isConnected_X1_nodes
set_option maxRecDepth 20000 in
theorem ggX1_isConnected_X1_links : GoodIn wsX1_isConnected wsX1_links := goodIn_r _ [10, 11, 20, 21] rfl (by decide +kernel)
set_option maxRecDepth 20000 in
theorem gX1_isConnected_X1_links : GoodIn wsX1_isConnected (wsV RX1 34 RX1 yX1_links wsX1_links) := goodIn_app (goodIn_of _ (by decide +kernel)) ggX1_isConnected_X1_links
set_option maxRecDepth 20000 in
theorem ggX1_isConnected_X1_firstNode : GoodIn wsX1_isConnected wsX1_firstNode := goodIn_r _ [15, 6, 20, 21] rfl (by decide +kernel)
set_option maxRecDepth 20000 in
theorem gX1_isConnected_X1_firstNode : GoodIn wsX1_isConnected (wsV RX1 37 RX1 yX1_firstNode wsX1_firstNode) := goodIn_app (goodIn_of _ (by decide +kernel)) ggX1_isConnected_X1_firstNode
set_option maxRecDepth 20000 in
theorem ggX1_isConnected_X1_secondNode : GoodIn wsX1_isConnected wsX1_secondNode := goodIn_r _ [19, 6, 20, 21] rfl (by decide +kernel)
set_option maxRecDepth 20000 in
theorem gX1_isConnected_X1_secondNode : GoodIn wsX1_isConnected (wsV RX1 40 RX1 yX1_secondNode wsX1_secondNode) := goodIn_app (goodIn_of _ (by decide +kernel)) ggX1_isConnected_X1_secondNode
theorem dX1_isConnected_0 : decode cX1_isConnected 0 = .ok (.iconst 1, 1) := by decide +kernel
theorem dX1_isConnected_1 : decode cX1_isConnected 1 = .ok (.istore_n 1, 1) := by decide +kernel
theorem dX1_isConnected_2 : decode cX1_isConnected 2 = .ok (.iconst 1, 1) := by decide +kernel
theorem dX1_isConnected_3 : decode cX1_isConnected 3 = .ok (.istore_n 2, 1) := by decide +kernel
theorem dX1_isConnected_4 : decode cX1_isConnected 4 = .ok (.iload_n 2, 1) := by decide +kernel
theorem dX1_isConnected_5 : decode cX1_isConnected 5 = .ok (.aload_n 0, 1) := by decide +kernel
theorem dX1_isConnected_6 : decode cX1_isConnected 6 = .ok (.invokevirtual 31, 3) := by decide +kernel
theorem dX1_isConnected_9 : decode cX1_isConnected 9 = .ok (.if_icmp .ge 54, 3) := by decide +kernel
theorem dX1_isConnected_12 : decode cX1_isConnected 12 = .ok (.iconst 0, 1) := by decide +kernel
theorem dX1_isConnected_13 : decode cX1_isConnected 13 = .ok (.istore_n 3, 1) := by decide +kernel
theorem dX1_isConnected_14 : decode cX1_isConnected 14 = .ok (.iload_n 3, 1) := by decide +kernel
theorem dX1_isConnected_15 : decode cX1_isConnected 15 = .ok (.aload_n 0, 1) := by decide +kernel
theorem dX1_isConnected_16 : decode cX1_isConnected 16 = .ok (.invokevirtual 34, 3) := by decide +kernel
theorem dX1_isConnected_19 : decode cX1_isConnected 19 = .ok (.if_icmp .ge 38, 3) := by decide +kernel
theorem dX1_isConnected_22 : decode cX1_isConnected 22 = .ok (.iconst 1, 1) := by decide +kernel
theorem dX1_isConnected_23 : decode cX1_isConnected 23 = .ok (.aload_n 0, 1) := by decide +kernel
theorem dX1_isConnected_24 : decode cX1_isConnected 24 = .ok (.iload_n 3, 1) := by decide +kernel
theorem dX1_isConnected_25 : decode cX1_isConnected 25 = .ok (.invokevirtual 37, 3) := by decide +kernel
theorem dX1_isConnected_28 : decode cX1_isConnected 28 = .ok (.ishl, 1) := by decide +kernel
theorem dX1_isConnected_29 : decode cX1_isConnected 29 = .ok (.iconst 1, 1) := by decide +kernel
theorem dX1_isConnected_30 : decode cX1_isConnected 30 = .ok (.aload_n 0, 1) := by decide +kernel
theorem dX1_isConnected_31 : decode cX1_isConnected 31 = .ok (.iload_n 3, 1) := by decide +kernel
theorem dX1_isConnected_32 : decode cX1_isConnected 32 = .ok (.invokevirtual 40, 3) := by decide +kernel
theorem dX1_isConnected_35 : decode cX1_isConnected 35 = .ok (.ishl, 1) := by decide +kernel
theorem dX1_isConnected_36 : decode cX1_isConnected 36 = .ok (.ior, 1) := by decide +kernel
theorem dX1_isConnected_37 : decode cX1_isConnected 37 = .ok (.istore 4, 2) := by decide +kernel
theorem dX1_isConnected_39 : decode cX1_isConnected 39 = .ok (.iload_n 1, 1) := by decide +kernel
theorem dX1_isConnected_40 : decode cX1_isConnected 40 = .ok (.iload 4, 2) := by decide +kernel
theorem dX1_isConnected_42 : decode cX1_isConnected 42 = .ok (.iand, 1) := by decide +kernel
theorem dX1_isConnected_43 : decode cX1_isConnected 43 = .ok (.ifCond .eq 8, 3) := by decide +kernel
theorem dX1_isConnected_46 : decode cX1_isConnected 46 = .ok (.iload_n 1, 1) := by decide +kernel
theorem dX1_isConnected_47 : decode cX1_isConnected 47 = .ok (.iload 4, 2) := by decide +kernel
theorem dX1_isConnected_49 : decode cX1_isConnected 49 = .ok (.ior, 1) := by decide +kernel
theorem dX1_isConnected_50 : decode cX1_isConnected 50 = .ok (.istore_n 1, 1) := by decide +kernel
theorem dX1_isConnected_51 : decode cX1_isConnected 51 = .ok (.iinc 3 1, 3) := by decide +kernel
theorem dX1_isConnected_54 : decode cX1_isConnected 54 = .ok (.goto (-40), 3) := by decide +kernel
theorem dX1_isConnected_57 : decode cX1_isConnected 57 = .ok (.iinc 2 1, 3) := by decide +kernel
theorem dX1_isConnected_60 : decode cX1_isConnected 60 = .ok (.goto (-56), 3) := by decide +kernel
theorem dX1_isConnected_63 : decode cX1_isConnected 63 = .ok (.iload_n 1, 1) := by decide +kernel
theorem dX1_isConnected_64 : decode cX1_isConnected 64 = .ok (.iconst 1, 1) := by decide +kernel
theorem dX1_isConnected_65 : decode cX1_isConnected 65 = .ok (.aload_n 0, 1) := by decide +kernel
theorem dX1_isConnected_66 : decode cX1_isConnected 66 = .ok (.invokevirtual 31, 3) := by decide +kernel
theorem dX1_isConnected_69 : decode cX1_isConnected 69 = .ok (.ishl, 1) := by decide +kernel
theorem dX1_isConnected_70 : decode cX1_isConnected 70 = .ok (.iconst 1, 1) := by decide +kernel
theorem dX1_isConnected_71 : decode cX1_isConnected 71 = .ok (.isub, 1) := by decide +kernel
theorem dX1_isConnected_72 : decode cX1_isConnected 72 = .ok (.if_icmp .ne 7, 3) := by decide +kernel
theorem dX1_isConnected_75 : decode cX1_isConnected 75 = .ok (.iconst 1, 1) := by decide +kernel
theorem dX1_isConnected_76 : decode cX1_isConnected 76 = .ok (.goto 4, 3) := by decide +kernel
theorem dX1_isConnected_79 : decode cX1_isConnected 79 = .ok (.iconst 0, 1) := by decide +kernel
theorem dX1_isConnected_80 : decode cX1_isConnected 80 = .ok (.ireturn, 1) := by decide +kernel
theorem dX1_nodes_0 : decode cX1_nodes 0 = .ok (.aload_n 0, 1) := by decide +kernel
theorem dX1_nodes_1 : decode cX1_nodes 1 = .ok (.getfield 11, 3) := by decide +kernel
theorem dX1_nodes_4 : decode cX1_nodes 4 = .ok (.iconst 0, 1) := by decide +kernel
theorem dX1_nodes_5 : decode cX1_nodes 5 = .ok (.iaload, 1) := by decide +kernel
theorem dX1_nodes_6 : decode cX1_nodes 6 = .ok (.bipush 48, 2) := by decide +kernel
theorem dX1_nodes_8 : decode cX1_nodes 8 = .ok (.isub, 1) := by decide +kernel
theorem dX1_nodes_9 : decode cX1_nodes 9 = .ok (.ireturn, 1) := by decide +kernel
theorem dX1_links_0 : decode cX1_links 0 = .ok (.aload_n 0, 1) := by decide +kernel
theorem dX1_links_1 : decode cX1_links 1 = .ok (.getfield 15, 3) := by decide +kernel
theorem dX1_links_4 : decode cX1_links 4 = .ok (.iconst 1, 1) := by decide +kernel
theorem dX1_links_5 : decode cX1_links 5 = .ok (.isub, 1) := by decide +kernel
theorem dX1_links_6 : decode cX1_links 6 = .ok (.iconst 3, 1) := by decide +kernel
theorem dX1_links_7 : decode cX1_links 7 = .ok (.idiv, 1) := by decide +kernel
theorem dX1_links_8 : decode cX1_links 8 = .ok (.ireturn, 1) := by decide +kernel
theorem dX1_firstNode_0 : decode cX1_firstNode 0 = .ok (.aload_n 0, 1) := by decide +kernel
theorem dX1_firstNode_1 : decode cX1_firstNode 1 = .ok (.getfield 11, 3) := by decide +kernel
theorem dX1_firstNode_4 : decode cX1_firstNode 4 = .ok (.iconst 2, 1) := by decide +kernel
theorem dX1_firstNode_5 : decode cX1_firstNode 5 = .ok (.iconst 3, 1) := by decide +kernel
theorem dX1_firstNode_6 : decode cX1_firstNode 6 = .ok (.iload_n 1, 1) := by decide +kernel
theorem dX1_firstNode_7 : decode cX1_firstNode 7 = .ok (.imul, 1) := by decide +kernel
theorem dX1_firstNode_8 : decode cX1_firstNode 8 = .ok (.iadd, 1) := by decide +kernel
theorem dX1_firstNode_9 : decode cX1_firstNode 9 = .ok (.iaload, 1) := by decide +kernel
theorem dX1_firstNode_10 : decode cX1_firstNode 10 = .ok (.bipush 48, 2) := by decide +kernel
theorem dX1_firstNode_12 : decode cX1_firstNode 12 = .ok (.isub, 1) := by decide +kernel
theorem dX1_firstNode_13 : decode cX1_firstNode 13 = .ok (.ireturn, 1) := by decide +kernel
theorem dX1_secondNode_0 : decode cX1_secondNode 0 = .ok (.aload_n 0, 1) := by decide +kernel
theorem dX1_secondNode_1 : decode cX1_secondNode 1 = .ok (.getfield 11, 3) := by decide +kernel
theorem dX1_secondNode_4 : decode cX1_secondNode 4 = .ok (.iconst 2, 1) := by decide +kernel
theorem dX1_secondNode_5 : decode cX1_secondNode 5 = .ok (.iconst 3, 1) := by decide +kernel
theorem dX1_secondNode_6 : decode cX1_secondNode 6 = .ok (.iload_n 1, 1) := by decide +kernel
theorem dX1_secondNode_7 : decode cX1_secondNode 7 = .ok (.imul, 1) := by decide +kernel
theorem dX1_secondNode_8 : decode cX1_secondNode 8 = .ok (.iadd, 1) := by decide +kernel
theorem dX1_secondNode_9 : decode cX1_secondNode 9 = .ok (.iconst 1, 1) := by decide +kernel
theorem dX1_secondNode_10 : decode cX1_secondNode 10 = .ok (.iadd, 1) := by decide +kernel
theorem dX1_secondNode_11 : decode cX1_secondNode 11 = .ok (.iaload, 1) := by decide +kernel
theorem dX1_secondNode_12 : decode cX1_secondNode 12 = .ok (.bipush 48, 2) := by decide +kernel
theorem dX1_secondNode_14 : decode cX1_secondNode 14 = .ok (.isub, 1) := by decide +kernel
theorem dX1_secondNode_15 : decode cX1_secondNode 15 = .ok (.ireturn, 1) := by decide +kernel
set_option maxRecDepth 20000 in
theorem ggX1_keepsRules_X1_placeInGroup : GoodIn wsX1_keepsRules wsX1_placeInGroup := goodIn_r _ [5] rfl (by decide +kernel)
set_option maxRecDepth 20000 in
theorem gX1_keepsRules_X1_placeInGroup : GoodIn wsX1_keepsRules (va_wsS RX1 23 yX1_placeInGroup wsX1_placeInGroup) := goodIn_app (goodIn_of _ (by decide +kernel)) ggX1_keepsRules_X1_placeInGroup
set_option maxRecDepth 20000 in
theorem ggX1_keepsRules_X1_isNode : GoodIn wsX1_keepsRules wsX1_isNode := goodIn_r _ [9, 1, 14, 15] rfl (by decide +kernel)
set_option maxRecDepth 20000 in
theorem gX1_keepsRules_X1_isNode : GoodIn wsX1_keepsRules (wsV RX1 43 RX1 yX1_isNode wsX1_isNode) := goodIn_app (goodIn_of _ (by decide +kernel)) ggX1_keepsRules_X1_isNode
set_option maxRecDepth 20000 in
theorem ggX1_keepsRules_X1_isNewLink : GoodIn wsX1_keepsRules wsX1_isNewLink := goodIn_r _ [13, 1, 14, 15] rfl (by decide +kernel)
set_option maxRecDepth 20000 in
theorem gX1_keepsRules_X1_isNewLink : GoodIn wsX1_keepsRules (wsV RX1 46 RX1 yX1_isNewLink wsX1_isNewLink) := goodIn_app (goodIn_of _ (by decide +kernel)) ggX1_keepsRules_X1_isNewLink
theorem dX1_keepsRules_0 : decode cX1_keepsRules 0 = .ok (.aload_n 0, 1) := by decide +kernel
theorem dX1_keepsRules_1 : decode cX1_keepsRules 1 = .ok (.getfield 11, 3) := by decide +kernel
theorem dX1_keepsRules_4 : decode cX1_keepsRules 4 = .ok (.iload_n 1, 1) := by decide +kernel
theorem dX1_keepsRules_5 : decode cX1_keepsRules 5 = .ok (.iaload, 1) := by decide +kernel
theorem dX1_keepsRules_6 : decode cX1_keepsRules 6 = .ok (.istore_n 2, 1) := by decide +kernel
theorem dX1_keepsRules_7 : decode cX1_keepsRules 7 = .ok (.iload_n 1, 1) := by decide +kernel
theorem dX1_keepsRules_8 : decode cX1_keepsRules 8 = .ok (.ifCond .ne 21, 3) := by decide +kernel
theorem dX1_keepsRules_11 : decode cX1_keepsRules 11 = .ok (.iload_n 2, 1) := by decide +kernel
theorem dX1_keepsRules_12 : decode cX1_keepsRules 12 = .ok (.bipush 50, 2) := by decide +kernel
theorem dX1_keepsRules_14 : decode cX1_keepsRules 14 = .ok (.if_icmp .lt 13, 3) := by decide +kernel
theorem dX1_keepsRules_17 : decode cX1_keepsRules 17 = .ok (.iload_n 2, 1) := by decide +kernel
theorem dX1_keepsRules_18 : decode cX1_keepsRules 18 = .ok (.bipush 56, 2) := by decide +kernel
theorem dX1_keepsRules_20 : decode cX1_keepsRules 20 = .ok (.if_icmp .gt 7, 3) := by decide +kernel
theorem dX1_keepsRules_23 : decode cX1_keepsRules 23 = .ok (.iconst 1, 1) := by decide +kernel
theorem dX1_keepsRules_24 : decode cX1_keepsRules 24 = .ok (.goto 4, 3) := by decide +kernel
theorem dX1_keepsRules_27 : decode cX1_keepsRules 27 = .ok (.iconst 0, 1) := by decide +kernel
theorem dX1_keepsRules_28 : decode cX1_keepsRules 28 = .ok (.ireturn, 1) := by decide +kernel
theorem dX1_keepsRules_29 : decode cX1_keepsRules 29 = .ok (.iload_n 1, 1) := by decide +kernel
theorem dX1_keepsRules_30 : decode cX1_keepsRules 30 = .ok (.iconst 1, 1) := by decide +kernel
theorem dX1_keepsRules_31 : decode cX1_keepsRules 31 = .ok (.if_icmp .ne 15, 3) := by decide +kernel
theorem dX1_keepsRules_34 : decode cX1_keepsRules 34 = .ok (.iload_n 2, 1) := by decide +kernel
theorem dX1_keepsRules_35 : decode cX1_keepsRules 35 = .ok (.bipush 58, 2) := by decide +kernel
theorem dX1_keepsRules_37 : decode cX1_keepsRules 37 = .ok (.if_icmp .ne 7, 3) := by decide +kernel
theorem dX1_keepsRules_40 : decode cX1_keepsRules 40 = .ok (.iconst 1, 1) := by decide +kernel
theorem dX1_keepsRules_41 : decode cX1_keepsRules 41 = .ok (.goto 4, 3) := by decide +kernel
theorem dX1_keepsRules_44 : decode cX1_keepsRules 44 = .ok (.iconst 0, 1) := by decide +kernel
theorem dX1_keepsRules_45 : decode cX1_keepsRules 45 = .ok (.ireturn, 1) := by decide +kernel
theorem dX1_keepsRules_46 : decode cX1_keepsRules 46 = .ok (.iload_n 1, 1) := by decide +kernel
theorem dX1_keepsRules_47 : decode cX1_keepsRules 47 = .ok (.invokestatic 23, 3) := by decide +kernel
theorem dX1_keepsRules_50 : decode cX1_keepsRules 50 = .ok (.istore_n 3, 1) := by decide +kernel
theorem dX1_keepsRules_51 : decode cX1_keepsRules 51 = .ok (.iload_n 3, 1) := by decide +kernel
theorem dX1_keepsRules_52 : decode cX1_keepsRules 52 = .ok (.ifCond .ne 9, 3) := by decide +kernel
theorem dX1_keepsRules_55 : decode cX1_keepsRules 55 = .ok (.aload_n 0, 1) := by decide +kernel
theorem dX1_keepsRules_56 : decode cX1_keepsRules 56 = .ok (.iload_n 2, 1) := by decide +kernel
theorem dX1_keepsRules_57 : decode cX1_keepsRules 57 = .ok (.invokevirtual 43, 3) := by decide +kernel
theorem dX1_keepsRules_60 : decode cX1_keepsRules 60 = .ok (.ireturn, 1) := by decide +kernel
theorem dX1_keepsRules_61 : decode cX1_keepsRules 61 = .ok (.iload_n 3, 1) := by decide +kernel
theorem dX1_keepsRules_62 : decode cX1_keepsRules 62 = .ok (.iconst 1, 1) := by decide +kernel
theorem dX1_keepsRules_63 : decode cX1_keepsRules 63 = .ok (.if_icmp .ne 37, 3) := by decide +kernel
theorem dX1_keepsRules_66 : decode cX1_keepsRules 66 = .ok (.aload_n 0, 1) := by decide +kernel
theorem dX1_keepsRules_67 : decode cX1_keepsRules 67 = .ok (.iload_n 2, 1) := by decide +kernel
theorem dX1_keepsRules_68 : decode cX1_keepsRules 68 = .ok (.invokevirtual 43, 3) := by decide +kernel
theorem dX1_keepsRules_71 : decode cX1_keepsRules 71 = .ok (.ifCond .eq 27, 3) := by decide +kernel
theorem dX1_keepsRules_74 : decode cX1_keepsRules 74 = .ok (.iload_n 2, 1) := by decide +kernel
theorem dX1_keepsRules_75 : decode cX1_keepsRules 75 = .ok (.aload_n 0, 1) := by decide +kernel
theorem dX1_keepsRules_76 : decode cX1_keepsRules 76 = .ok (.getfield 11, 3) := by decide +kernel
theorem dX1_keepsRules_79 : decode cX1_keepsRules 79 = .ok (.iload_n 1, 1) := by decide +kernel
theorem dX1_keepsRules_80 : decode cX1_keepsRules 80 = .ok (.iconst 1, 1) := by decide +kernel
theorem dX1_keepsRules_81 : decode cX1_keepsRules 81 = .ok (.isub, 1) := by decide +kernel
theorem dX1_keepsRules_82 : decode cX1_keepsRules 82 = .ok (.iaload, 1) := by decide +kernel
theorem dX1_keepsRules_83 : decode cX1_keepsRules 83 = .ok (.if_icmp .eq 15, 3) := by decide +kernel
theorem dX1_keepsRules_86 : decode cX1_keepsRules 86 = .ok (.aload_n 0, 1) := by decide +kernel
theorem dX1_keepsRules_87 : decode cX1_keepsRules 87 = .ok (.iload_n 1, 1) := by decide +kernel
theorem dX1_keepsRules_88 : decode cX1_keepsRules 88 = .ok (.invokevirtual 46, 3) := by decide +kernel
theorem dX1_keepsRules_91 : decode cX1_keepsRules 91 = .ok (.ifCond .eq 7, 3) := by decide +kernel
theorem dX1_keepsRules_94 : decode cX1_keepsRules 94 = .ok (.iconst 1, 1) := by decide +kernel
theorem dX1_keepsRules_95 : decode cX1_keepsRules 95 = .ok (.goto 4, 3) := by decide +kernel
theorem dX1_keepsRules_98 : decode cX1_keepsRules 98 = .ok (.iconst 0, 1) := by decide +kernel
theorem dX1_keepsRules_99 : decode cX1_keepsRules 99 = .ok (.ireturn, 1) := by decide +kernel
theorem dX1_keepsRules_100 : decode cX1_keepsRules 100 = .ok (.iload_n 2, 1) := by decide +kernel
theorem dX1_keepsRules_101 : decode cX1_keepsRules 101 = .ok (.bipush 44, 2) := by decide +kernel
theorem dX1_keepsRules_103 : decode cX1_keepsRules 103 = .ok (.if_icmp .ne 13, 3) := by decide +kernel
theorem dX1_keepsRules_106 : decode cX1_keepsRules 106 = .ok (.iload_n 1, 1) := by decide +kernel
theorem dX1_keepsRules_107 : decode cX1_keepsRules 107 = .ok (.bipush 34, 2) := by decide +kernel
theorem dX1_keepsRules_109 : decode cX1_keepsRules 109 = .ok (.if_icmp .gt 7, 3) := by decide +kernel
theorem dX1_keepsRules_112 : decode cX1_keepsRules 112 = .ok (.iconst 1, 1) := by decide +kernel
theorem dX1_keepsRules_113 : decode cX1_keepsRules 113 = .ok (.goto 4, 3) := by decide +kernel
theorem dX1_keepsRules_116 : decode cX1_keepsRules 116 = .ok (.iconst 0, 1) := by decide +kernel
theorem dX1_keepsRules_117 : decode cX1_keepsRules 117 = .ok (.ireturn, 1) := by decide +kernel
theorem dX1_placeInGroup_0 : decode cX1_placeInGroup 0 = .ok (.iload_n 0, 1) := by decide +kernel
theorem dX1_placeInGroup_1 : decode cX1_placeInGroup 1 = .ok (.iconst 2, 1) := by decide +kernel
theorem dX1_placeInGroup_2 : decode cX1_placeInGroup 2 = .ok (.isub, 1) := by decide +kernel
theorem dX1_placeInGroup_3 : decode cX1_placeInGroup 3 = .ok (.iconst 3, 1) := by decide +kernel
theorem dX1_placeInGroup_4 : decode cX1_placeInGroup 4 = .ok (.irem, 1) := by decide +kernel
theorem dX1_placeInGroup_5 : decode cX1_placeInGroup 5 = .ok (.ireturn, 1) := by decide +kernel
theorem dX1_isNode_0 : decode cX1_isNode 0 = .ok (.iload_n 1, 1) := by decide +kernel
theorem dX1_isNode_1 : decode cX1_isNode 1 = .ok (.bipush 48, 2) := by decide +kernel
theorem dX1_isNode_3 : decode cX1_isNode 3 = .ok (.if_icmp .lt 17, 3) := by decide +kernel
theorem dX1_isNode_6 : decode cX1_isNode 6 = .ok (.iload_n 1, 1) := by decide +kernel
theorem dX1_isNode_7 : decode cX1_isNode 7 = .ok (.aload_n 0, 1) := by decide +kernel
theorem dX1_isNode_8 : decode cX1_isNode 8 = .ok (.getfield 11, 3) := by decide +kernel
theorem dX1_isNode_11 : decode cX1_isNode 11 = .ok (.iconst 0, 1) := by decide +kernel
theorem dX1_isNode_12 : decode cX1_isNode 12 = .ok (.iaload, 1) := by decide +kernel
theorem dX1_isNode_13 : decode cX1_isNode 13 = .ok (.if_icmp .ge 7, 3) := by decide +kernel
theorem dX1_isNode_16 : decode cX1_isNode 16 = .ok (.iconst 1, 1) := by decide +kernel
theorem dX1_isNode_17 : decode cX1_isNode 17 = .ok (.goto 4, 3) := by decide +kernel
theorem dX1_isNode_20 : decode cX1_isNode 20 = .ok (.iconst 0, 1) := by decide +kernel
theorem dX1_isNode_21 : decode cX1_isNode 21 = .ok (.ireturn, 1) := by decide +kernel
theorem dX1_isNewLink_0 : decode cX1_isNewLink 0 = .ok (.aload_n 0, 1) := by decide +kernel
theorem dX1_isNewLink_1 : decode cX1_isNewLink 1 = .ok (.getfield 11, 3) := by decide +kernel
theorem dX1_isNewLink_4 : decode cX1_isNewLink 4 = .ok (.iload_n 1, 1) := by decide +kernel
theorem dX1_isNewLink_5 : decode cX1_isNewLink 5 = .ok (.iconst 1, 1) := by decide +kernel
theorem dX1_isNewLink_6 : decode cX1_isNewLink 6 = .ok (.isub, 1) := by decide +kernel
theorem dX1_isNewLink_7 : decode cX1_isNewLink 7 = .ok (.iaload, 1) := by decide +kernel
theorem dX1_isNewLink_8 : decode cX1_isNewLink 8 = .ok (.istore_n 2, 1) := by decide +kernel
theorem dX1_isNewLink_9 : decode cX1_isNewLink 9 = .ok (.aload_n 0, 1) := by decide +kernel
theorem dX1_isNewLink_10 : decode cX1_isNewLink 10 = .ok (.getfield 11, 3) := by decide +kernel
theorem dX1_isNewLink_13 : decode cX1_isNewLink 13 = .ok (.iload_n 1, 1) := by decide +kernel
theorem dX1_isNewLink_14 : decode cX1_isNewLink 14 = .ok (.iaload, 1) := by decide +kernel
theorem dX1_isNewLink_15 : decode cX1_isNewLink 15 = .ok (.istore_n 3, 1) := by decide +kernel
theorem dX1_isNewLink_16 : decode cX1_isNewLink 16 = .ok (.iconst 2, 1) := by decide +kernel
theorem dX1_isNewLink_17 : decode cX1_isNewLink 17 = .ok (.istore 4, 2) := by decide +kernel
theorem dX1_isNewLink_19 : decode cX1_isNewLink 19 = .ok (.iload 4, 2) := by decide +kernel
theorem dX1_isNewLink_21 : decode cX1_isNewLink 21 = .ok (.iload_n 1, 1) := by decide +kernel
theorem dX1_isNewLink_22 : decode cX1_isNewLink 22 = .ok (.iconst 1, 1) := by decide +kernel
theorem dX1_isNewLink_23 : decode cX1_isNewLink 23 = .ok (.isub, 1) := by decide +kernel
theorem dX1_isNewLink_24 : decode cX1_isNewLink 24 = .ok (.if_icmp .ge 83, 3) := by decide +kernel
theorem dX1_isNewLink_27 : decode cX1_isNewLink 27 = .ok (.aload_n 0, 1) := by decide +kernel
theorem dX1_isNewLink_28 : decode cX1_isNewLink 28 = .ok (.getfield 11, 3) := by decide +kernel
theorem dX1_isNewLink_31 : decode cX1_isNewLink 31 = .ok (.iload 4, 2) := by decide +kernel
theorem dX1_isNewLink_33 : decode cX1_isNewLink 33 = .ok (.iaload, 1) := by decide +kernel
theorem dX1_isNewLink_34 : decode cX1_isNewLink 34 = .ok (.iload_n 2, 1) := by decide +kernel
theorem dX1_isNewLink_35 : decode cX1_isNewLink 35 = .ok (.if_icmp .ne 20, 3) := by decide +kernel
theorem dX1_isNewLink_38 : decode cX1_isNewLink 38 = .ok (.aload_n 0, 1) := by decide +kernel
theorem dX1_isNewLink_39 : decode cX1_isNewLink 39 = .ok (.getfield 11, 3) := by decide +kernel
theorem dX1_isNewLink_42 : decode cX1_isNewLink 42 = .ok (.iload 4, 2) := by decide +kernel
theorem dX1_isNewLink_44 : decode cX1_isNewLink 44 = .ok (.iconst 1, 1) := by decide +kernel
theorem dX1_isNewLink_45 : decode cX1_isNewLink 45 = .ok (.iadd, 1) := by decide +kernel
theorem dX1_isNewLink_46 : decode cX1_isNewLink 46 = .ok (.iaload, 1) := by decide +kernel
theorem dX1_isNewLink_47 : decode cX1_isNewLink 47 = .ok (.iload_n 3, 1) := by decide +kernel
theorem dX1_isNewLink_48 : decode cX1_isNewLink 48 = .ok (.if_icmp .ne 7, 3) := by decide +kernel
theorem dX1_isNewLink_51 : decode cX1_isNewLink 51 = .ok (.iconst 1, 1) := by decide +kernel
theorem dX1_isNewLink_52 : decode cX1_isNewLink 52 = .ok (.goto 4, 3) := by decide +kernel
theorem dX1_isNewLink_55 : decode cX1_isNewLink 55 = .ok (.iconst 0, 1) := by decide +kernel
theorem dX1_isNewLink_56 : decode cX1_isNewLink 56 = .ok (.istore 5, 2) := by decide +kernel
theorem dX1_isNewLink_58 : decode cX1_isNewLink 58 = .ok (.aload_n 0, 1) := by decide +kernel
theorem dX1_isNewLink_59 : decode cX1_isNewLink 59 = .ok (.getfield 11, 3) := by decide +kernel
theorem dX1_isNewLink_62 : decode cX1_isNewLink 62 = .ok (.iload 4, 2) := by decide +kernel
theorem dX1_isNewLink_64 : decode cX1_isNewLink 64 = .ok (.iaload, 1) := by decide +kernel
theorem dX1_isNewLink_65 : decode cX1_isNewLink 65 = .ok (.iload_n 3, 1) := by decide +kernel
theorem dX1_isNewLink_66 : decode cX1_isNewLink 66 = .ok (.if_icmp .ne 20, 3) := by decide +kernel
theorem dX1_isNewLink_69 : decode cX1_isNewLink 69 = .ok (.aload_n 0, 1) := by decide +kernel
theorem dX1_isNewLink_70 : decode cX1_isNewLink 70 = .ok (.getfield 11, 3) := by decide +kernel
theorem dX1_isNewLink_73 : decode cX1_isNewLink 73 = .ok (.iload 4, 2) := by decide +kernel
theorem dX1_isNewLink_75 : decode cX1_isNewLink 75 = .ok (.iconst 1, 1) := by decide +kernel
theorem dX1_isNewLink_76 : decode cX1_isNewLink 76 = .ok (.iadd, 1) := by decide +kernel
theorem dX1_isNewLink_77 : decode cX1_isNewLink 77 = .ok (.iaload, 1) := by decide +kernel
theorem dX1_isNewLink_78 : decode cX1_isNewLink 78 = .ok (.iload_n 2, 1) := by decide +kernel
theorem dX1_isNewLink_79 : decode cX1_isNewLink 79 = .ok (.if_icmp .ne 7, 3) := by decide +kernel
theorem dX1_isNewLink_82 : decode cX1_isNewLink 82 = .ok (.iconst 1, 1) := by decide +kernel
theorem dX1_isNewLink_83 : decode cX1_isNewLink 83 = .ok (.goto 4, 3) := by decide +kernel
theorem dX1_isNewLink_86 : decode cX1_isNewLink 86 = .ok (.iconst 0, 1) := by decide +kernel
theorem dX1_isNewLink_87 : decode cX1_isNewLink 87 = .ok (.istore 6, 2) := by decide +kernel
theorem dX1_isNewLink_89 : decode cX1_isNewLink 89 = .ok (.iload 5, 2) := by decide +kernel
theorem dX1_isNewLink_91 : decode cX1_isNewLink 91 = .ok (.ifCond .ne 8, 3) := by decide +kernel
theorem dX1_isNewLink_94 : decode cX1_isNewLink 94 = .ok (.iload 6, 2) := by decide +kernel
theorem dX1_isNewLink_96 : decode cX1_isNewLink 96 = .ok (.ifCond .eq 5, 3) := by decide +kernel
theorem dX1_isNewLink_99 : decode cX1_isNewLink 99 = .ok (.iconst 0, 1) := by decide +kernel
theorem dX1_isNewLink_100 : decode cX1_isNewLink 100 = .ok (.ireturn, 1) := by decide +kernel
theorem dX1_isNewLink_101 : decode cX1_isNewLink 101 = .ok (.iinc 4 3, 3) := by decide +kernel
theorem dX1_isNewLink_104 : decode cX1_isNewLink 104 = .ok (.goto (-85), 3) := by decide +kernel
theorem dX1_isNewLink_107 : decode cX1_isNewLink 107 = .ok (.iconst 1, 1) := by decide +kernel
theorem dX1_isNewLink_108 : decode cX1_isNewLink 108 = .ok (.ireturn, 1) := by decide +kernel
theorem dX2_init_0 : decode cX2_init 0 = .ok (.aload_n 0, 1) := by decide +kernel
theorem dX2_init_1 : decode cX2_init 1 = .ok (.invokespecial 3, 3) := by decide +kernel
theorem dX2_init_4 : decode cX2_init 4 = .ok (.aload_n 0, 1) := by decide +kernel
theorem dX2_init_5 : decode cX2_init 5 = .ok (.bipush 8, 2) := by decide +kernel
theorem dX2_init_7 : decode cX2_init 7 = .ok (.newarray .int, 2) := by decide +kernel
theorem dX2_init_9 : decode cX2_init 9 = .ok (.putfield 9, 3) := by decide +kernel
theorem dX2_init_12 : decode cX2_init 12 = .ok (.aload_n 0, 1) := by decide +kernel
theorem dX2_init_13 : decode cX2_init 13 = .ok (.iconst 0, 1) := by decide +kernel
theorem dX2_init_14 : decode cX2_init 14 = .ok (.putfield 15, 3) := by decide +kernel
theorem dX2_init_17 : decode cX2_init 17 = .ok (.return_, 1) := by decide +kernel
theorem dX2_start_0 : decode cX2_start 0 = .ok (.aload_n 0, 1) := by decide +kernel
theorem dX2_start_1 : decode cX2_start 1 = .ok (.iload_n 1, 1) := by decide +kernel
theorem dX2_start_2 : decode cX2_start 2 = .ok (.putfield 15, 3) := by decide +kernel
theorem dX2_start_5 : decode cX2_start 5 = .ok (.aload_n 2, 1) := by decide +kernel
theorem dX2_start_6 : decode cX2_start 6 = .ok (.iconst 0, 1) := by decide +kernel
theorem dX2_start_7 : decode cX2_start 7 = .ok (.aload_n 0, 1) := by decide +kernel
theorem dX2_start_8 : decode cX2_start 8 = .ok (.getfield 9, 3) := by decide +kernel
theorem dX2_start_11 : decode cX2_start 11 = .ok (.iconst 0, 1) := by decide +kernel
theorem dX2_start_12 : decode cX2_start 12 = .ok (.bipush 8, 2) := by decide +kernel
theorem dX2_start_14 : decode cX2_start 14 = .ok (.invokestatic 19, 3) := by decide +kernel
theorem dX2_start_17 : decode cX2_start 17 = .ok (.return_, 1) := by decide +kernel
set_option maxRecDepth 20000 in
theorem ggX2_move_X0_slot : GoodIn wsX2_move wsX0_slot := goodIn_r _ [7] rfl (by decide +kernel)
set_option maxRecDepth 20000 in
theorem gX2_move_X0_slot : GoodIn wsX2_move (va_wsS RX2 30 yX0_slot wsX0_slot) := goodIn_app (goodIn_of _ (by decide +kernel)) ggX2_move_X0_slot
set_option maxRecDepth 20000 in
theorem ggX2_move_X0_rotorAfter : GoodIn wsX2_move wsX0_rotorAfter := goodIn_r _ [11, 12, 15, 16, 17, 18] rfl (by decide +kernel)
set_option maxRecDepth 20000 in
theorem gX2_move_X0_rotorAfter : GoodIn wsX2_move (wsV RX2 34 RX0 yX0_rotorAfter wsX0_rotorAfter) := goodIn_app (goodIn_of _ (by decide +kernel)) ggX2_move_X0_rotorAfter
theorem dX2_move_0 : decode cX2_move 0 = .ok (.aload_n 0, 1) := by decide +kernel
theorem dX2_move_1 : decode cX2_move 1 = .ok (.getfield 15, 3) := by decide +kernel
theorem dX2_move_4 : decode cX2_move 4 = .ok (.istore_n 2, 1) := by decide +kernel
theorem dX2_move_5 : decode cX2_move 5 = .ok (.aload_n 0, 1) := by decide +kernel
theorem dX2_move_6 : decode cX2_move 6 = .ok (.aload_n 1, 1) := by decide +kernel
theorem dX2_move_7 : decode cX2_move 7 = .ok (.getfield 25, 3) := by decide +kernel
theorem dX2_move_10 : decode cX2_move 10 = .ok (.iload_n 2, 1) := by decide +kernel
theorem dX2_move_11 : decode cX2_move 11 = .ok (.aload_n 0, 1) := by decide +kernel
theorem dX2_move_12 : decode cX2_move 12 = .ok (.getfield 9, 3) := by decide +kernel
theorem dX2_move_15 : decode cX2_move 15 = .ok (.iload_n 2, 1) := by decide +kernel
theorem dX2_move_16 : decode cX2_move 16 = .ok (.iaload, 1) := by decide +kernel
theorem dX2_move_17 : decode cX2_move 17 = .ok (.invokestatic 30, 3) := by decide +kernel
theorem dX2_move_20 : decode cX2_move 20 = .ok (.iaload, 1) := by decide +kernel
theorem dX2_move_21 : decode cX2_move 21 = .ok (.putfield 15, 3) := by decide +kernel
theorem dX2_move_24 : decode cX2_move 24 = .ok (.aload_n 0, 1) := by decide +kernel
theorem dX2_move_25 : decode cX2_move 25 = .ok (.getfield 9, 3) := by decide +kernel
theorem dX2_move_28 : decode cX2_move 28 = .ok (.iload_n 2, 1) := by decide +kernel
theorem dX2_move_29 : decode cX2_move 29 = .ok (.aload_n 1, 1) := by decide +kernel
theorem dX2_move_30 : decode cX2_move 30 = .ok (.iload_n 2, 1) := by decide +kernel
theorem dX2_move_31 : decode cX2_move 31 = .ok (.aload_n 0, 1) := by decide +kernel
theorem dX2_move_32 : decode cX2_move 32 = .ok (.getfield 9, 3) := by decide +kernel
theorem dX2_move_35 : decode cX2_move 35 = .ok (.iload_n 2, 1) := by decide +kernel
theorem dX2_move_36 : decode cX2_move 36 = .ok (.iaload, 1) := by decide +kernel
theorem dX2_move_37 : decode cX2_move 37 = .ok (.invokevirtual 34, 3) := by decide +kernel
theorem dX2_move_40 : decode cX2_move 40 = .ok (.iastore, 1) := by decide +kernel
theorem dX2_move_41 : decode cX2_move 41 = .ok (.return_, 1) := by decide +kernel
theorem dX2_isSameAs_0 : decode cX2_isSameAs 0 = .ok (.aload_n 0, 1) := by decide +kernel
theorem dX2_isSameAs_1 : decode cX2_isSameAs 1 = .ok (.getfield 15, 3) := by decide +kernel
theorem dX2_isSameAs_4 : decode cX2_isSameAs 4 = .ok (.aload_n 1, 1) := by decide +kernel
theorem dX2_isSameAs_5 : decode cX2_isSameAs 5 = .ok (.getfield 15, 3) := by decide +kernel
theorem dX2_isSameAs_8 : decode cX2_isSameAs 8 = .ok (.if_icmp .eq 5, 3) := by decide +kernel
theorem dX2_isSameAs_11 : decode cX2_isSameAs 11 = .ok (.iconst 0, 1) := by decide +kernel
theorem dX2_isSameAs_12 : decode cX2_isSameAs 12 = .ok (.ireturn, 1) := by decide +kernel
theorem dX2_isSameAs_13 : decode cX2_isSameAs 13 = .ok (.iconst 0, 1) := by decide +kernel
theorem dX2_isSameAs_14 : decode cX2_isSameAs 14 = .ok (.istore_n 3, 1) := by decide +kernel
theorem dX2_isSameAs_15 : decode cX2_isSameAs 15 = .ok (.iload_n 3, 1) := by decide +kernel
theorem dX2_isSameAs_16 : decode cX2_isSameAs 16 = .ok (.iload_n 2, 1) := by decide +kernel
theorem dX2_isSameAs_17 : decode cX2_isSameAs 17 = .ok (.if_icmp .ge 26, 3) := by decide +kernel
theorem dX2_isSameAs_20 : decode cX2_isSameAs 20 = .ok (.aload_n 0, 1) := by decide +kernel
theorem dX2_isSameAs_21 : decode cX2_isSameAs 21 = .ok (.getfield 9, 3) := by decide +kernel
theorem dX2_isSameAs_24 : decode cX2_isSameAs 24 = .ok (.iload_n 3, 1) := by decide +kernel
theorem dX2_isSameAs_25 : decode cX2_isSameAs 25 = .ok (.iaload, 1) := by decide +kernel
theorem dX2_isSameAs_26 : decode cX2_isSameAs 26 = .ok (.aload_n 1, 1) := by decide +kernel
theorem dX2_isSameAs_27 : decode cX2_isSameAs 27 = .ok (.getfield 9, 3) := by decide +kernel
theorem dX2_isSameAs_30 : decode cX2_isSameAs 30 = .ok (.iload_n 3, 1) := by decide +kernel
theorem dX2_isSameAs_31 : decode cX2_isSameAs 31 = .ok (.iaload, 1) := by decide +kernel
theorem dX2_isSameAs_32 : decode cX2_isSameAs 32 = .ok (.if_icmp .eq 5, 3) := by decide +kernel
theorem dX2_isSameAs_35 : decode cX2_isSameAs 35 = .ok (.iconst 0, 1) := by decide +kernel
theorem dX2_isSameAs_36 : decode cX2_isSameAs 36 = .ok (.ireturn, 1) := by decide +kernel
theorem dX2_isSameAs_37 : decode cX2_isSameAs 37 = .ok (.iinc 3 1, 3) := by decide +kernel
theorem dX2_isSameAs_40 : decode cX2_isSameAs 40 = .ok (.goto (-25), 3) := by decide +kernel
theorem dX2_isSameAs_43 : decode cX2_isSameAs 43 = .ok (.iconst 1, 1) := by decide +kernel
theorem dX2_isSameAs_44 : decode cX2_isSameAs 44 = .ok (.ireturn, 1) := by decide +kernel
theorem dX3_init_0 : decode cX3_init 0 = .ok (.aload_n 0, 1) := by decide +kernel
theorem dX3_init_1 : decode cX3_init 1 = .ok (.invokespecial 3, 3) := by decide +kernel
theorem dX3_init_4 : decode cX3_init 4 = .ok (.aload_n 0, 1) := by decide +kernel
theorem dX3_init_5 : decode cX3_init 5 = .ok (.bipush 8, 2) := by decide +kernel
theorem dX3_init_7 : decode cX3_init 7 = .ok (.newarray .int, 2) := by decide +kernel
theorem dX3_init_9 : decode cX3_init 9 = .ok (.putfield 9, 3) := by decide +kernel
theorem dX3_init_12 : decode cX3_init 12 = .ok (.aload_n 0, 1) := by decide +kernel
theorem dX3_init_13 : decode cX3_init 13 = .ok (.bipush 8, 2) := by decide +kernel
theorem dX3_init_15 : decode cX3_init 15 = .ok (.newarray .int, 2) := by decide +kernel
theorem dX3_init_17 : decode cX3_init 17 = .ok (.putfield 15, 3) := by decide +kernel
theorem dX3_init_20 : decode cX3_init 20 = .ok (.aload_n 0, 1) := by decide +kernel
theorem dX3_init_21 : decode cX3_init 21 = .ok (.bipush 56, 2) := by decide +kernel
theorem dX3_init_23 : decode cX3_init 23 = .ok (.newarray .int, 2) := by decide +kernel
theorem dX3_init_25 : decode cX3_init 25 = .ok (.putfield 18, 3) := by decide +kernel
theorem dX3_init_28 : decode cX3_init 28 = .ok (.aload_n 0, 1) := by decide +kernel
theorem dX3_init_29 : decode cX3_init 29 = .ok (.iconst 4, 1) := by decide +kernel
theorem dX3_init_30 : decode cX3_init 30 = .ok (.newarray .int, 2) := by decide +kernel
theorem dX3_init_32 : decode cX3_init 32 = .ok (.putfield 21, 3) := by decide +kernel
theorem dX3_init_35 : decode cX3_init 35 = .ok (.aload_n 0, 1) := by decide +kernel
theorem dX3_init_36 : decode cX3_init 36 = .ok (.iconst 0, 1) := by decide +kernel
theorem dX3_init_37 : decode cX3_init 37 = .ok (.putfield 24, 3) := by decide +kernel
theorem dX3_init_40 : decode cX3_init 40 = .ok (.return_, 1) := by decide +kernel
theorem dX3_reset_0 : decode cX3_reset 0 = .ok (.iconst 0, 1) := by decide +kernel
theorem dX3_reset_1 : decode cX3_reset 1 = .ok (.istore_n 1, 1) := by decide +kernel
theorem dX3_reset_2 : decode cX3_reset 2 = .ok (.iload_n 1, 1) := by decide +kernel
theorem dX3_reset_3 : decode cX3_reset 3 = .ok (.bipush 8, 2) := by decide +kernel
theorem dX3_reset_5 : decode cX3_reset 5 = .ok (.if_icmp .ge 23, 3) := by decide +kernel
theorem dX3_reset_8 : decode cX3_reset 8 = .ok (.aload_n 0, 1) := by decide +kernel
theorem dX3_reset_9 : decode cX3_reset 9 = .ok (.getfield 9, 3) := by decide +kernel
theorem dX3_reset_12 : decode cX3_reset 12 = .ok (.iload_n 1, 1) := by decide +kernel
theorem dX3_reset_13 : decode cX3_reset 13 = .ok (.iconst 0, 1) := by decide +kernel
theorem dX3_reset_14 : decode cX3_reset 14 = .ok (.iastore, 1) := by decide +kernel
theorem dX3_reset_15 : decode cX3_reset 15 = .ok (.aload_n 0, 1) := by decide +kernel
theorem dX3_reset_16 : decode cX3_reset 16 = .ok (.getfield 15, 3) := by decide +kernel
theorem dX3_reset_19 : decode cX3_reset 19 = .ok (.iload_n 1, 1) := by decide +kernel
theorem dX3_reset_20 : decode cX3_reset 20 = .ok (.iconst 0, 1) := by decide +kernel
theorem dX3_reset_21 : decode cX3_reset 21 = .ok (.iastore, 1) := by decide +kernel
theorem dX3_reset_22 : decode cX3_reset 22 = .ok (.iinc 1 1, 3) := by decide +kernel
theorem dX3_reset_25 : decode cX3_reset 25 = .ok (.goto (-23), 3) := by decide +kernel
theorem dX3_reset_28 : decode cX3_reset 28 = .ok (.iconst 0, 1) := by decide +kernel
theorem dX3_reset_29 : decode cX3_reset 29 = .ok (.istore_n 1, 1) := by decide +kernel
theorem dX3_reset_30 : decode cX3_reset 30 = .ok (.iload_n 1, 1) := by decide +kernel
theorem dX3_reset_31 : decode cX3_reset 31 = .ok (.bipush 56, 2) := by decide +kernel
theorem dX3_reset_33 : decode cX3_reset 33 = .ok (.if_icmp .ge 16, 3) := by decide +kernel
theorem dX3_reset_36 : decode cX3_reset 36 = .ok (.aload_n 0, 1) := by decide +kernel
theorem dX3_reset_37 : decode cX3_reset 37 = .ok (.getfield 18, 3) := by decide +kernel
theorem dX3_reset_40 : decode cX3_reset 40 = .ok (.iload_n 1, 1) := by decide +kernel
theorem dX3_reset_41 : decode cX3_reset 41 = .ok (.iconst 0, 1) := by decide +kernel
theorem dX3_reset_42 : decode cX3_reset 42 = .ok (.iastore, 1) := by decide +kernel
theorem dX3_reset_43 : decode cX3_reset 43 = .ok (.iinc 1 1, 3) := by decide +kernel
theorem dX3_reset_46 : decode cX3_reset 46 = .ok (.goto (-16), 3) := by decide +kernel
theorem dX3_reset_49 : decode cX3_reset 49 = .ok (.aload_n 0, 1) := by decide +kernel
theorem dX3_reset_50 : decode cX3_reset 50 = .ok (.iconst 0, 1) := by decide +kernel
theorem dX3_reset_51 : decode cX3_reset 51 = .ok (.putfield 24, 3) := by decide +kernel
theorem dX3_reset_54 : decode cX3_reset 54 = .ok (.return_, 1) := by decide +kernel
theorem dX3_copyFrom_0 : decode cX3_copyFrom 0 = .ok (.aload_n 1, 1) := by decide +kernel
theorem dX3_copyFrom_1 : decode cX3_copyFrom 1 = .ok (.getfield 9, 3) := by decide +kernel
theorem dX3_copyFrom_4 : decode cX3_copyFrom 4 = .ok (.iconst 0, 1) := by decide +kernel
theorem dX3_copyFrom_5 : decode cX3_copyFrom 5 = .ok (.aload_n 0, 1) := by decide +kernel
theorem dX3_copyFrom_6 : decode cX3_copyFrom 6 = .ok (.getfield 9, 3) := by decide +kernel
theorem dX3_copyFrom_9 : decode cX3_copyFrom 9 = .ok (.iconst 0, 1) := by decide +kernel
theorem dX3_copyFrom_10 : decode cX3_copyFrom 10 = .ok (.bipush 8, 2) := by decide +kernel
theorem dX3_copyFrom_12 : decode cX3_copyFrom 12 = .ok (.invokestatic 28, 3) := by decide +kernel
theorem dX3_copyFrom_15 : decode cX3_copyFrom 15 = .ok (.aload_n 1, 1) := by decide +kernel
theorem dX3_copyFrom_16 : decode cX3_copyFrom 16 = .ok (.getfield 15, 3) := by decide +kernel
theorem dX3_copyFrom_19 : decode cX3_copyFrom 19 = .ok (.iconst 0, 1) := by decide +kernel
theorem dX3_copyFrom_20 : decode cX3_copyFrom 20 = .ok (.aload_n 0, 1) := by decide +kernel
theorem dX3_copyFrom_21 : decode cX3_copyFrom 21 = .ok (.getfield 15, 3) := by decide +kernel
theorem dX3_copyFrom_24 : decode cX3_copyFrom 24 = .ok (.iconst 0, 1) := by decide +kernel
theorem dX3_copyFrom_25 : decode cX3_copyFrom 25 = .ok (.bipush 8, 2) := by decide +kernel
theorem dX3_copyFrom_27 : decode cX3_copyFrom 27 = .ok (.invokestatic 28, 3) := by decide +kernel
theorem dX3_copyFrom_30 : decode cX3_copyFrom 30 = .ok (.aload_n 1, 1) := by decide +kernel
theorem dX3_copyFrom_31 : decode cX3_copyFrom 31 = .ok (.getfield 18, 3) := by decide +kernel
theorem dX3_copyFrom_34 : decode cX3_copyFrom 34 = .ok (.iconst 0, 1) := by decide +kernel
theorem dX3_copyFrom_35 : decode cX3_copyFrom 35 = .ok (.aload_n 0, 1) := by decide +kernel
theorem dX3_copyFrom_36 : decode cX3_copyFrom 36 = .ok (.getfield 18, 3) := by decide +kernel
theorem dX3_copyFrom_39 : decode cX3_copyFrom 39 = .ok (.iconst 0, 1) := by decide +kernel
theorem dX3_copyFrom_40 : decode cX3_copyFrom 40 = .ok (.bipush 56, 2) := by decide +kernel
theorem dX3_copyFrom_42 : decode cX3_copyFrom 42 = .ok (.invokestatic 28, 3) := by decide +kernel
theorem dX3_copyFrom_45 : decode cX3_copyFrom 45 = .ok (.aload_n 1, 1) := by decide +kernel
theorem dX3_copyFrom_46 : decode cX3_copyFrom 46 = .ok (.getfield 21, 3) := by decide +kernel
theorem dX3_copyFrom_49 : decode cX3_copyFrom 49 = .ok (.iconst 0, 1) := by decide +kernel
theorem dX3_copyFrom_50 : decode cX3_copyFrom 50 = .ok (.aload_n 0, 1) := by decide +kernel
theorem dX3_copyFrom_51 : decode cX3_copyFrom 51 = .ok (.getfield 21, 3) := by decide +kernel
theorem dX3_copyFrom_54 : decode cX3_copyFrom 54 = .ok (.iconst 0, 1) := by decide +kernel
theorem dX3_copyFrom_55 : decode cX3_copyFrom 55 = .ok (.iconst 4, 1) := by decide +kernel
theorem dX3_copyFrom_56 : decode cX3_copyFrom 56 = .ok (.invokestatic 28, 3) := by decide +kernel
theorem dX3_copyFrom_59 : decode cX3_copyFrom 59 = .ok (.aload_n 0, 1) := by decide +kernel
theorem dX3_copyFrom_60 : decode cX3_copyFrom 60 = .ok (.aload_n 1, 1) := by decide +kernel
theorem dX3_copyFrom_61 : decode cX3_copyFrom 61 = .ok (.getfield 24, 3) := by decide +kernel
theorem dX3_copyFrom_64 : decode cX3_copyFrom 64 = .ok (.putfield 24, 3) := by decide +kernel
theorem dX3_copyFrom_67 : decode cX3_copyFrom 67 = .ok (.return_, 1) := by decide +kernel
theorem dX3_hasWalker_0 : decode cX3_hasWalker 0 = .ok (.iload_n 1, 1) := by decide +kernel
theorem dX3_hasWalker_1 : decode cX3_hasWalker 1 = .ok (.ifCond .lt 15, 3) := by decide +kernel
theorem dX3_hasWalker_4 : decode cX3_hasWalker 4 = .ok (.iload_n 1, 1) := by decide +kernel
theorem dX3_hasWalker_5 : decode cX3_hasWalker 5 = .ok (.aload_n 0, 1) := by decide +kernel
theorem dX3_hasWalker_6 : decode cX3_hasWalker 6 = .ok (.getfield 24, 3) := by decide +kernel
theorem dX3_hasWalker_9 : decode cX3_hasWalker 9 = .ok (.if_icmp .ge 7, 3) := by decide +kernel
theorem dX3_hasWalker_12 : decode cX3_hasWalker 12 = .ok (.iconst 1, 1) := by decide +kernel
theorem dX3_hasWalker_13 : decode cX3_hasWalker 13 = .ok (.goto 4, 3) := by decide +kernel
theorem dX3_hasWalker_16 : decode cX3_hasWalker 16 = .ok (.iconst 0, 1) := by decide +kernel
theorem dX3_hasWalker_17 : decode cX3_hasWalker 17 = .ok (.ireturn, 1) := by decide +kernel
set_option maxRecDepth 20000 in
theorem ggX3_move_X0_slot : GoodIn wsX3_move wsX0_slot := goodIn_r _ [9] rfl (by decide +kernel)
set_option maxRecDepth 20000 in
theorem gX3_move_X0_slot : GoodIn wsX3_move (va_wsS RX3 34 yX0_slot wsX0_slot) := goodIn_app (goodIn_of _ (by decide +kernel)) ggX3_move_X0_slot
set_option maxRecDepth 20000 in
theorem ggX3_move_X0_rotorAfter : GoodIn wsX3_move wsX0_rotorAfter := goodIn_r _ [13, 14, 20, 21, 22, 23] rfl (by decide +kernel)
set_option maxRecDepth 20000 in
theorem gX3_move_X0_rotorAfter : GoodIn wsX3_move (wsV RX3 43 RX0 yX0_rotorAfter wsX0_rotorAfter) := goodIn_app (goodIn_of _ (by decide +kernel)) ggX3_move_X0_rotorAfter
theorem dX3_move_0 : decode cX3_move 0 = .ok (.aload_n 0, 1) := by decide +kernel
theorem dX3_move_1 : decode cX3_move 1 = .ok (.getfield 21, 3) := by decide +kernel
theorem dX3_move_4 : decode cX3_move 4 = .ok (.iload_n 1, 1) := by decide +kernel
theorem dX3_move_5 : decode cX3_move 5 = .ok (.iaload, 1) := by decide +kernel
theorem dX3_move_6 : decode cX3_move 6 = .ok (.istore_n 3, 1) := by decide +kernel
theorem dX3_move_7 : decode cX3_move 7 = .ok (.iload_n 3, 1) := by decide +kernel
theorem dX3_move_8 : decode cX3_move 8 = .ok (.aload_n 0, 1) := by decide +kernel
theorem dX3_move_9 : decode cX3_move 9 = .ok (.getfield 9, 3) := by decide +kernel
theorem dX3_move_12 : decode cX3_move 12 = .ok (.iload_n 3, 1) := by decide +kernel
theorem dX3_move_13 : decode cX3_move 13 = .ok (.iaload, 1) := by decide +kernel
theorem dX3_move_14 : decode cX3_move 14 = .ok (.invokestatic 34, 3) := by decide +kernel
theorem dX3_move_17 : decode cX3_move 17 = .ok (.istore 4, 2) := by decide +kernel
theorem dX3_move_19 : decode cX3_move 19 = .ok (.aload_n 2, 1) := by decide +kernel
theorem dX3_move_20 : decode cX3_move 20 = .ok (.getfield 40, 3) := by decide +kernel
theorem dX3_move_23 : decode cX3_move 23 = .ok (.iload 4, 2) := by decide +kernel
theorem dX3_move_25 : decode cX3_move 25 = .ok (.iaload, 1) := by decide +kernel
theorem dX3_move_26 : decode cX3_move 26 = .ok (.istore 5, 2) := by decide +kernel
theorem dX3_move_28 : decode cX3_move 28 = .ok (.aload_n 0, 1) := by decide +kernel
theorem dX3_move_29 : decode cX3_move 29 = .ok (.getfield 18, 3) := by decide +kernel
theorem dX3_move_32 : decode cX3_move 32 = .ok (.iload 4, 2) := by decide +kernel
theorem dX3_move_34 : decode cX3_move 34 = .ok (.dup2, 1) := by decide +kernel
theorem dX3_move_35 : decode cX3_move 35 = .ok (.iaload, 1) := by decide +kernel
theorem dX3_move_36 : decode cX3_move 36 = .ok (.iconst 1, 1) := by decide +kernel
theorem dX3_move_37 : decode cX3_move 37 = .ok (.iadd, 1) := by decide +kernel
theorem dX3_move_38 : decode cX3_move 38 = .ok (.iastore, 1) := by decide +kernel
theorem dX3_move_39 : decode cX3_move 39 = .ok (.aload_n 0, 1) := by decide +kernel
theorem dX3_move_40 : decode cX3_move 40 = .ok (.getfield 15, 3) := by decide +kernel
theorem dX3_move_43 : decode cX3_move 43 = .ok (.iload 5, 2) := by decide +kernel
theorem dX3_move_45 : decode cX3_move 45 = .ok (.dup2, 1) := by decide +kernel
theorem dX3_move_46 : decode cX3_move 46 = .ok (.iaload, 1) := by decide +kernel
theorem dX3_move_47 : decode cX3_move 47 = .ok (.iconst 1, 1) := by decide +kernel
theorem dX3_move_48 : decode cX3_move 48 = .ok (.iadd, 1) := by decide +kernel
theorem dX3_move_49 : decode cX3_move 49 = .ok (.iastore, 1) := by decide +kernel
theorem dX3_move_50 : decode cX3_move 50 = .ok (.aload_n 0, 1) := by decide +kernel
theorem dX3_move_51 : decode cX3_move 51 = .ok (.getfield 9, 3) := by decide +kernel
theorem dX3_move_54 : decode cX3_move 54 = .ok (.iload_n 3, 1) := by decide +kernel
theorem dX3_move_55 : decode cX3_move 55 = .ok (.aload_n 2, 1) := by decide +kernel
theorem dX3_move_56 : decode cX3_move 56 = .ok (.iload_n 3, 1) := by decide +kernel
theorem dX3_move_57 : decode cX3_move 57 = .ok (.aload_n 0, 1) := by decide +kernel
theorem dX3_move_58 : decode cX3_move 58 = .ok (.getfield 9, 3) := by decide +kernel
theorem dX3_move_61 : decode cX3_move 61 = .ok (.iload_n 3, 1) := by decide +kernel
theorem dX3_move_62 : decode cX3_move 62 = .ok (.iaload, 1) := by decide +kernel
theorem dX3_move_63 : decode cX3_move 63 = .ok (.invokevirtual 43, 3) := by decide +kernel
theorem dX3_move_66 : decode cX3_move 66 = .ok (.iastore, 1) := by decide +kernel
theorem dX3_move_67 : decode cX3_move 67 = .ok (.aload_n 0, 1) := by decide +kernel
theorem dX3_move_68 : decode cX3_move 68 = .ok (.getfield 21, 3) := by decide +kernel
theorem dX3_move_71 : decode cX3_move 71 = .ok (.iload_n 1, 1) := by decide +kernel
theorem dX3_move_72 : decode cX3_move 72 = .ok (.iload 5, 2) := by decide +kernel
theorem dX3_move_74 : decode cX3_move 74 = .ok (.iastore, 1) := by decide +kernel
theorem dX3_move_75 : decode cX3_move 75 = .ok (.return_, 1) := by decide +kernel
set_option maxRecDepth 20000 in
theorem ggX4_init_X1_init : GoodIn wsX4_init wsX1_init := goodIn_r _ [30, 31, 2, 3, 23, 32, 33, 54, 55] rfl (by decide +kernel)
set_option maxRecDepth 20000 in
theorem gX4_init_X1_init_n11 : GoodIn wsX4_init (wsX1_init) := ggX4_init_X1_init
set_option maxRecDepth 20000 in
theorem ggX4_init_X0_init : GoodIn wsX4_init wsX0_init := goodIn_r _ [35, 36, 2, 3, 23, 37, 38, 39, 40, 67, 68, 69, 70] rfl (by decide +kernel)
set_option maxRecDepth 20000 in
theorem gX4_init_X0_init_n18 : GoodIn wsX4_init (wsX0_init) := ggX4_init_X0_init
set_option maxRecDepth 20000 in
theorem ggX4_init_X3_init : GoodIn wsX4_init wsX3_init := goodIn_r _ [42, 43, 2, 3, 23, 44, 45, 46, 47, 48, 71, 72, 73, 74, 75] rfl (by decide +kernel)
set_option maxRecDepth 20000 in
theorem gX4_init_X3_init_n25 : GoodIn wsX4_init (wsX3_init) := ggX4_init_X3_init
set_option maxRecDepth 20000 in
theorem ggX4_init_X2_init : GoodIn wsX4_init wsX2_init := goodIn_r _ [50, 51, 2, 3, 23, 52, 53, 76, 77] rfl (by decide +kernel)
set_option maxRecDepth 20000 in
theorem gX4_init_X2_init_n39 : GoodIn wsX4_init (wsX2_init) := ggX4_init_X2_init
theorem dX4_init_0 : decode cX4_init 0 = .ok (.aload_n 0, 1) := by decide +kernel
theorem dX4_init_1 : decode cX4_init 1 = .ok (.invokespecial 3, 3) := by decide +kernel
theorem dX4_init_4 : decode cX4_init 4 = .ok (.aload_n 0, 1) := by decide +kernel
theorem dX4_init_5 : decode cX4_init 5 = .ok (.new 9, 3) := by decide +kernel
theorem dX4_init_8 : decode cX4_init 8 = .ok (.dup, 1) := by decide +kernel
theorem dX4_init_9 : decode cX4_init 9 = .ok (.invokespecial 11, 3) := by decide +kernel
theorem dX4_init_12 : decode cX4_init 12 = .ok (.putfield 12, 3) := by decide +kernel
theorem dX4_init_15 : decode cX4_init 15 = .ok (.aload_n 0, 1) := by decide +kernel
theorem dX4_init_16 : decode cX4_init 16 = .ok (.new 16, 3) := by decide +kernel
theorem dX4_init_19 : decode cX4_init 19 = .ok (.dup, 1) := by decide +kernel
theorem dX4_init_20 : decode cX4_init 20 = .ok (.invokespecial 18, 3) := by decide +kernel
theorem dX4_init_23 : decode cX4_init 23 = .ok (.putfield 19, 3) := by decide +kernel
theorem dX4_init_26 : decode cX4_init 26 = .ok (.aload_n 0, 1) := by decide +kernel
theorem dX4_init_27 : decode cX4_init 27 = .ok (.new 23, 3) := by decide +kernel
theorem dX4_init_30 : decode cX4_init 30 = .ok (.dup, 1) := by decide +kernel
theorem dX4_init_31 : decode cX4_init 31 = .ok (.invokespecial 25, 3) := by decide +kernel
theorem dX4_init_34 : decode cX4_init 34 = .ok (.putfield 26, 3) := by decide +kernel
theorem dX4_init_37 : decode cX4_init 37 = .ok (.aload_n 0, 1) := by decide +kernel
theorem dX4_init_38 : decode cX4_init 38 = .ok (.new 23, 3) := by decide +kernel
theorem dX4_init_41 : decode cX4_init 41 = .ok (.dup, 1) := by decide +kernel
theorem dX4_init_42 : decode cX4_init 42 = .ok (.invokespecial 25, 3) := by decide +kernel
theorem dX4_init_45 : decode cX4_init 45 = .ok (.putfield 30, 3) := by decide +kernel
theorem dX4_init_48 : decode cX4_init 48 = .ok (.aload_n 0, 1) := by decide +kernel
theorem dX4_init_49 : decode cX4_init 49 = .ok (.iconst 0, 1) := by decide +kernel
theorem dX4_init_50 : decode cX4_init 50 = .ok (.putfield 33, 3) := by decide +kernel
theorem dX4_init_53 : decode cX4_init 53 = .ok (.aload_n 0, 1) := by decide +kernel
theorem dX4_init_54 : decode cX4_init 54 = .ok (.new 37, 3) := by decide +kernel
theorem dX4_init_57 : decode cX4_init 57 = .ok (.dup, 1) := by decide +kernel
theorem dX4_init_58 : decode cX4_init 58 = .ok (.invokespecial 39, 3) := by decide +kernel
theorem dX4_init_61 : decode cX4_init 61 = .ok (.putfield 40, 3) := by decide +kernel
theorem dX4_init_64 : decode cX4_init 64 = .ok (.aload_n 0, 1) := by decide +kernel
theorem dX4_init_65 : decode cX4_init 65 = .ok (.new 37, 3) := by decide +kernel
theorem dX4_init_68 : decode cX4_init 68 = .ok (.dup, 1) := by decide +kernel
theorem dX4_init_69 : decode cX4_init 69 = .ok (.invokespecial 39, 3) := by decide +kernel
theorem dX4_init_72 : decode cX4_init 72 = .ok (.putfield 44, 3) := by decide +kernel
theorem dX4_init_75 : decode cX4_init 75 = .ok (.aload_n 0, 1) := by decide +kernel
theorem dX4_init_76 : decode cX4_init 76 = .ok (.bipush 8, 2) := by decide +kernel
theorem dX4_init_78 : decode cX4_init 78 = .ok (.newarray .int, 2) := by decide +kernel
theorem dX4_init_80 : decode cX4_init 80 = .ok (.putfield 47, 3) := by decide +kernel
theorem dX4_init_83 : decode cX4_init 83 = .ok (.aload_n 0, 1) := by decide +kernel
theorem dX4_init_84 : decode cX4_init 84 = .ok (.bipush 8, 2) := by decide +kernel
theorem dX4_init_86 : decode cX4_init 86 = .ok (.newarray .int, 2) := by decide +kernel
theorem dX4_init_88 : decode cX4_init 88 = .ok (.putfield 51, 3) := by decide +kernel
theorem dX4_init_91 : decode cX4_init 91 = .ok (.aload_n 0, 1) := by decide +kernel
theorem dX4_init_92 : decode cX4_init 92 = .ok (.bipush 8, 2) := by decide +kernel
theorem dX4_init_94 : decode cX4_init 94 = .ok (.newarray .double, 2) := by decide +kernel
theorem dX4_init_96 : decode cX4_init 96 = .ok (.putfield 54, 3) := by decide +kernel
theorem dX4_init_99 : decode cX4_init 99 = .ok (.aload_n 0, 1) := by decide +kernel
theorem dX4_init_100 : decode cX4_init 100 = .ok (.bipush 8, 2) := by decide +kernel
theorem dX4_init_102 : decode cX4_init 102 = .ok (.newarray .double, 2) := by decide +kernel
theorem dX4_init_104 : decode cX4_init 104 = .ok (.putfield 58, 3) := by decide +kernel
theorem dX4_init_107 : decode cX4_init 107 = .ok (.return_, 1) := by decide +kernel
theorem dX4_append_0 : decode cX4_append 0 = .ok (.iload_n 1, 1) := by decide +kernel
theorem dX4_append_1 : decode cX4_append 1 = .ok (.bipush 32, 2) := by decide +kernel
theorem dX4_append_3 : decode cX4_append 3 = .ok (.if_icmp .lt 9, 3) := by decide +kernel
theorem dX4_append_6 : decode cX4_append 6 = .ok (.iload_n 1, 1) := by decide +kernel
theorem dX4_append_7 : decode cX4_append 7 = .ok (.bipush 126, 2) := by decide +kernel
theorem dX4_append_9 : decode cX4_append 9 = .ok (.if_icmp .le 5, 3) := by decide +kernel
theorem dX4_append_12 : decode cX4_append 12 = .ok (.iconst (-1), 1) := by decide +kernel
theorem dX4_append_13 : decode cX4_append 13 = .ok (.ireturn, 1) := by decide +kernel
theorem dX4_append_14 : decode cX4_append 14 = .ok (.aload_n 0, 1) := by decide +kernel
theorem dX4_append_15 : decode cX4_append 15 = .ok (.getfield 12, 3) := by decide +kernel
theorem dX4_append_18 : decode cX4_append 18 = .ok (.getfield 61, 3) := by decide +kernel
theorem dX4_append_21 : decode cX4_append 21 = .ok (.bipush 40, 2) := by decide +kernel
theorem dX4_append_23 : decode cX4_append 23 = .ok (.if_icmp .lt 6, 3) := by decide +kernel
theorem dX4_append_26 : decode cX4_append 26 = .ok (.bipush (-2), 2) := by decide +kernel
theorem dX4_append_28 : decode cX4_append 28 = .ok (.ireturn, 1) := by decide +kernel
theorem dX4_append_29 : decode cX4_append 29 = .ok (.aload_n 0, 1) := by decide +kernel
theorem dX4_append_30 : decode cX4_append 30 = .ok (.getfield 12, 3) := by decide +kernel
theorem dX4_append_33 : decode cX4_append 33 = .ok (.getfield 65, 3) := by decide +kernel
theorem dX4_append_36 : decode cX4_append 36 = .ok (.aload_n 0, 1) := by decide +kernel
theorem dX4_append_37 : decode cX4_append 37 = .ok (.getfield 12, 3) := by decide +kernel
theorem dX4_append_40 : decode cX4_append 40 = .ok (.getfield 61, 3) := by decide +kernel
theorem dX4_append_43 : decode cX4_append 43 = .ok (.iload_n 1, 1) := by decide +kernel
theorem dX4_append_44 : decode cX4_append 44 = .ok (.iastore, 1) := by decide +kernel
theorem dX4_append_45 : decode cX4_append 45 = .ok (.aload_n 0, 1) := by decide +kernel
theorem dX4_append_46 : decode cX4_append 46 = .ok (.getfield 12, 3) := by decide +kernel
theorem dX4_append_49 : decode cX4_append 49 = .ok (.dup, 1) := by decide +kernel
theorem dX4_append_50 : decode cX4_append 50 = .ok (.getfield 61, 3) := by decide +kernel
theorem dX4_append_53 : decode cX4_append 53 = .ok (.iconst 1, 1) := by decide +kernel
theorem dX4_append_54 : decode cX4_append 54 = .ok (.iadd, 1) := by decide +kernel
theorem dX4_append_55 : decode cX4_append 55 = .ok (.putfield 61, 3) := by decide +kernel
theorem dX4_append_58 : decode cX4_append 58 = .ok (.aload_n 0, 1) := by decide +kernel
theorem dX4_append_59 : decode cX4_append 59 = .ok (.getfield 12, 3) := by decide +kernel
theorem dX4_append_62 : decode cX4_append 62 = .ok (.getfield 61, 3) := by decide +kernel
theorem dX4_append_65 : decode cX4_append 65 = .ok (.ireturn, 1) := by decide +kernel
theorem dX4_clearInput_0 : decode cX4_clearInput 0 = .ok (.aload_n 0, 1) := by decide +kernel
theorem dX4_clearInput_1 : decode cX4_clearInput 1 = .ok (.getfield 12, 3) := by decide +kernel
theorem dX4_clearInput_4 : decode cX4_clearInput 4 = .ok (.getfield 61, 3) := by decide +kernel
theorem dX4_clearInput_7 : decode cX4_clearInput 7 = .ok (.istore_n 1, 1) := by decide +kernel
theorem dX4_clearInput_8 : decode cX4_clearInput 8 = .ok (.aload_n 0, 1) := by decide +kernel
theorem dX4_clearInput_9 : decode cX4_clearInput 9 = .ok (.getfield 12, 3) := by decide +kernel
theorem dX4_clearInput_12 : decode cX4_clearInput 12 = .ok (.iconst 0, 1) := by decide +kernel
theorem dX4_clearInput_13 : decode cX4_clearInput 13 = .ok (.putfield 61, 3) := by decide +kernel
theorem dX4_clearInput_16 : decode cX4_clearInput 16 = .ok (.iload_n 1, 1) := by decide +kernel
theorem dX4_clearInput_17 : decode cX4_clearInput 17 = .ok (.ireturn, 1) := by decide +kernel
set_option maxRecDepth 20000 in
theorem ggX4_firstError_X1_firstBrokenIndex : GoodIn wsX4_firstError wsX1_firstBrokenIndex := goodIn_r _ [6, 7, 8, 9, 10, 5, 11, 12, 13, 14, 15, 16, 17, 18, 19, 20, 21, 22, 23, 35, 36] rfl (by decide +kernel)
set_option maxRecDepth 20000 in
theorem gX4_firstError_X1_firstBrokenIndex : GoodIn wsX4_firstError (wsV RX4 68 RX1 yX1_firstBrokenIndex wsX1_firstBrokenIndex) := goodIn_app (goodIn_of _ (by decide +kernel)) ggX4_firstError_X1_firstBrokenIndex
theorem dX4_firstError_0 : decode cX4_firstError 0 = .ok (.aload_n 0, 1) := by decide +kernel
theorem dX4_firstError_1 : decode cX4_firstError 1 = .ok (.getfield 12, 3) := by decide +kernel
theorem dX4_firstError_4 : decode cX4_firstError 4 = .ok (.invokevirtual 68, 3) := by decide +kernel
theorem dX4_firstError_7 : decode cX4_firstError 7 = .ok (.ireturn, 1) := by decide +kernel
set_option maxRecDepth 20000 in
theorem ggX4_load_X1_isComplete : GoodIn wsX4_load wsX1_isComplete := goodIn_r _ [11, 12, 13, 14, 10, 15, 16, 17, 18, 19, 20, 21, 22, 23, 24, 25, 26, 27, 28, 29, 30, 31, 32, 93, 94] rfl (by decide +kernel)
set_option maxRecDepth 20000 in
theorem gX4_load_X1_isComplete : GoodIn wsX4_load (wsV RX4 72 RX1 yX1_isComplete wsX1_isComplete) := goodIn_app (goodIn_of _ (by decide +kernel)) ggX4_load_X1_isComplete
set_option maxRecDepth 20000 in
theorem ggX4_load_X1_isConnected : GoodIn wsX4_load wsX1_isConnected := goodIn_r _ [36, 37, 38, 39, 10, 40, 24, 41, 42, 43, 44, 12, 45, 46, 47, 48, 49, 50, 51, 52, 93, 94] rfl (by decide +kernel)
set_option maxRecDepth 20000 in
theorem gX4_load_X1_isConnected : GoodIn wsX4_load (wsV RX4 76 RX1 yX1_isConnected wsX1_isConnected) := goodIn_app (goodIn_of _ (by decide +kernel)) ggX4_load_X1_isConnected
set_option maxRecDepth 20000 in
theorem ggX4_load_X0_build : GoodIn wsX4_load wsX0_build := goodIn_r _ [57, 58, 59, 60, 61, 38, 39, 10, 40, 24, 62, 42, 43, 44, 12, 63, 46, 47, 48, 64, 50, 51, 52, 65, 66, 67, 56, 68, 69, 70, 71, 72, 95, 96, 97, 98, 93, 94] rfl (by decide +kernel)
set_option maxRecDepth 20000 in
theorem gX4_load_X0_build : GoodIn wsX4_load (wsV RX4 79 RX0 yX0_build wsX0_build) := goodIn_app (goodIn_of _ (by decide +kernel)) ggX4_load_X0_build
set_option maxRecDepth 20000 in
theorem ggX4_load_X3_reset : GoodIn wsX4_load wsX3_reset := goodIn_r _ [77, 78, 79, 80, 81, 99, 100, 101, 102, 103] rfl (by decide +kernel)
set_option maxRecDepth 20000 in
theorem gX4_load_X3_reset : GoodIn wsX4_load (wsV RX4 83 RX3 yX3_reset wsX3_reset) := goodIn_app (goodIn_of _ (by decide +kernel)) ggX4_load_X3_reset
theorem dX4_load_0 : decode cX4_load 0 = .ok (.aload_n 0, 1) := by decide +kernel
theorem dX4_load_1 : decode cX4_load 1 = .ok (.getfield 12, 3) := by decide +kernel
theorem dX4_load_4 : decode cX4_load 4 = .ok (.invokevirtual 72, 3) := by decide +kernel
theorem dX4_load_7 : decode cX4_load 7 = .ok (.ifCond .eq 13, 3) := by decide +kernel
theorem dX4_load_10 : decode cX4_load 10 = .ok (.aload_n 0, 1) := by decide +kernel
theorem dX4_load_11 : decode cX4_load 11 = .ok (.getfield 12, 3) := by decide +kernel
theorem dX4_load_14 : decode cX4_load 14 = .ok (.invokevirtual 76, 3) := by decide +kernel
theorem dX4_load_17 : decode cX4_load 17 = .ok (.ifCond .ne 6, 3) := by decide +kernel
theorem dX4_load_20 : decode cX4_load 20 = .ok (.bipush (-3), 2) := by decide +kernel
theorem dX4_load_22 : decode cX4_load 22 = .ok (.ireturn, 1) := by decide +kernel
theorem dX4_load_23 : decode cX4_load 23 = .ok (.aload_n 0, 1) := by decide +kernel
theorem dX4_load_24 : decode cX4_load 24 = .ok (.getfield 19, 3) := by decide +kernel
theorem dX4_load_27 : decode cX4_load 27 = .ok (.aload_n 0, 1) := by decide +kernel
theorem dX4_load_28 : decode cX4_load 28 = .ok (.getfield 12, 3) := by decide +kernel
theorem dX4_load_31 : decode cX4_load 31 = .ok (.invokevirtual 79, 3) := by decide +kernel
theorem dX4_load_34 : decode cX4_load 34 = .ok (.aload_n 0, 1) := by decide +kernel
theorem dX4_load_35 : decode cX4_load 35 = .ok (.getfield 26, 3) := by decide +kernel
theorem dX4_load_38 : decode cX4_load 38 = .ok (.invokevirtual 83, 3) := by decide +kernel
theorem dX4_load_41 : decode cX4_load 41 = .ok (.aload_n 0, 1) := by decide +kernel
theorem dX4_load_42 : decode cX4_load 42 = .ok (.iconst 0, 1) := by decide +kernel
theorem dX4_load_43 : decode cX4_load 43 = .ok (.putfield 33, 3) := by decide +kernel
theorem dX4_load_46 : decode cX4_load 46 = .ok (.aload_n 0, 1) := by decide +kernel
theorem dX4_load_47 : decode cX4_load 47 = .ok (.getfield 12, 3) := by decide +kernel
theorem dX4_load_50 : decode cX4_load 50 = .ok (.iconst 0, 1) := by decide +kernel
theorem dX4_load_51 : decode cX4_load 51 = .ok (.putfield 61, 3) := by decide +kernel
theorem dX4_load_54 : decode cX4_load 54 = .ok (.aload_n 0, 1) := by decide +kernel
theorem dX4_load_55 : decode cX4_load 55 = .ok (.getfield 19, 3) := by decide +kernel
theorem dX4_load_58 : decode cX4_load 58 = .ok (.getfield 86, 3) := by decide +kernel
theorem dX4_load_61 : decode cX4_load 61 = .ok (.ireturn, 1) := by decide +kernel
set_option maxRecDepth 20000 in
theorem ggX4_degree_X0_hasNode : GoodIn wsX4_degree wsX0_hasNode := goodIn_r _ [7, 8, 20, 21, 22, 23] rfl (by decide +kernel)
set_option maxRecDepth 20000 in
theorem gX4_degree_X0_hasNode : GoodIn wsX4_degree (wsV RX4 89 RX0 yX0_hasNode wsX0_hasNode) := goodIn_app (goodIn_of _ (by decide +kernel)) ggX4_degree_X0_hasNode
theorem dX4_degree_0 : decode cX4_degree 0 = .ok (.aload_n 0, 1) := by decide +kernel
theorem dX4_degree_1 : decode cX4_degree 1 = .ok (.getfield 19, 3) := by decide +kernel
theorem dX4_degree_4 : decode cX4_degree 4 = .ok (.iload_n 1, 1) := by decide +kernel
theorem dX4_degree_5 : decode cX4_degree 5 = .ok (.invokevirtual 89, 3) := by decide +kernel
theorem dX4_degree_8 : decode cX4_degree 8 = .ok (.ifCond .ne 6, 3) := by decide +kernel
theorem dX4_degree_11 : decode cX4_degree 11 = .ok (.bipush (-4), 2) := by decide +kernel
theorem dX4_degree_13 : decode cX4_degree 13 = .ok (.ireturn, 1) := by decide +kernel
theorem dX4_degree_14 : decode cX4_degree 14 = .ok (.aload_n 0, 1) := by decide +kernel
theorem dX4_degree_15 : decode cX4_degree 15 = .ok (.getfield 19, 3) := by decide +kernel
theorem dX4_degree_18 : decode cX4_degree 18 = .ok (.getfield 93, 3) := by decide +kernel
theorem dX4_degree_21 : decode cX4_degree 21 = .ok (.iload_n 1, 1) := by decide +kernel
theorem dX4_degree_22 : decode cX4_degree 22 = .ok (.iaload, 1) := by decide +kernel
theorem dX4_degree_23 : decode cX4_degree 23 = .ok (.ireturn, 1) := by decide +kernel
set_option maxRecDepth 20000 in
theorem ggX4_neighbor_X0_neighborError : GoodIn wsX4_neighbor wsX0_neighborError := goodIn_r _ [7, 8, 9, 10, 11, 6, 12, 13, 28, 29, 30, 31] rfl (by decide +kernel)
set_option maxRecDepth 20000 in
theorem gX4_neighbor_X0_neighborError : GoodIn wsX4_neighbor (wsV RX4 96 RX0 yX0_neighborError wsX0_neighborError) := goodIn_app (goodIn_of _ (by decide +kernel)) ggX4_neighbor_X0_neighborError
set_option maxRecDepth 20000 in
theorem ggX4_neighbor_X0_slot : GoodIn wsX4_neighbor wsX0_slot := goodIn_r _ [16] rfl (by decide +kernel)
set_option maxRecDepth 20000 in
theorem gX4_neighbor_X0_slot : GoodIn wsX4_neighbor (va_wsS RX4 103 yX0_slot wsX0_slot) := goodIn_app (goodIn_of _ (by decide +kernel)) ggX4_neighbor_X0_slot
theorem dX4_neighbor_0 : decode cX4_neighbor 0 = .ok (.aload_n 0, 1) := by decide +kernel
theorem dX4_neighbor_1 : decode cX4_neighbor 1 = .ok (.getfield 19, 3) := by decide +kernel
theorem dX4_neighbor_4 : decode cX4_neighbor 4 = .ok (.iload_n 1, 1) := by decide +kernel
theorem dX4_neighbor_5 : decode cX4_neighbor 5 = .ok (.iload_n 2, 1) := by decide +kernel
theorem dX4_neighbor_6 : decode cX4_neighbor 6 = .ok (.invokevirtual 96, 3) := by decide +kernel
theorem dX4_neighbor_9 : decode cX4_neighbor 9 = .ok (.istore_n 3, 1) := by decide +kernel
theorem dX4_neighbor_10 : decode cX4_neighbor 10 = .ok (.iload_n 3, 1) := by decide +kernel
theorem dX4_neighbor_11 : decode cX4_neighbor 11 = .ok (.ifCond .eq 5, 3) := by decide +kernel
theorem dX4_neighbor_14 : decode cX4_neighbor 14 = .ok (.iload_n 3, 1) := by decide +kernel
theorem dX4_neighbor_15 : decode cX4_neighbor 15 = .ok (.ireturn, 1) := by decide +kernel
theorem dX4_neighbor_16 : decode cX4_neighbor 16 = .ok (.aload_n 0, 1) := by decide +kernel
theorem dX4_neighbor_17 : decode cX4_neighbor 17 = .ok (.getfield 19, 3) := by decide +kernel
theorem dX4_neighbor_20 : decode cX4_neighbor 20 = .ok (.getfield 100, 3) := by decide +kernel
theorem dX4_neighbor_23 : decode cX4_neighbor 23 = .ok (.iload_n 1, 1) := by decide +kernel
theorem dX4_neighbor_24 : decode cX4_neighbor 24 = .ok (.iload_n 2, 1) := by decide +kernel
theorem dX4_neighbor_25 : decode cX4_neighbor 25 = .ok (.invokestatic 103, 3) := by decide +kernel
theorem dX4_neighbor_28 : decode cX4_neighbor 28 = .ok (.iaload, 1) := by decide +kernel
theorem dX4_neighbor_29 : decode cX4_neighbor 29 = .ok (.ireturn, 1) := by decide +kernel
set_option maxRecDepth 20000 in
theorem ggX4_rotor_X0_hasNode : GoodIn wsX4_rotor wsX0_hasNode := goodIn_r _ [8, 9, 26, 27, 28, 29] rfl (by decide +kernel)
set_option maxRecDepth 20000 in
theorem gX4_rotor_X0_hasNode : GoodIn wsX4_rotor (wsV RX4 89 RX0 yX0_hasNode wsX0_hasNode) := goodIn_app (goodIn_of _ (by decide +kernel)) ggX4_rotor_X0_hasNode
theorem dX4_rotor_0 : decode cX4_rotor 0 = .ok (.aload_n 0, 1) := by decide +kernel
theorem dX4_rotor_1 : decode cX4_rotor 1 = .ok (.getfield 19, 3) := by decide +kernel
theorem dX4_rotor_4 : decode cX4_rotor 4 = .ok (.iload_n 1, 1) := by decide +kernel
theorem dX4_rotor_5 : decode cX4_rotor 5 = .ok (.invokevirtual 89, 3) := by decide +kernel
theorem dX4_rotor_8 : decode cX4_rotor 8 = .ok (.ifCond .ne 6, 3) := by decide +kernel
theorem dX4_rotor_11 : decode cX4_rotor 11 = .ok (.bipush (-4), 2) := by decide +kernel
theorem dX4_rotor_13 : decode cX4_rotor 13 = .ok (.ireturn, 1) := by decide +kernel
theorem dX4_rotor_14 : decode cX4_rotor 14 = .ok (.aload_n 0, 1) := by decide +kernel
theorem dX4_rotor_15 : decode cX4_rotor 15 = .ok (.getfield 26, 3) := by decide +kernel
theorem dX4_rotor_18 : decode cX4_rotor 18 = .ok (.getfield 106, 3) := by decide +kernel
theorem dX4_rotor_21 : decode cX4_rotor 21 = .ok (.iload_n 1, 1) := by decide +kernel
theorem dX4_rotor_22 : decode cX4_rotor 22 = .ok (.iaload, 1) := by decide +kernel
theorem dX4_rotor_23 : decode cX4_rotor 23 = .ok (.ireturn, 1) := by decide +kernel
set_option maxRecDepth 20000 in
theorem ggX4_setRotor_X0_neighborError : GoodIn wsX4_setRotor wsX0_neighborError := goodIn_r _ [8, 9, 10, 11, 12, 7, 13, 14, 31, 32, 33, 34] rfl (by decide +kernel)
set_option maxRecDepth 20000 in
theorem gX4_setRotor_X0_neighborError : GoodIn wsX4_setRotor (wsV RX4 96 RX0 yX0_neighborError wsX0_neighborError) := goodIn_app (goodIn_of _ (by decide +kernel)) ggX4_setRotor_X0_neighborError
theorem dX4_setRotor_0 : decode cX4_setRotor 0 = .ok (.aload_n 0, 1) := by decide +kernel
theorem dX4_setRotor_1 : decode cX4_setRotor 1 = .ok (.getfield 19, 3) := by decide +kernel
theorem dX4_setRotor_4 : decode cX4_setRotor 4 = .ok (.iload_n 1, 1) := by decide +kernel
theorem dX4_setRotor_5 : decode cX4_setRotor 5 = .ok (.iload_n 2, 1) := by decide +kernel
theorem dX4_setRotor_6 : decode cX4_setRotor 6 = .ok (.invokevirtual 96, 3) := by decide +kernel
theorem dX4_setRotor_9 : decode cX4_setRotor 9 = .ok (.istore_n 3, 1) := by decide +kernel
theorem dX4_setRotor_10 : decode cX4_setRotor 10 = .ok (.iload_n 3, 1) := by decide +kernel
theorem dX4_setRotor_11 : decode cX4_setRotor 11 = .ok (.ifCond .eq 5, 3) := by decide +kernel
theorem dX4_setRotor_14 : decode cX4_setRotor 14 = .ok (.iload_n 3, 1) := by decide +kernel
theorem dX4_setRotor_15 : decode cX4_setRotor 15 = .ok (.ireturn, 1) := by decide +kernel
theorem dX4_setRotor_16 : decode cX4_setRotor 16 = .ok (.aload_n 0, 1) := by decide +kernel
theorem dX4_setRotor_17 : decode cX4_setRotor 17 = .ok (.getfield 26, 3) := by decide +kernel
theorem dX4_setRotor_20 : decode cX4_setRotor 20 = .ok (.getfield 106, 3) := by decide +kernel
theorem dX4_setRotor_23 : decode cX4_setRotor 23 = .ok (.iload_n 1, 1) := by decide +kernel
theorem dX4_setRotor_24 : decode cX4_setRotor 24 = .ok (.iaload, 1) := by decide +kernel
theorem dX4_setRotor_25 : decode cX4_setRotor 25 = .ok (.istore 4, 2) := by decide +kernel
theorem dX4_setRotor_27 : decode cX4_setRotor 27 = .ok (.aload_n 0, 1) := by decide +kernel
theorem dX4_setRotor_28 : decode cX4_setRotor 28 = .ok (.getfield 26, 3) := by decide +kernel
theorem dX4_setRotor_31 : decode cX4_setRotor 31 = .ok (.getfield 106, 3) := by decide +kernel
theorem dX4_setRotor_34 : decode cX4_setRotor 34 = .ok (.iload_n 1, 1) := by decide +kernel
theorem dX4_setRotor_35 : decode cX4_setRotor 35 = .ok (.iload_n 2, 1) := by decide +kernel
theorem dX4_setRotor_36 : decode cX4_setRotor 36 = .ok (.iastore, 1) := by decide +kernel
theorem dX4_setRotor_37 : decode cX4_setRotor 37 = .ok (.iload 4, 2) := by decide +kernel
theorem dX4_setRotor_39 : decode cX4_setRotor 39 = .ok (.ireturn, 1) := by decide +kernel
set_option maxRecDepth 20000 in
theorem ggX4_addWalker_X0_hasNode : GoodIn wsX4_addWalker wsX0_hasNode := goodIn_r _ [9, 10, 27, 28, 29, 30] rfl (by decide +kernel)
set_option maxRecDepth 20000 in
theorem gX4_addWalker_X0_hasNode : GoodIn wsX4_addWalker (wsV RX4 89 RX0 yX0_hasNode wsX0_hasNode) := goodIn_app (goodIn_of _ (by decide +kernel)) ggX4_addWalker_X0_hasNode
theorem dX4_addWalker_0 : decode cX4_addWalker 0 = .ok (.aload_n 0, 1) := by decide +kernel
theorem dX4_addWalker_1 : decode cX4_addWalker 1 = .ok (.getfield 19, 3) := by decide +kernel
theorem dX4_addWalker_4 : decode cX4_addWalker 4 = .ok (.iload_n 1, 1) := by decide +kernel
theorem dX4_addWalker_5 : decode cX4_addWalker 5 = .ok (.invokevirtual 89, 3) := by decide +kernel
theorem dX4_addWalker_8 : decode cX4_addWalker 8 = .ok (.ifCond .ne 6, 3) := by decide +kernel
theorem dX4_addWalker_11 : decode cX4_addWalker 11 = .ok (.bipush (-4), 2) := by decide +kernel
theorem dX4_addWalker_13 : decode cX4_addWalker 13 = .ok (.ireturn, 1) := by decide +kernel
theorem dX4_addWalker_14 : decode cX4_addWalker 14 = .ok (.aload_n 0, 1) := by decide +kernel
theorem dX4_addWalker_15 : decode cX4_addWalker 15 = .ok (.getfield 26, 3) := by decide +kernel
theorem dX4_addWalker_18 : decode cX4_addWalker 18 = .ok (.getfield 109, 3) := by decide +kernel
theorem dX4_addWalker_21 : decode cX4_addWalker 21 = .ok (.iconst 4, 1) := by decide +kernel
theorem dX4_addWalker_22 : decode cX4_addWalker 22 = .ok (.if_icmp .lt 6, 3) := by decide +kernel
theorem dX4_addWalker_25 : decode cX4_addWalker 25 = .ok (.bipush (-7), 2) := by decide +kernel
theorem dX4_addWalker_27 : decode cX4_addWalker 27 = .ok (.ireturn, 1) := by decide +kernel
theorem dX4_addWalker_28 : decode cX4_addWalker 28 = .ok (.aload_n 0, 1) := by decide +kernel
theorem dX4_addWalker_29 : decode cX4_addWalker 29 = .ok (.getfield 26, 3) := by decide +kernel
theorem dX4_addWalker_32 : decode cX4_addWalker 32 = .ok (.getfield 109, 3) := by decide +kernel
theorem dX4_addWalker_35 : decode cX4_addWalker 35 = .ok (.istore_n 2, 1) := by decide +kernel
theorem dX4_addWalker_36 : decode cX4_addWalker 36 = .ok (.aload_n 0, 1) := by decide +kernel
theorem dX4_addWalker_37 : decode cX4_addWalker 37 = .ok (.getfield 26, 3) := by decide +kernel
theorem dX4_addWalker_40 : decode cX4_addWalker 40 = .ok (.getfield 112, 3) := by decide +kernel
theorem dX4_addWalker_43 : decode cX4_addWalker 43 = .ok (.iload_n 2, 1) := by decide +kernel
theorem dX4_addWalker_44 : decode cX4_addWalker 44 = .ok (.iload_n 1, 1) := by decide +kernel
theorem dX4_addWalker_45 : decode cX4_addWalker 45 = .ok (.iastore, 1) := by decide +kernel
theorem dX4_addWalker_46 : decode cX4_addWalker 46 = .ok (.aload_n 0, 1) := by decide +kernel
theorem dX4_addWalker_47 : decode cX4_addWalker 47 = .ok (.getfield 26, 3) := by decide +kernel
theorem dX4_addWalker_50 : decode cX4_addWalker 50 = .ok (.dup, 1) := by decide +kernel
theorem dX4_addWalker_51 : decode cX4_addWalker 51 = .ok (.getfield 109, 3) := by decide +kernel
theorem dX4_addWalker_54 : decode cX4_addWalker 54 = .ok (.iconst 1, 1) := by decide +kernel
theorem dX4_addWalker_55 : decode cX4_addWalker 55 = .ok (.iadd, 1) := by decide +kernel
theorem dX4_addWalker_56 : decode cX4_addWalker 56 = .ok (.putfield 109, 3) := by decide +kernel
theorem dX4_addWalker_59 : decode cX4_addWalker 59 = .ok (.iload_n 2, 1) := by decide +kernel
theorem dX4_addWalker_60 : decode cX4_addWalker 60 = .ok (.ireturn, 1) := by decide +kernel
set_option maxRecDepth 20000 in
theorem ggX4_position_X3_hasWalker : GoodIn wsX4_position wsX3_hasWalker := goodIn_r _ [7, 8, 20, 21, 22, 23, 24] rfl (by decide +kernel)
set_option maxRecDepth 20000 in
theorem gX4_position_X3_hasWalker : GoodIn wsX4_position (wsV RX4 115 RX3 yX3_hasWalker wsX3_hasWalker) := goodIn_app (goodIn_of _ (by decide +kernel)) ggX4_position_X3_hasWalker
theorem dX4_position_0 : decode cX4_position 0 = .ok (.aload_n 0, 1) := by decide +kernel
theorem dX4_position_1 : decode cX4_position 1 = .ok (.getfield 26, 3) := by decide +kernel
theorem dX4_position_4 : decode cX4_position 4 = .ok (.iload_n 1, 1) := by decide +kernel
theorem dX4_position_5 : decode cX4_position 5 = .ok (.invokevirtual 115, 3) := by decide +kernel
theorem dX4_position_8 : decode cX4_position 8 = .ok (.ifCond .ne 6, 3) := by decide +kernel
theorem dX4_position_11 : decode cX4_position 11 = .ok (.bipush (-5), 2) := by decide +kernel
theorem dX4_position_13 : decode cX4_position 13 = .ok (.ireturn, 1) := by decide +kernel
theorem dX4_position_14 : decode cX4_position 14 = .ok (.aload_n 0, 1) := by decide +kernel
theorem dX4_position_15 : decode cX4_position 15 = .ok (.getfield 26, 3) := by decide +kernel
theorem dX4_position_18 : decode cX4_position 18 = .ok (.getfield 112, 3) := by decide +kernel
theorem dX4_position_21 : decode cX4_position 21 = .ok (.iload_n 1, 1) := by decide +kernel
theorem dX4_position_22 : decode cX4_position 22 = .ok (.iaload, 1) := by decide +kernel
theorem dX4_position_23 : decode cX4_position 23 = .ok (.ireturn, 1) := by decide +kernel
set_option maxRecDepth 20000 in
theorem ggX4_step_X3_hasWalker : GoodIn wsX4_step wsX3_hasWalker := goodIn_r _ [8, 9, 39, 40, 41, 42, 43] rfl (by decide +kernel)
set_option maxRecDepth 20000 in
theorem gX4_step_X3_hasWalker : GoodIn wsX4_step (wsV RX4 115 RX3 yX3_hasWalker wsX3_hasWalker) := goodIn_app (goodIn_of _ (by decide +kernel)) ggX4_step_X3_hasWalker
set_option maxRecDepth 20000 in
theorem ggX4_step_X3_move : GoodIn wsX4_step wsX3_move := goodIn_r _ [13, 14, 15, 16, 17, 18, 19, 20, 21, 22, 23, 24, 25, 26, 27, 39, 40, 41, 42, 43, 44, 45, 46, 47] rfl (by decide +kernel)
set_option maxRecDepth 20000 in
theorem gX4_step_X3_move : GoodIn wsX4_step (wsV RX4 118 RX3 yX3_move wsX3_move) := goodIn_app (goodIn_of _ (by decide +kernel)) ggX4_step_X3_move
theorem dX4_step_0 : decode cX4_step 0 = .ok (.aload_n 0, 1) := by decide +kernel
theorem dX4_step_1 : decode cX4_step 1 = .ok (.getfield 26, 3) := by decide +kernel
theorem dX4_step_4 : decode cX4_step 4 = .ok (.iload_n 1, 1) := by decide +kernel
theorem dX4_step_5 : decode cX4_step 5 = .ok (.invokevirtual 115, 3) := by decide +kernel
theorem dX4_step_8 : decode cX4_step 8 = .ok (.ifCond .ne 6, 3) := by decide +kernel
theorem dX4_step_11 : decode cX4_step 11 = .ok (.bipush (-5), 2) := by decide +kernel
theorem dX4_step_13 : decode cX4_step 13 = .ok (.ireturn, 1) := by decide +kernel
theorem dX4_step_14 : decode cX4_step 14 = .ok (.iload_n 2, 1) := by decide +kernel
theorem dX4_step_15 : decode cX4_step 15 = .ok (.iconst 1, 1) := by decide +kernel
theorem dX4_step_16 : decode cX4_step 16 = .ok (.if_icmp .lt 10, 3) := by decide +kernel
theorem dX4_step_19 : decode cX4_step 19 = .ok (.iload_n 2, 1) := by decide +kernel
theorem dX4_step_20 : decode cX4_step 20 = .ok (.sipush 1000, 3) := by decide +kernel
theorem dX4_step_23 : decode cX4_step 23 = .ok (.if_icmp .le 6, 3) := by decide +kernel
theorem dX4_step_26 : decode cX4_step 26 = .ok (.bipush (-6), 2) := by decide +kernel
theorem dX4_step_28 : decode cX4_step 28 = .ok (.ireturn, 1) := by decide +kernel
theorem dX4_step_29 : decode cX4_step 29 = .ok (.iconst 0, 1) := by decide +kernel
theorem dX4_step_30 : decode cX4_step 30 = .ok (.istore_n 3, 1) := by decide +kernel
theorem dX4_step_31 : decode cX4_step 31 = .ok (.iload_n 3, 1) := by decide +kernel
theorem dX4_step_32 : decode cX4_step 32 = .ok (.iload_n 2, 1) := by decide +kernel
theorem dX4_step_33 : decode cX4_step 33 = .ok (.if_icmp .ge 21, 3) := by decide +kernel
theorem dX4_step_36 : decode cX4_step 36 = .ok (.aload_n 0, 1) := by decide +kernel
theorem dX4_step_37 : decode cX4_step 37 = .ok (.getfield 26, 3) := by decide +kernel
theorem dX4_step_40 : decode cX4_step 40 = .ok (.iload_n 1, 1) := by decide +kernel
theorem dX4_step_41 : decode cX4_step 41 = .ok (.aload_n 0, 1) := by decide +kernel
theorem dX4_step_42 : decode cX4_step 42 = .ok (.getfield 19, 3) := by decide +kernel
theorem dX4_step_45 : decode cX4_step 45 = .ok (.invokevirtual 118, 3) := by decide +kernel
theorem dX4_step_48 : decode cX4_step 48 = .ok (.iinc 3 1, 3) := by decide +kernel
theorem dX4_step_51 : decode cX4_step 51 = .ok (.goto (-20), 3) := by decide +kernel
theorem dX4_step_54 : decode cX4_step 54 = .ok (.aload_n 0, 1) := by decide +kernel
theorem dX4_step_55 : decode cX4_step 55 = .ok (.getfield 26, 3) := by decide +kernel
theorem dX4_step_58 : decode cX4_step 58 = .ok (.getfield 112, 3) := by decide +kernel
theorem dX4_step_61 : decode cX4_step 61 = .ok (.iload_n 1, 1) := by decide +kernel
theorem dX4_step_62 : decode cX4_step 62 = .ok (.iaload, 1) := by decide +kernel
theorem dX4_step_63 : decode cX4_step 63 = .ok (.ireturn, 1) := by decide +kernel
set_option maxRecDepth 20000 in
theorem ggX4_absorb_X0_hasNode : GoodIn wsX4_absorb wsX0_hasNode := goodIn_r _ [6, 7, 54, 55, 56, 57] rfl (by decide +kernel)
set_option maxRecDepth 20000 in
theorem gX4_absorb_X0_hasNode : GoodIn wsX4_absorb (wsV RX4 89 RX0 yX0_hasNode wsX0_hasNode) := goodIn_app (goodIn_of _ (by decide +kernel)) ggX4_absorb_X0_hasNode
set_option maxRecDepth 20000 in
theorem ggX4_absorb_X4_absorbInTurns : GoodIn wsX4_absorb wsX4_absorbInTurns := goodIn_r _ [12, 13, 14, 15, 16, 11, 17, 18, 19, 20, 1, 21, 22, 23, 24, 25, 26, 27, 28, 29, 30, 31, 32, 5, 33, 34, 35, 36, 37, 38, 43, 44, 45, 46, 47, 48, 49, 50, 51, 52, 53, 58, 59, 60, 61, 62, 54, 55, 56, 57] rfl (by decide +kernel)
set_option maxRecDepth 20000 in
theorem gX4_absorb_X4_absorbInTurns : GoodIn wsX4_absorb (wsV RX4 122 RX4 yX4_absorbInTurns wsX4_absorbInTurns) := goodIn_app (goodIn_of _ (by decide +kernel)) ggX4_absorb_X4_absorbInTurns
set_option maxRecDepth 20000 in
theorem ggX4_absorb_X4_absorbOneByOne : GoodIn wsX4_absorb wsX4_absorbOneByOne := goodIn_r _ [42, 18, 19, 20, 13, 1, 21, 22, 23, 24, 25, 26, 27, 28, 29, 30, 31, 32, 5, 33, 34, 35, 36, 37, 38, 43, 44, 45, 46, 47, 48, 49, 50, 51, 52, 53, 58, 59, 60, 61, 62, 54, 55, 56, 57] rfl (by decide +kernel)
set_option maxRecDepth 20000 in
theorem gX4_absorb_X4_absorbOneByOne : GoodIn wsX4_absorb (wsV RX4 126 RX4 yX4_absorbOneByOne wsX4_absorbOneByOne) := goodIn_app (goodIn_of _ (by decide +kernel)) ggX4_absorb_X4_absorbOneByOne
theorem dX4_absorb_0 : decode cX4_absorb 0 = .ok (.aload_n 0, 1) := by decide +kernel
theorem dX4_absorb_1 : decode cX4_absorb 1 = .ok (.getfield 19, 3) := by decide +kernel
theorem dX4_absorb_4 : decode cX4_absorb 4 = .ok (.iload_n 1, 1) := by decide +kernel
theorem dX4_absorb_5 : decode cX4_absorb 5 = .ok (.invokevirtual 89, 3) := by decide +kernel
theorem dX4_absorb_8 : decode cX4_absorb 8 = .ok (.ifCond .ne 6, 3) := by decide +kernel
theorem dX4_absorb_11 : decode cX4_absorb 11 = .ok (.bipush (-4), 2) := by decide +kernel
theorem dX4_absorb_13 : decode cX4_absorb 13 = .ok (.ireturn, 1) := by decide +kernel
theorem dX4_absorb_14 : decode cX4_absorb 14 = .ok (.iload_n 2, 1) := by decide +kernel
theorem dX4_absorb_15 : decode cX4_absorb 15 = .ok (.ifCond .eq 11, 3) := by decide +kernel
theorem dX4_absorb_18 : decode cX4_absorb 18 = .ok (.aload_n 0, 1) := by decide +kernel
theorem dX4_absorb_19 : decode cX4_absorb 19 = .ok (.iload_n 1, 1) := by decide +kernel
theorem dX4_absorb_20 : decode cX4_absorb 20 = .ok (.invokevirtual 122, 3) := by decide +kernel
theorem dX4_absorb_23 : decode cX4_absorb 23 = .ok (.goto 8, 3) := by decide +kernel
theorem dX4_absorb_26 : decode cX4_absorb 26 = .ok (.aload_n 0, 1) := by decide +kernel
theorem dX4_absorb_27 : decode cX4_absorb 27 = .ok (.iload_n 1, 1) := by decide +kernel
theorem dX4_absorb_28 : decode cX4_absorb 28 = .ok (.invokevirtual 126, 3) := by decide +kernel
theorem dX4_absorb_31 : decode cX4_absorb 31 = .ok (.ireturn, 1) := by decide +kernel
set_option maxRecDepth 20000 in
theorem ggX4_arrivals_X0_hasNode : GoodIn wsX4_arrivals wsX0_hasNode := goodIn_r _ [8, 9, 26, 27, 28, 29] rfl (by decide +kernel)
set_option maxRecDepth 20000 in
theorem gX4_arrivals_X0_hasNode : GoodIn wsX4_arrivals (wsV RX4 89 RX0 yX0_hasNode wsX0_hasNode) := goodIn_app (goodIn_of _ (by decide +kernel)) ggX4_arrivals_X0_hasNode
theorem dX4_arrivals_0 : decode cX4_arrivals 0 = .ok (.aload_n 0, 1) := by decide +kernel
theorem dX4_arrivals_1 : decode cX4_arrivals 1 = .ok (.getfield 19, 3) := by decide +kernel
theorem dX4_arrivals_4 : decode cX4_arrivals 4 = .ok (.iload_n 1, 1) := by decide +kernel
theorem dX4_arrivals_5 : decode cX4_arrivals 5 = .ok (.invokevirtual 89, 3) := by decide +kernel
theorem dX4_arrivals_8 : decode cX4_arrivals 8 = .ok (.ifCond .ne 6, 3) := by decide +kernel
theorem dX4_arrivals_11 : decode cX4_arrivals 11 = .ok (.bipush (-4), 2) := by decide +kernel
theorem dX4_arrivals_13 : decode cX4_arrivals 13 = .ok (.ireturn, 1) := by decide +kernel
theorem dX4_arrivals_14 : decode cX4_arrivals 14 = .ok (.aload_n 0, 1) := by decide +kernel
theorem dX4_arrivals_15 : decode cX4_arrivals 15 = .ok (.getfield 26, 3) := by decide +kernel
theorem dX4_arrivals_18 : decode cX4_arrivals 18 = .ok (.getfield 129, 3) := by decide +kernel
theorem dX4_arrivals_21 : decode cX4_arrivals 21 = .ok (.iload_n 1, 1) := by decide +kernel
theorem dX4_arrivals_22 : decode cX4_arrivals 22 = .ok (.iaload, 1) := by decide +kernel
theorem dX4_arrivals_23 : decode cX4_arrivals 23 = .ok (.ireturn, 1) := by decide +kernel
set_option maxRecDepth 20000 in
theorem ggX4_departures_X0_neighborError : GoodIn wsX4_departures wsX0_neighborError := goodIn_r _ [8, 9, 10, 11, 12, 7, 13, 14, 34, 35, 36, 37] rfl (by decide +kernel)
set_option maxRecDepth 20000 in
theorem gX4_departures_X0_neighborError : GoodIn wsX4_departures (wsV RX4 96 RX0 yX0_neighborError wsX0_neighborError) := goodIn_app (goodIn_of _ (by decide +kernel)) ggX4_departures_X0_neighborError
set_option maxRecDepth 20000 in
theorem ggX4_departures_X0_slot : GoodIn wsX4_departures wsX0_slot := goodIn_r _ [17] rfl (by decide +kernel)
set_option maxRecDepth 20000 in
theorem gX4_departures_X0_slot : GoodIn wsX4_departures (va_wsS RX4 103 yX0_slot wsX0_slot) := goodIn_app (goodIn_of _ (by decide +kernel)) ggX4_departures_X0_slot
theorem dX4_departures_0 : decode cX4_departures 0 = .ok (.aload_n 0, 1) := by decide +kernel
theorem dX4_departures_1 : decode cX4_departures 1 = .ok (.getfield 19, 3) := by decide +kernel
theorem dX4_departures_4 : decode cX4_departures 4 = .ok (.iload_n 1, 1) := by decide +kernel
theorem dX4_departures_5 : decode cX4_departures 5 = .ok (.iload_n 2, 1) := by decide +kernel
theorem dX4_departures_6 : decode cX4_departures 6 = .ok (.invokevirtual 96, 3) := by decide +kernel
theorem dX4_departures_9 : decode cX4_departures 9 = .ok (.istore_n 3, 1) := by decide +kernel
theorem dX4_departures_10 : decode cX4_departures 10 = .ok (.iload_n 3, 1) := by decide +kernel
theorem dX4_departures_11 : decode cX4_departures 11 = .ok (.ifCond .eq 5, 3) := by decide +kernel
theorem dX4_departures_14 : decode cX4_departures 14 = .ok (.iload_n 3, 1) := by decide +kernel
theorem dX4_departures_15 : decode cX4_departures 15 = .ok (.ireturn, 1) := by decide +kernel
theorem dX4_departures_16 : decode cX4_departures 16 = .ok (.aload_n 0, 1) := by decide +kernel
theorem dX4_departures_17 : decode cX4_departures 17 = .ok (.getfield 26, 3) := by decide +kernel
theorem dX4_departures_20 : decode cX4_departures 20 = .ok (.getfield 132, 3) := by decide +kernel
theorem dX4_departures_23 : decode cX4_departures 23 = .ok (.iload_n 1, 1) := by decide +kernel
theorem dX4_departures_24 : decode cX4_departures 24 = .ok (.iload_n 2, 1) := by decide +kernel
theorem dX4_departures_25 : decode cX4_departures 25 = .ok (.invokestatic 103, 3) := by decide +kernel
theorem dX4_departures_28 : decode cX4_departures 28 = .ok (.iaload, 1) := by decide +kernel
theorem dX4_departures_29 : decode cX4_departures 29 = .ok (.ireturn, 1) := by decide +kernel
set_option maxRecDepth 20000 in
theorem ggX4_stepsToCycle_X3_hasWalker : GoodIn wsX4_stepsToCycle wsX3_hasWalker := goodIn_r _ [14, 15, 60, 61, 62, 63, 64] rfl (by decide +kernel)
set_option maxRecDepth 20000 in
theorem gX4_stepsToCycle_X3_hasWalker : GoodIn wsX4_stepsToCycle (wsV RX4 115 RX3 yX3_hasWalker wsX3_hasWalker) := goodIn_app (goodIn_of _ (by decide +kernel)) ggX4_stepsToCycle_X3_hasWalker
set_option maxRecDepth 20000 in
theorem ggX4_stepsToCycle_X2_start : GoodIn wsX4_stepsToCycle wsX2_start := goodIn_r _ [20, 21, 22, 23, 24, 25, 26, 65, 66] rfl (by decide +kernel)
set_option maxRecDepth 20000 in
theorem gX4_stepsToCycle_X2_start : GoodIn wsX4_stepsToCycle (wsV RX4 138 RX2 yX2_start wsX2_start) := goodIn_app (goodIn_of _ (by decide +kernel)) ggX4_stepsToCycle_X2_start
set_option maxRecDepth 20000 in
theorem ggX4_stepsToCycle_X2_move : GoodIn wsX4_stepsToCycle wsX2_move := goodIn_r _ [30, 21, 31, 22, 32, 33, 34, 35, 36, 37, 38, 39, 40, 65, 66, 56, 57, 58, 59] rfl (by decide +kernel)
set_option maxRecDepth 20000 in
theorem gX4_stepsToCycle_X2_move : GoodIn wsX4_stepsToCycle (wsV RX4 142 RX2 yX2_move wsX2_move) := goodIn_app (goodIn_of _ (by decide +kernel)) ggX4_stepsToCycle_X2_move
set_option maxRecDepth 20000 in
theorem ggX4_stepsToCycle_X2_isSameAs : GoodIn wsX4_stepsToCycle wsX2_isSameAs := goodIn_r _ [44, 21, 22, 65, 66] rfl (by decide +kernel)
set_option maxRecDepth 20000 in
theorem gX4_stepsToCycle_X2_isSameAs : GoodIn wsX4_stepsToCycle (wsV RX4 146 RX2 yX2_isSameAs wsX2_isSameAs) := goodIn_app (goodIn_of _ (by decide +kernel)) ggX4_stepsToCycle_X2_isSameAs
theorem dX4_stepsToCycle_0 : decode cX4_stepsToCycle 0 = .ok (.aload_n 0, 1) := by decide +kernel
theorem dX4_stepsToCycle_1 : decode cX4_stepsToCycle 1 = .ok (.getfield 26, 3) := by decide +kernel
theorem dX4_stepsToCycle_4 : decode cX4_stepsToCycle 4 = .ok (.iload_n 1, 1) := by decide +kernel
theorem dX4_stepsToCycle_5 : decode cX4_stepsToCycle 5 = .ok (.invokevirtual 115, 3) := by decide +kernel
theorem dX4_stepsToCycle_8 : decode cX4_stepsToCycle 8 = .ok (.ifCond .ne 6, 3) := by decide +kernel
theorem dX4_stepsToCycle_11 : decode cX4_stepsToCycle 11 = .ok (.bipush (-5), 2) := by decide +kernel
theorem dX4_stepsToCycle_13 : decode cX4_stepsToCycle 13 = .ok (.ireturn, 1) := by decide +kernel
theorem dX4_stepsToCycle_14 : decode cX4_stepsToCycle 14 = .ok (.iconst 2, 1) := by decide +kernel
theorem dX4_stepsToCycle_15 : decode cX4_stepsToCycle 15 = .ok (.aload_n 0, 1) := by decide +kernel
theorem dX4_stepsToCycle_16 : decode cX4_stepsToCycle 16 = .ok (.getfield 19, 3) := by decide +kernel
theorem dX4_stepsToCycle_19 : decode cX4_stepsToCycle 19 = .ok (.getfield 135, 3) := by decide +kernel
theorem dX4_stepsToCycle_22 : decode cX4_stepsToCycle 22 = .ok (.imul, 1) := by decide +kernel
theorem dX4_stepsToCycle_23 : decode cX4_stepsToCycle 23 = .ok (.istore_n 2, 1) := by decide +kernel
theorem dX4_stepsToCycle_24 : decode cX4_stepsToCycle 24 = .ok (.aload_n 0, 1) := by decide +kernel
theorem dX4_stepsToCycle_25 : decode cX4_stepsToCycle 25 = .ok (.getfield 40, 3) := by decide +kernel
theorem dX4_stepsToCycle_28 : decode cX4_stepsToCycle 28 = .ok (.aload_n 0, 1) := by decide +kernel
theorem dX4_stepsToCycle_29 : decode cX4_stepsToCycle 29 = .ok (.getfield 26, 3) := by decide +kernel
theorem dX4_stepsToCycle_32 : decode cX4_stepsToCycle 32 = .ok (.getfield 112, 3) := by decide +kernel
theorem dX4_stepsToCycle_35 : decode cX4_stepsToCycle 35 = .ok (.iload_n 1, 1) := by decide +kernel
theorem dX4_stepsToCycle_36 : decode cX4_stepsToCycle 36 = .ok (.iaload, 1) := by decide +kernel
theorem dX4_stepsToCycle_37 : decode cX4_stepsToCycle 37 = .ok (.aload_n 0, 1) := by decide +kernel
theorem dX4_stepsToCycle_38 : decode cX4_stepsToCycle 38 = .ok (.getfield 26, 3) := by decide +kernel
theorem dX4_stepsToCycle_41 : decode cX4_stepsToCycle 41 = .ok (.getfield 106, 3) := by decide +kernel
theorem dX4_stepsToCycle_44 : decode cX4_stepsToCycle 44 = .ok (.invokevirtual 138, 3) := by decide +kernel
theorem dX4_stepsToCycle_47 : decode cX4_stepsToCycle 47 = .ok (.aload_n 0, 1) := by decide +kernel
theorem dX4_stepsToCycle_48 : decode cX4_stepsToCycle 48 = .ok (.getfield 44, 3) := by decide +kernel
theorem dX4_stepsToCycle_51 : decode cX4_stepsToCycle 51 = .ok (.aload_n 0, 1) := by decide +kernel
theorem dX4_stepsToCycle_52 : decode cX4_stepsToCycle 52 = .ok (.getfield 26, 3) := by decide +kernel
theorem dX4_stepsToCycle_55 : decode cX4_stepsToCycle 55 = .ok (.getfield 112, 3) := by decide +kernel
theorem dX4_stepsToCycle_58 : decode cX4_stepsToCycle 58 = .ok (.iload_n 1, 1) := by decide +kernel
theorem dX4_stepsToCycle_59 : decode cX4_stepsToCycle 59 = .ok (.iaload, 1) := by decide +kernel
theorem dX4_stepsToCycle_60 : decode cX4_stepsToCycle 60 = .ok (.aload_n 0, 1) := by decide +kernel
theorem dX4_stepsToCycle_61 : decode cX4_stepsToCycle 61 = .ok (.getfield 26, 3) := by decide +kernel
theorem dX4_stepsToCycle_64 : decode cX4_stepsToCycle 64 = .ok (.getfield 106, 3) := by decide +kernel
theorem dX4_stepsToCycle_67 : decode cX4_stepsToCycle 67 = .ok (.invokevirtual 138, 3) := by decide +kernel
theorem dX4_stepsToCycle_70 : decode cX4_stepsToCycle 70 = .ok (.iconst 0, 1) := by decide +kernel
theorem dX4_stepsToCycle_71 : decode cX4_stepsToCycle 71 = .ok (.istore_n 3, 1) := by decide +kernel
theorem dX4_stepsToCycle_72 : decode cX4_stepsToCycle 72 = .ok (.iload_n 3, 1) := by decide +kernel
theorem dX4_stepsToCycle_73 : decode cX4_stepsToCycle 73 = .ok (.iload_n 2, 1) := by decide +kernel
theorem dX4_stepsToCycle_74 : decode cX4_stepsToCycle 74 = .ok (.if_icmp .ge 20, 3) := by decide +kernel
theorem dX4_stepsToCycle_77 : decode cX4_stepsToCycle 77 = .ok (.aload_n 0, 1) := by decide +kernel
theorem dX4_stepsToCycle_78 : decode cX4_stepsToCycle 78 = .ok (.getfield 44, 3) := by decide +kernel
theorem dX4_stepsToCycle_81 : decode cX4_stepsToCycle 81 = .ok (.aload_n 0, 1) := by decide +kernel
theorem dX4_stepsToCycle_82 : decode cX4_stepsToCycle 82 = .ok (.getfield 19, 3) := by decide +kernel
theorem dX4_stepsToCycle_85 : decode cX4_stepsToCycle 85 = .ok (.invokevirtual 142, 3) := by decide +kernel
theorem dX4_stepsToCycle_88 : decode cX4_stepsToCycle 88 = .ok (.iinc 3 1, 3) := by decide +kernel
theorem dX4_stepsToCycle_91 : decode cX4_stepsToCycle 91 = .ok (.goto (-19), 3) := by decide +kernel
theorem dX4_stepsToCycle_94 : decode cX4_stepsToCycle 94 = .ok (.iconst 0, 1) := by decide +kernel
theorem dX4_stepsToCycle_95 : decode cX4_stepsToCycle 95 = .ok (.istore_n 3, 1) := by decide +kernel
theorem dX4_stepsToCycle_96 : decode cX4_stepsToCycle 96 = .ok (.iload_n 3, 1) := by decide +kernel
theorem dX4_stepsToCycle_97 : decode cX4_stepsToCycle 97 = .ok (.ldc 145, 2) := by decide +kernel
theorem dX4_stepsToCycle_99 : decode cX4_stepsToCycle 99 = .ok (.if_icmp .ge 52, 3) := by decide +kernel
theorem dX4_stepsToCycle_102 : decode cX4_stepsToCycle 102 = .ok (.aload_n 0, 1) := by decide +kernel
theorem dX4_stepsToCycle_103 : decode cX4_stepsToCycle 103 = .ok (.getfield 40, 3) := by decide +kernel
theorem dX4_stepsToCycle_106 : decode cX4_stepsToCycle 106 = .ok (.aload_n 0, 1) := by decide +kernel
theorem dX4_stepsToCycle_107 : decode cX4_stepsToCycle 107 = .ok (.getfield 44, 3) := by decide +kernel
theorem dX4_stepsToCycle_110 : decode cX4_stepsToCycle 110 = .ok (.aload_n 0, 1) := by decide +kernel
theorem dX4_stepsToCycle_111 : decode cX4_stepsToCycle 111 = .ok (.getfield 19, 3) := by decide +kernel
theorem dX4_stepsToCycle_114 : decode cX4_stepsToCycle 114 = .ok (.getfield 86, 3) := by decide +kernel
theorem dX4_stepsToCycle_117 : decode cX4_stepsToCycle 117 = .ok (.invokevirtual 146, 3) := by decide +kernel
theorem dX4_stepsToCycle_120 : decode cX4_stepsToCycle 120 = .ok (.ifCond .ne 31, 3) := by decide +kernel
theorem dX4_stepsToCycle_123 : decode cX4_stepsToCycle 123 = .ok (.aload_n 0, 1) := by decide +kernel
theorem dX4_stepsToCycle_124 : decode cX4_stepsToCycle 124 = .ok (.getfield 40, 3) := by decide +kernel
theorem dX4_stepsToCycle_127 : decode cX4_stepsToCycle 127 = .ok (.aload_n 0, 1) := by decide +kernel
theorem dX4_stepsToCycle_128 : decode cX4_stepsToCycle 128 = .ok (.getfield 19, 3) := by decide +kernel
theorem dX4_stepsToCycle_131 : decode cX4_stepsToCycle 131 = .ok (.invokevirtual 142, 3) := by decide +kernel
theorem dX4_stepsToCycle_134 : decode cX4_stepsToCycle 134 = .ok (.aload_n 0, 1) := by decide +kernel
theorem dX4_stepsToCycle_135 : decode cX4_stepsToCycle 135 = .ok (.getfield 44, 3) := by decide +kernel
theorem dX4_stepsToCycle_138 : decode cX4_stepsToCycle 138 = .ok (.aload_n 0, 1) := by decide +kernel
theorem dX4_stepsToCycle_139 : decode cX4_stepsToCycle 139 = .ok (.getfield 19, 3) := by decide +kernel
theorem dX4_stepsToCycle_142 : decode cX4_stepsToCycle 142 = .ok (.invokevirtual 142, 3) := by decide +kernel
theorem dX4_stepsToCycle_145 : decode cX4_stepsToCycle 145 = .ok (.iinc 3 1, 3) := by decide +kernel
theorem dX4_stepsToCycle_148 : decode cX4_stepsToCycle 148 = .ok (.goto (-52), 3) := by decide +kernel
theorem dX4_stepsToCycle_151 : decode cX4_stepsToCycle 151 = .ok (.iload_n 3, 1) := by decide +kernel
theorem dX4_stepsToCycle_152 : decode cX4_stepsToCycle 152 = .ok (.ireturn, 1) := by decide +kernel
set_option maxRecDepth 20000 in
theorem ggX4_coverTime_X3_hasWalker : GoodIn wsX4_coverTime wsX3_hasWalker := goodIn_r _ [9, 10, 56, 57, 58, 59, 60] rfl (by decide +kernel)
set_option maxRecDepth 20000 in
theorem gX4_coverTime_X3_hasWalker : GoodIn wsX4_coverTime (wsV RX4 115 RX3 yX3_hasWalker wsX3_hasWalker) := goodIn_app (goodIn_of _ (by decide +kernel)) ggX4_coverTime_X3_hasWalker
set_option maxRecDepth 20000 in
theorem ggX4_coverTime_X4_coverTimeBelow : GoodIn wsX4_coverTime wsX4_coverTimeBelow := goodIn_r _ [15, 16, 17, 18, 19, 20, 21, 22, 23, 24, 25, 26, 27, 28, 29, 30, 31, 32, 33, 34, 35, 36, 37, 38, 39, 40, 41, 42, 43, 44, 45, 46, 47, 48, 49, 50, 51, 52, 53, 54, 55, 61, 62, 63, 64, 65, 66] rfl (by decide +kernel)
set_option maxRecDepth 20000 in
theorem gX4_coverTime_X4_coverTimeBelow : GoodIn wsX4_coverTime (wsV RX4 150 RX4 yX4_coverTimeBelow wsX4_coverTimeBelow) := goodIn_app (goodIn_of _ (by decide +kernel)) ggX4_coverTime_X4_coverTimeBelow
theorem dX4_coverTime_0 : decode cX4_coverTime 0 = .ok (.aload_n 0, 1) := by decide +kernel
theorem dX4_coverTime_1 : decode cX4_coverTime 1 = .ok (.getfield 26, 3) := by decide +kernel
theorem dX4_coverTime_4 : decode cX4_coverTime 4 = .ok (.iload_n 1, 1) := by decide +kernel
theorem dX4_coverTime_5 : decode cX4_coverTime 5 = .ok (.invokevirtual 115, 3) := by decide +kernel
theorem dX4_coverTime_8 : decode cX4_coverTime 8 = .ok (.ifCond .ne 6, 3) := by decide +kernel
theorem dX4_coverTime_11 : decode cX4_coverTime 11 = .ok (.bipush (-5), 2) := by decide +kernel
theorem dX4_coverTime_13 : decode cX4_coverTime 13 = .ok (.ireturn, 1) := by decide +kernel
theorem dX4_coverTime_14 : decode cX4_coverTime 14 = .ok (.aload_n 0, 1) := by decide +kernel
theorem dX4_coverTime_15 : decode cX4_coverTime 15 = .ok (.ldc 145, 2) := by decide +kernel
theorem dX4_coverTime_17 : decode cX4_coverTime 17 = .ok (.aload_n 0, 1) := by decide +kernel
theorem dX4_coverTime_18 : decode cX4_coverTime 18 = .ok (.getfield 26, 3) := by decide +kernel
theorem dX4_coverTime_21 : decode cX4_coverTime 21 = .ok (.getfield 112, 3) := by decide +kernel
theorem dX4_coverTime_24 : decode cX4_coverTime 24 = .ok (.iload_n 1, 1) := by decide +kernel
theorem dX4_coverTime_25 : decode cX4_coverTime 25 = .ok (.iaload, 1) := by decide +kernel
theorem dX4_coverTime_26 : decode cX4_coverTime 26 = .ok (.aload_n 0, 1) := by decide +kernel
theorem dX4_coverTime_27 : decode cX4_coverTime 27 = .ok (.getfield 26, 3) := by decide +kernel
theorem dX4_coverTime_30 : decode cX4_coverTime 30 = .ok (.getfield 106, 3) := by decide +kernel
theorem dX4_coverTime_33 : decode cX4_coverTime 33 = .ok (.invokevirtual 150, 3) := by decide +kernel
theorem dX4_coverTime_36 : decode cX4_coverTime 36 = .ok (.ireturn, 1) := by decide +kernel
set_option maxRecDepth 20000 in
theorem ggX4_leastCoverTime_X0_hasNode : GoodIn wsX4_leastCoverTime wsX0_hasNode := goodIn_r _ [6, 7, 68, 69, 70, 71] rfl (by decide +kernel)
set_option maxRecDepth 20000 in
theorem gX4_leastCoverTime_X0_hasNode : GoodIn wsX4_leastCoverTime (wsV RX4 89 RX0 yX0_hasNode wsX0_hasNode) := goodIn_app (goodIn_of _ (by decide +kernel)) ggX4_leastCoverTime_X0_hasNode
set_option maxRecDepth 20000 in
theorem ggX4_leastCoverTime_X0_assignments : GoodIn wsX4_leastCoverTime wsX0_assignments := goodIn_r _ [11, 7, 12, 68, 69, 70, 71] rfl (by decide +kernel)
set_option maxRecDepth 20000 in
theorem gX4_leastCoverTime_X0_assignments : GoodIn wsX4_leastCoverTime (wsV RX4 154 RX0 yX0_assignments wsX0_assignments) := goodIn_app (goodIn_of _ (by decide +kernel)) ggX4_leastCoverTime_X0_assignments
set_option maxRecDepth 20000 in
theorem ggX4_leastCoverTime_X4_searchAssignments : GoodIn wsX4_leastCoverTime wsX4_searchAssignments := goodIn_r _ [17, 1, 18, 19, 20, 21, 22, 23, 24, 25, 8, 9, 10, 5, 11, 7, 12, 26, 27, 28, 16, 29, 30, 31, 32, 33, 34, 35, 36, 37, 38, 39, 40, 41, 42, 43, 44, 45, 46, 47, 48, 49, 50, 51, 52, 53, 54, 55, 56, 57, 58, 59, 60, 61, 62, 63, 64, 65, 66, 67, 68, 69, 70, 71, 72, 73] rfl (by decide +kernel)
set_option maxRecDepth 20000 in
theorem gX4_leastCoverTime_X4_searchAssignments : GoodIn wsX4_leastCoverTime (wsV RX4 157 RX4 yX4_searchAssignments wsX4_searchAssignments) := goodIn_app (goodIn_of _ (by decide +kernel)) ggX4_leastCoverTime_X4_searchAssignments
theorem dX4_leastCoverTime_0 : decode cX4_leastCoverTime 0 = .ok (.aload_n 0, 1) := by decide +kernel
theorem dX4_leastCoverTime_1 : decode cX4_leastCoverTime 1 = .ok (.getfield 19, 3) := by decide +kernel
theorem dX4_leastCoverTime_4 : decode cX4_leastCoverTime 4 = .ok (.iload_n 1, 1) := by decide +kernel
theorem dX4_leastCoverTime_5 : decode cX4_leastCoverTime 5 = .ok (.invokevirtual 89, 3) := by decide +kernel
theorem dX4_leastCoverTime_8 : decode cX4_leastCoverTime 8 = .ok (.ifCond .ne 6, 3) := by decide +kernel
theorem dX4_leastCoverTime_11 : decode cX4_leastCoverTime 11 = .ok (.bipush (-4), 2) := by decide +kernel
theorem dX4_leastCoverTime_13 : decode cX4_leastCoverTime 13 = .ok (.ireturn, 1) := by decide +kernel
theorem dX4_leastCoverTime_14 : decode cX4_leastCoverTime 14 = .ok (.aload_n 0, 1) := by decide +kernel
theorem dX4_leastCoverTime_15 : decode cX4_leastCoverTime 15 = .ok (.getfield 19, 3) := by decide +kernel
theorem dX4_leastCoverTime_18 : decode cX4_leastCoverTime 18 = .ok (.invokevirtual 154, 3) := by decide +kernel
theorem dX4_leastCoverTime_21 : decode cX4_leastCoverTime 21 = .ok (.sipush 2000, 3) := by decide +kernel
theorem dX4_leastCoverTime_24 : decode cX4_leastCoverTime 24 = .ok (.if_icmp .le 6, 3) := by decide +kernel
theorem dX4_leastCoverTime_27 : decode cX4_leastCoverTime 27 = .ok (.bipush (-8), 2) := by decide +kernel
theorem dX4_leastCoverTime_29 : decode cX4_leastCoverTime 29 = .ok (.ireturn, 1) := by decide +kernel
theorem dX4_leastCoverTime_30 : decode cX4_leastCoverTime 30 = .ok (.aload_n 0, 1) := by decide +kernel
theorem dX4_leastCoverTime_31 : decode cX4_leastCoverTime 31 = .ok (.iload_n 1, 1) := by decide +kernel
theorem dX4_leastCoverTime_32 : decode cX4_leastCoverTime 32 = .ok (.invokevirtual 157, 3) := by decide +kernel
theorem dX4_leastCoverTime_35 : decode cX4_leastCoverTime 35 = .ok (.ireturn, 1) := by decide +kernel
set_option maxRecDepth 20000 in
theorem ggX4_bestRotor_X0_hasNode : GoodIn wsX4_bestRotor wsX0_hasNode := goodIn_r _ [7, 8, 68, 69, 70, 71] rfl (by decide +kernel)
set_option maxRecDepth 20000 in
theorem gX4_bestRotor_X0_hasNode : GoodIn wsX4_bestRotor (wsV RX4 89 RX0 yX0_hasNode wsX0_hasNode) := goodIn_app (goodIn_of _ (by decide +kernel)) ggX4_bestRotor_X0_hasNode
set_option maxRecDepth 20000 in
theorem ggX4_bestRotor_X0_assignments : GoodIn wsX4_bestRotor wsX0_assignments := goodIn_r _ [12, 8, 13, 68, 69, 70, 71] rfl (by decide +kernel)
set_option maxRecDepth 20000 in
theorem gX4_bestRotor_X0_assignments : GoodIn wsX4_bestRotor (wsV RX4 154 RX0 yX0_assignments wsX0_assignments) := goodIn_app (goodIn_of _ (by decide +kernel)) ggX4_bestRotor_X0_assignments
set_option maxRecDepth 20000 in
theorem ggX4_bestRotor_X4_searchAssignments : GoodIn wsX4_bestRotor wsX4_searchAssignments := goodIn_r _ [18, 1, 19, 20, 21, 2, 22, 23, 24, 25, 9, 10, 11, 6, 12, 8, 13, 26, 27, 28, 17, 29, 30, 31, 32, 33, 34, 35, 36, 37, 38, 39, 40, 41, 42, 43, 44, 45, 46, 47, 48, 49, 50, 51, 52, 53, 54, 55, 56, 57, 58, 59, 60, 61, 62, 63, 64, 65, 66, 67, 68, 69, 70, 71, 72, 73] rfl (by decide +kernel)
set_option maxRecDepth 20000 in
theorem gX4_bestRotor_X4_searchAssignments : GoodIn wsX4_bestRotor (wsV RX4 157 RX4 yX4_searchAssignments wsX4_searchAssignments) := goodIn_app (goodIn_of _ (by decide +kernel)) ggX4_bestRotor_X4_searchAssignments
theorem dX4_bestRotor_0 : decode cX4_bestRotor 0 = .ok (.aload_n 0, 1) := by decide +kernel
theorem dX4_bestRotor_1 : decode cX4_bestRotor 1 = .ok (.getfield 19, 3) := by decide +kernel
theorem dX4_bestRotor_4 : decode cX4_bestRotor 4 = .ok (.iload_n 1, 1) := by decide +kernel
theorem dX4_bestRotor_5 : decode cX4_bestRotor 5 = .ok (.invokevirtual 89, 3) := by decide +kernel
theorem dX4_bestRotor_8 : decode cX4_bestRotor 8 = .ok (.ifCond .eq 14, 3) := by decide +kernel
theorem dX4_bestRotor_11 : decode cX4_bestRotor 11 = .ok (.aload_n 0, 1) := by decide +kernel
theorem dX4_bestRotor_12 : decode cX4_bestRotor 12 = .ok (.getfield 19, 3) := by decide +kernel
theorem dX4_bestRotor_15 : decode cX4_bestRotor 15 = .ok (.iload_n 2, 1) := by decide +kernel
theorem dX4_bestRotor_16 : decode cX4_bestRotor 16 = .ok (.invokevirtual 89, 3) := by decide +kernel
theorem dX4_bestRotor_19 : decode cX4_bestRotor 19 = .ok (.ifCond .ne 6, 3) := by decide +kernel
theorem dX4_bestRotor_22 : decode cX4_bestRotor 22 = .ok (.bipush (-4), 2) := by decide +kernel
theorem dX4_bestRotor_24 : decode cX4_bestRotor 24 = .ok (.ireturn, 1) := by decide +kernel
theorem dX4_bestRotor_25 : decode cX4_bestRotor 25 = .ok (.aload_n 0, 1) := by decide +kernel
theorem dX4_bestRotor_26 : decode cX4_bestRotor 26 = .ok (.getfield 19, 3) := by decide +kernel
theorem dX4_bestRotor_29 : decode cX4_bestRotor 29 = .ok (.invokevirtual 154, 3) := by decide +kernel
theorem dX4_bestRotor_32 : decode cX4_bestRotor 32 = .ok (.sipush 2000, 3) := by decide +kernel
theorem dX4_bestRotor_35 : decode cX4_bestRotor 35 = .ok (.if_icmp .le 6, 3) := by decide +kernel
theorem dX4_bestRotor_38 : decode cX4_bestRotor 38 = .ok (.bipush (-8), 2) := by decide +kernel
theorem dX4_bestRotor_40 : decode cX4_bestRotor 40 = .ok (.ireturn, 1) := by decide +kernel
theorem dX4_bestRotor_41 : decode cX4_bestRotor 41 = .ok (.aload_n 0, 1) := by decide +kernel
theorem dX4_bestRotor_42 : decode cX4_bestRotor 42 = .ok (.iload_n 1, 1) := by decide +kernel
theorem dX4_bestRotor_43 : decode cX4_bestRotor 43 = .ok (.invokevirtual 157, 3) := by decide +kernel
theorem dX4_bestRotor_46 : decode cX4_bestRotor 46 = .ok (.pop, 1) := by decide +kernel
theorem dX4_bestRotor_47 : decode cX4_bestRotor 47 = .ok (.aload_n 0, 1) := by decide +kernel
theorem dX4_bestRotor_48 : decode cX4_bestRotor 48 = .ok (.getfield 51, 3) := by decide +kernel
theorem dX4_bestRotor_51 : decode cX4_bestRotor 51 = .ok (.iload_n 2, 1) := by decide +kernel
theorem dX4_bestRotor_52 : decode cX4_bestRotor 52 = .ok (.iaload, 1) := by decide +kernel
theorem dX4_bestRotor_53 : decode cX4_bestRotor 53 = .ok (.ireturn, 1) := by decide +kernel
set_option maxRecDepth 20000 in
theorem ggX4_expectedArrivals_X0_hasNode : GoodIn wsX4_expectedArrivals wsX0_hasNode := goodIn_r _ [10, 11, 40, 41, 42, 43] rfl (by decide +kernel)
set_option maxRecDepth 20000 in
theorem gX4_expectedArrivals_X0_hasNode : GoodIn wsX4_expectedArrivals (wsV RX4 89 RX0 yX0_hasNode wsX0_hasNode) := goodIn_app (goodIn_of _ (by decide +kernel)) ggX4_expectedArrivals_X0_hasNode
set_option maxRecDepth 20000 in
theorem ggX4_expectedArrivals_X4_spreadChances : GoodIn wsX4_expectedArrivals wsX4_spreadChances := goodIn_r _ [16, 1, 4, 17, 18, 19, 5, 20, 21, 9, 22, 29, 30, 31, 32, 33, 34, 35, 36, 37, 38, 39, 40, 41, 42, 43] rfl (by decide +kernel)
set_option maxRecDepth 20000 in
theorem gX4_expectedArrivals_X4_spreadChances : GoodIn wsX4_expectedArrivals (wsV RX4 164 RX4 yX4_spreadChances wsX4_spreadChances) := goodIn_app (goodIn_of _ (by decide +kernel)) ggX4_expectedArrivals_X4_spreadChances
set_option maxRecDepth 20000 in
theorem ggX4_expectedArrivals_X4_bitsOf : GoodIn wsX4_expectedArrivals wsX4_bitsOf := goodIn_r _ [25, 26, 27, 28] rfl (by decide +kernel)
set_option maxRecDepth 20000 in
theorem gX4_expectedArrivals_X4_bitsOf : GoodIn wsX4_expectedArrivals (va_wsS RX4 167 yX4_bitsOf wsX4_bitsOf) := goodIn_app (goodIn_of _ (by decide +kernel)) ggX4_expectedArrivals_X4_bitsOf
theorem dX4_expectedArrivals_0 : decode cX4_expectedArrivals 0 = .ok (.aload_n 0, 1) := by decide +kernel
theorem dX4_expectedArrivals_1 : decode cX4_expectedArrivals 1 = .ok (.getfield 19, 3) := by decide +kernel
theorem dX4_expectedArrivals_4 : decode cX4_expectedArrivals 4 = .ok (.iload_n 1, 1) := by decide +kernel
theorem dX4_expectedArrivals_5 : decode cX4_expectedArrivals 5 = .ok (.invokevirtual 89, 3) := by decide +kernel
theorem dX4_expectedArrivals_8 : decode cX4_expectedArrivals 8 = .ok (.ifCond .eq 14, 3) := by decide +kernel
theorem dX4_expectedArrivals_11 : decode cX4_expectedArrivals 11 = .ok (.aload_n 0, 1) := by decide +kernel
theorem dX4_expectedArrivals_12 : decode cX4_expectedArrivals 12 = .ok (.getfield 19, 3) := by decide +kernel
theorem dX4_expectedArrivals_15 : decode cX4_expectedArrivals 15 = .ok (.iload_n 3, 1) := by decide +kernel
theorem dX4_expectedArrivals_16 : decode cX4_expectedArrivals 16 = .ok (.invokevirtual 89, 3) := by decide +kernel
theorem dX4_expectedArrivals_19 : decode cX4_expectedArrivals 19 = .ok (.ifCond .ne 7, 3) := by decide +kernel
theorem dX4_expectedArrivals_22 : decode cX4_expectedArrivals 22 = .ok (.ldc2_w 160, 3) := by decide +kernel
theorem dX4_expectedArrivals_25 : decode cX4_expectedArrivals 25 = .ok (.lreturn, 1) := by decide +kernel
theorem dX4_expectedArrivals_26 : decode cX4_expectedArrivals 26 = .ok (.iload_n 2, 1) := by decide +kernel
theorem dX4_expectedArrivals_27 : decode cX4_expectedArrivals 27 = .ok (.ifCond .lt 9, 3) := by decide +kernel
theorem dX4_expectedArrivals_30 : decode cX4_expectedArrivals 30 = .ok (.iload_n 2, 1) := by decide +kernel
theorem dX4_expectedArrivals_31 : decode cX4_expectedArrivals 31 = .ok (.bipush 50, 2) := by decide +kernel
theorem dX4_expectedArrivals_33 : decode cX4_expectedArrivals 33 = .ok (.if_icmp .le 7, 3) := by decide +kernel
theorem dX4_expectedArrivals_36 : decode cX4_expectedArrivals 36 = .ok (.ldc2_w 162, 3) := by decide +kernel
theorem dX4_expectedArrivals_39 : decode cX4_expectedArrivals 39 = .ok (.lreturn, 1) := by decide +kernel
theorem dX4_expectedArrivals_40 : decode cX4_expectedArrivals 40 = .ok (.iconst 0, 1) := by decide +kernel
theorem dX4_expectedArrivals_41 : decode cX4_expectedArrivals 41 = .ok (.istore 4, 2) := by decide +kernel
theorem dX4_expectedArrivals_43 : decode cX4_expectedArrivals 43 = .ok (.iload 4, 2) := by decide +kernel
theorem dX4_expectedArrivals_45 : decode cX4_expectedArrivals 45 = .ok (.aload_n 0, 1) := by decide +kernel
theorem dX4_expectedArrivals_46 : decode cX4_expectedArrivals 46 = .ok (.getfield 19, 3) := by decide +kernel
theorem dX4_expectedArrivals_49 : decode cX4_expectedArrivals 49 = .ok (.getfield 86, 3) := by decide +kernel
theorem dX4_expectedArrivals_52 : decode cX4_expectedArrivals 52 = .ok (.if_icmp .ge 27, 3) := by decide +kernel
theorem dX4_expectedArrivals_55 : decode cX4_expectedArrivals 55 = .ok (.aload_n 0, 1) := by decide +kernel
theorem dX4_expectedArrivals_56 : decode cX4_expectedArrivals 56 = .ok (.getfield 54, 3) := by decide +kernel
theorem dX4_expectedArrivals_59 : decode cX4_expectedArrivals 59 = .ok (.iload 4, 2) := by decide +kernel
theorem dX4_expectedArrivals_61 : decode cX4_expectedArrivals 61 = .ok (.iload 4, 2) := by decide +kernel
theorem dX4_expectedArrivals_63 : decode cX4_expectedArrivals 63 = .ok (.iload_n 1, 1) := by decide +kernel
theorem dX4_expectedArrivals_64 : decode cX4_expectedArrivals 64 = .ok (.if_icmp .ne 7, 3) := by decide +kernel
theorem dX4_expectedArrivals_67 : decode cX4_expectedArrivals 67 = .ok (.dconst 1, 1) := by decide +kernel
theorem dX4_expectedArrivals_68 : decode cX4_expectedArrivals 68 = .ok (.goto 4, 3) := by decide +kernel
theorem dX4_expectedArrivals_71 : decode cX4_expectedArrivals 71 = .ok (.dconst 0, 1) := by decide +kernel
theorem dX4_expectedArrivals_72 : decode cX4_expectedArrivals 72 = .ok (.dastore, 1) := by decide +kernel
theorem dX4_expectedArrivals_73 : decode cX4_expectedArrivals 73 = .ok (.iinc 4 1, 3) := by decide +kernel
theorem dX4_expectedArrivals_76 : decode cX4_expectedArrivals 76 = .ok (.goto (-33), 3) := by decide +kernel
theorem dX4_expectedArrivals_79 : decode cX4_expectedArrivals 79 = .ok (.dconst 0, 1) := by decide +kernel
theorem dX4_expectedArrivals_80 : decode cX4_expectedArrivals 80 = .ok (.dstore 4, 2) := by decide +kernel
theorem dX4_expectedArrivals_82 : decode cX4_expectedArrivals 82 = .ok (.iconst 0, 1) := by decide +kernel
theorem dX4_expectedArrivals_83 : decode cX4_expectedArrivals 83 = .ok (.istore 6, 2) := by decide +kernel
theorem dX4_expectedArrivals_85 : decode cX4_expectedArrivals 85 = .ok (.iload 6, 2) := by decide +kernel
theorem dX4_expectedArrivals_87 : decode cX4_expectedArrivals 87 = .ok (.iload_n 2, 1) := by decide +kernel
theorem dX4_expectedArrivals_88 : decode cX4_expectedArrivals 88 = .ok (.if_icmp .ge 24, 3) := by decide +kernel
theorem dX4_expectedArrivals_91 : decode cX4_expectedArrivals 91 = .ok (.aload_n 0, 1) := by decide +kernel
theorem dX4_expectedArrivals_92 : decode cX4_expectedArrivals 92 = .ok (.invokevirtual 164, 3) := by decide +kernel
theorem dX4_expectedArrivals_95 : decode cX4_expectedArrivals 95 = .ok (.dload 4, 2) := by decide +kernel
theorem dX4_expectedArrivals_97 : decode cX4_expectedArrivals 97 = .ok (.aload_n 0, 1) := by decide +kernel
theorem dX4_expectedArrivals_98 : decode cX4_expectedArrivals 98 = .ok (.getfield 54, 3) := by decide +kernel
theorem dX4_expectedArrivals_101 : decode cX4_expectedArrivals 101 = .ok (.iload_n 3, 1) := by decide +kernel
theorem dX4_expectedArrivals_102 : decode cX4_expectedArrivals 102 = .ok (.daload, 1) := by decide +kernel
theorem dX4_expectedArrivals_103 : decode cX4_expectedArrivals 103 = .ok (.dadd, 1) := by decide +kernel
theorem dX4_expectedArrivals_104 : decode cX4_expectedArrivals 104 = .ok (.dstore 4, 2) := by decide +kernel
theorem dX4_expectedArrivals_106 : decode cX4_expectedArrivals 106 = .ok (.iinc 6 1, 3) := by decide +kernel
theorem dX4_expectedArrivals_109 : decode cX4_expectedArrivals 109 = .ok (.goto (-24), 3) := by decide +kernel
theorem dX4_expectedArrivals_112 : decode cX4_expectedArrivals 112 = .ok (.dload 4, 2) := by decide +kernel
theorem dX4_expectedArrivals_114 : decode cX4_expectedArrivals 114 = .ok (.invokestatic 167, 3) := by decide +kernel
theorem dX4_expectedArrivals_117 : decode cX4_expectedArrivals 117 = .ok (.lreturn, 1) := by decide +kernel
set_option maxRecDepth 20000 in
theorem ggX4_snapshot_X3_copyFrom : GoodIn wsX4_snapshot wsX3_copyFrom := goodIn_r _ [11, 12, 13, 14, 15, 16, 17, 18, 19, 20, 36, 37, 38, 39, 40] rfl (by decide +kernel)
set_option maxRecDepth 20000 in
theorem gX4_snapshot_X3_copyFrom : GoodIn wsX4_snapshot (wsV RX4 171 RX3 yX3_copyFrom wsX3_copyFrom) := goodIn_app (goodIn_of _ (by decide +kernel)) ggX4_snapshot_X3_copyFrom
theorem dX4_snapshot_0 : decode cX4_snapshot 0 = .ok (.aload_n 0, 1) := by decide +kernel
theorem dX4_snapshot_1 : decode cX4_snapshot 1 = .ok (.getfield 19, 3) := by decide +kernel
theorem dX4_snapshot_4 : decode cX4_snapshot 4 = .ok (.getfield 86, 3) := by decide +kernel
theorem dX4_snapshot_7 : decode cX4_snapshot 7 = .ok (.ifCond .ne 6, 3) := by decide +kernel
theorem dX4_snapshot_10 : decode cX4_snapshot 10 = .ok (.bipush (-9), 2) := by decide +kernel
theorem dX4_snapshot_12 : decode cX4_snapshot 12 = .ok (.ireturn, 1) := by decide +kernel
theorem dX4_snapshot_13 : decode cX4_snapshot 13 = .ok (.aload_n 0, 1) := by decide +kernel
theorem dX4_snapshot_14 : decode cX4_snapshot 14 = .ok (.getfield 30, 3) := by decide +kernel
theorem dX4_snapshot_17 : decode cX4_snapshot 17 = .ok (.aload_n 0, 1) := by decide +kernel
theorem dX4_snapshot_18 : decode cX4_snapshot 18 = .ok (.getfield 26, 3) := by decide +kernel
theorem dX4_snapshot_21 : decode cX4_snapshot 21 = .ok (.invokevirtual 171, 3) := by decide +kernel
theorem dX4_snapshot_24 : decode cX4_snapshot 24 = .ok (.aload_n 0, 1) := by decide +kernel
theorem dX4_snapshot_25 : decode cX4_snapshot 25 = .ok (.iconst 1, 1) := by decide +kernel
theorem dX4_snapshot_26 : decode cX4_snapshot 26 = .ok (.putfield 33, 3) := by decide +kernel
theorem dX4_snapshot_29 : decode cX4_snapshot 29 = .ok (.aload_n 0, 1) := by decide +kernel
theorem dX4_snapshot_30 : decode cX4_snapshot 30 = .ok (.getfield 26, 3) := by decide +kernel
theorem dX4_snapshot_33 : decode cX4_snapshot 33 = .ok (.getfield 109, 3) := by decide +kernel
theorem dX4_snapshot_36 : decode cX4_snapshot 36 = .ok (.ireturn, 1) := by decide +kernel
set_option maxRecDepth 20000 in
theorem ggX4_restore_X3_copyFrom : GoodIn wsX4_restore wsX3_copyFrom := goodIn_r _ [9, 10, 11, 12, 13, 14, 15, 16, 17, 18, 30, 31, 32, 33, 34] rfl (by decide +kernel)
set_option maxRecDepth 20000 in
theorem gX4_restore_X3_copyFrom : GoodIn wsX4_restore (wsV RX4 171 RX3 yX3_copyFrom wsX3_copyFrom) := goodIn_app (goodIn_of _ (by decide +kernel)) ggX4_restore_X3_copyFrom
theorem dX4_restore_0 : decode cX4_restore 0 = .ok (.aload_n 0, 1) := by decide +kernel
theorem dX4_restore_1 : decode cX4_restore 1 = .ok (.getfield 33, 3) := by decide +kernel
theorem dX4_restore_4 : decode cX4_restore 4 = .ok (.ifCond .ne 6, 3) := by decide +kernel
theorem dX4_restore_7 : decode cX4_restore 7 = .ok (.bipush (-9), 2) := by decide +kernel
theorem dX4_restore_9 : decode cX4_restore 9 = .ok (.ireturn, 1) := by decide +kernel
theorem dX4_restore_10 : decode cX4_restore 10 = .ok (.aload_n 0, 1) := by decide +kernel
theorem dX4_restore_11 : decode cX4_restore 11 = .ok (.getfield 26, 3) := by decide +kernel
theorem dX4_restore_14 : decode cX4_restore 14 = .ok (.aload_n 0, 1) := by decide +kernel
theorem dX4_restore_15 : decode cX4_restore 15 = .ok (.getfield 30, 3) := by decide +kernel
theorem dX4_restore_18 : decode cX4_restore 18 = .ok (.invokevirtual 171, 3) := by decide +kernel
theorem dX4_restore_21 : decode cX4_restore 21 = .ok (.aload_n 0, 1) := by decide +kernel
theorem dX4_restore_22 : decode cX4_restore 22 = .ok (.getfield 26, 3) := by decide +kernel
theorem dX4_restore_25 : decode cX4_restore 25 = .ok (.getfield 109, 3) := by decide +kernel
theorem dX4_restore_28 : decode cX4_restore 28 = .ok (.ireturn, 1) := by decide +kernel
theorem dX4_walkerCount_0 : decode cX4_walkerCount 0 = .ok (.aload_n 0, 1) := by decide +kernel
theorem dX4_walkerCount_1 : decode cX4_walkerCount 1 = .ok (.getfield 26, 3) := by decide +kernel
theorem dX4_walkerCount_4 : decode cX4_walkerCount 4 = .ok (.getfield 109, 3) := by decide +kernel
theorem dX4_walkerCount_7 : decode cX4_walkerCount 7 = .ok (.ireturn, 1) := by decide +kernel
theorem dX4_linkCount_0 : decode cX4_linkCount 0 = .ok (.aload_n 0, 1) := by decide +kernel
theorem dX4_linkCount_1 : decode cX4_linkCount 1 = .ok (.getfield 19, 3) := by decide +kernel
theorem dX4_linkCount_4 : decode cX4_linkCount 4 = .ok (.getfield 135, 3) := by decide +kernel
theorem dX4_linkCount_7 : decode cX4_linkCount 7 = .ok (.ireturn, 1) := by decide +kernel
set_option maxRecDepth 20000 in
theorem ggX4_digest_X4_hashed : GoodIn wsX4_digest wsX4_hashed := goodIn_r _ [11, 12] rfl (by decide +kernel)
set_option maxRecDepth 20000 in
theorem gX4_digest_X4_hashed : GoodIn wsX4_digest (va_wsS RX4 177 yX4_hashed wsX4_hashed) := goodIn_app (goodIn_of _ (by decide +kernel)) ggX4_digest_X4_hashed
set_option maxRecDepth 20000 in
theorem ggX4_digest_X4_hashedNode : GoodIn wsX4_digest wsX4_hashedNode := goodIn_r _ [16, 2, 17, 5, 18, 19, 20, 21, 8, 9, 10, 11, 12, 22, 23, 24, 25, 124, 125, 126, 127, 128, 129, 130, 131, 132, 133, 134, 135, 136, 137, 138, 139, 140, 141, 142, 143] rfl (by decide +kernel)
set_option maxRecDepth 20000 in
theorem gX4_digest_X4_hashedNode : GoodIn wsX4_digest (wsV RX4 181 RX4 yX4_hashedNode wsX4_hashedNode) := goodIn_app (goodIn_of _ (by decide +kernel)) ggX4_digest_X4_hashedNode
set_option maxRecDepth 20000 in
theorem ggX4_digest_X4_stepsToCycle : GoodIn wsX4_digest wsX4_stepsToCycle := goodIn_r _ [29, 5, 2, 4, 30, 7, 18, 31, 32, 3, 33, 34, 35, 36, 37, 38, 39, 40, 41, 42, 43, 44, 45, 46, 47, 48, 49, 50, 51, 52, 53, 54, 55, 23, 24, 25, 56, 57, 58, 59, 60, 61, 62, 63, 64, 124, 125, 126, 127, 128, 129, 130, 131, 132, 133, 134, 135, 136, 137, 138, 139, 140, 141, 142, 143, 144, 145] rfl (by decide +kernel)
set_option maxRecDepth 20000 in
theorem gX4_digest_X4_stepsToCycle : GoodIn wsX4_digest (wsV RX4 185 RX4 yX4_stepsToCycle wsX4_stepsToCycle) := goodIn_app (goodIn_of _ (by decide +kernel)) ggX4_digest_X4_stepsToCycle
set_option maxRecDepth 20000 in
theorem ggX4_digest_X4_coverTime : GoodIn wsX4_digest wsX4_coverTime := goodIn_r _ [68, 5, 32, 7, 18, 33, 34, 35, 36, 37, 38, 69, 70, 71, 10, 72, 30, 2, 3, 73, 39, 40, 41, 42, 43, 44, 45, 46, 47, 48, 49, 50, 51, 52, 53, 54, 55, 23, 24, 25, 56, 57, 58, 59, 60, 124, 125, 126, 127, 128, 129, 130, 131, 132, 133, 134, 139, 140, 141, 142, 143, 135, 136, 137, 138, 144, 145] rfl (by decide +kernel)
set_option maxRecDepth 20000 in
theorem gX4_digest_X4_coverTime : GoodIn wsX4_digest (wsV RX4 188 RX4 yX4_coverTime wsX4_coverTime) := goodIn_app (goodIn_of _ (by decide +kernel)) ggX4_digest_X4_coverTime
set_option maxRecDepth 20000 in
theorem ggX4_digest_X4_hashedAnalysis : GoodIn wsX4_digest wsX4_hashedAnalysis := goodIn_r _ [77, 2, 78, 79, 80, 24, 81, 82, 60, 83, 84, 85, 10, 86, 3, 87, 32, 88, 89, 47, 48, 49, 69, 70, 71, 72, 30, 73, 39, 40, 41, 42, 43, 44, 45, 46, 50, 51, 52, 53, 54, 55, 23, 25, 56, 57, 58, 59, 90, 91, 92, 93, 94, 8, 9, 11, 12, 95, 96, 97, 98, 99, 100, 101, 102, 103, 104, 105, 106, 107, 108, 109, 110, 17, 20, 22, 111, 112, 113, 114, 115, 116, 124, 125, 126, 127, 128, 129, 130, 131, 132, 133, 134, 135, 136, 137, 138, 144, 145] rfl (by decide +kernel)
set_option maxRecDepth 20000 in
theorem gX4_digest_X4_hashedAnalysis : GoodIn wsX4_digest (wsV RX4 191 RX4 yX4_hashedAnalysis wsX4_hashedAnalysis) := goodIn_app (goodIn_of _ (by decide +kernel)) ggX4_digest_X4_hashedAnalysis
set_option maxRecDepth 20000 in
theorem ggX4_digest_X4_hashedInput : GoodIn wsX4_digest wsX4_hashedInput := goodIn_r _ [120, 121, 122, 123, 8, 9, 10, 11, 12, 124, 125, 126, 127, 128, 129, 130, 131, 132, 133, 134, 146, 147] rfl (by decide +kernel)
set_option maxRecDepth 20000 in
theorem gX4_digest_X4_hashedInput : GoodIn wsX4_digest (wsV RX4 195 RX4 yX4_hashedInput wsX4_hashedInput) := goodIn_app (goodIn_of _ (by decide +kernel)) ggX4_digest_X4_hashedInput
theorem dX4_digest_0 : decode cX4_digest 0 = .ok (.ldc2_w 175, 3) := by decide +kernel
theorem dX4_digest_3 : decode cX4_digest 3 = .ok (.aload_n 0, 1) := by decide +kernel
theorem dX4_digest_4 : decode cX4_digest 4 = .ok (.getfield 19, 3) := by decide +kernel
theorem dX4_digest_7 : decode cX4_digest 7 = .ok (.getfield 86, 3) := by decide +kernel
theorem dX4_digest_10 : decode cX4_digest 10 = .ok (.i2l, 1) := by decide +kernel
theorem dX4_digest_11 : decode cX4_digest 11 = .ok (.invokestatic 177, 3) := by decide +kernel
theorem dX4_digest_14 : decode cX4_digest 14 = .ok (.lstore_n 1, 1) := by decide +kernel
theorem dX4_digest_15 : decode cX4_digest 15 = .ok (.lload_n 1, 1) := by decide +kernel
theorem dX4_digest_16 : decode cX4_digest 16 = .ok (.aload_n 0, 1) := by decide +kernel
theorem dX4_digest_17 : decode cX4_digest 17 = .ok (.getfield 19, 3) := by decide +kernel
theorem dX4_digest_20 : decode cX4_digest 20 = .ok (.getfield 135, 3) := by decide +kernel
theorem dX4_digest_23 : decode cX4_digest 23 = .ok (.i2l, 1) := by decide +kernel
theorem dX4_digest_24 : decode cX4_digest 24 = .ok (.invokestatic 177, 3) := by decide +kernel
theorem dX4_digest_27 : decode cX4_digest 27 = .ok (.lstore_n 1, 1) := by decide +kernel
theorem dX4_digest_28 : decode cX4_digest 28 = .ok (.iconst 0, 1) := by decide +kernel
theorem dX4_digest_29 : decode cX4_digest 29 = .ok (.istore_n 3, 1) := by decide +kernel
theorem dX4_digest_30 : decode cX4_digest 30 = .ok (.iload_n 3, 1) := by decide +kernel
theorem dX4_digest_31 : decode cX4_digest 31 = .ok (.aload_n 0, 1) := by decide +kernel
theorem dX4_digest_32 : decode cX4_digest 32 = .ok (.getfield 19, 3) := by decide +kernel
theorem dX4_digest_35 : decode cX4_digest 35 = .ok (.getfield 86, 3) := by decide +kernel
theorem dX4_digest_38 : decode cX4_digest 38 = .ok (.if_icmp .ge 16, 3) := by decide +kernel
theorem dX4_digest_41 : decode cX4_digest 41 = .ok (.aload_n 0, 1) := by decide +kernel
theorem dX4_digest_42 : decode cX4_digest 42 = .ok (.lload_n 1, 1) := by decide +kernel
theorem dX4_digest_43 : decode cX4_digest 43 = .ok (.iload_n 3, 1) := by decide +kernel
theorem dX4_digest_44 : decode cX4_digest 44 = .ok (.invokevirtual 181, 3) := by decide +kernel
theorem dX4_digest_47 : decode cX4_digest 47 = .ok (.lstore_n 1, 1) := by decide +kernel
theorem dX4_digest_48 : decode cX4_digest 48 = .ok (.iinc 3 1, 3) := by decide +kernel
theorem dX4_digest_51 : decode cX4_digest 51 = .ok (.goto (-21), 3) := by decide +kernel
theorem dX4_digest_54 : decode cX4_digest 54 = .ok (.lload_n 1, 1) := by decide +kernel
theorem dX4_digest_55 : decode cX4_digest 55 = .ok (.aload_n 0, 1) := by decide +kernel
theorem dX4_digest_56 : decode cX4_digest 56 = .ok (.getfield 26, 3) := by decide +kernel
theorem dX4_digest_59 : decode cX4_digest 59 = .ok (.getfield 109, 3) := by decide +kernel
theorem dX4_digest_62 : decode cX4_digest 62 = .ok (.i2l, 1) := by decide +kernel
theorem dX4_digest_63 : decode cX4_digest 63 = .ok (.invokestatic 177, 3) := by decide +kernel
theorem dX4_digest_66 : decode cX4_digest 66 = .ok (.lstore_n 1, 1) := by decide +kernel
theorem dX4_digest_67 : decode cX4_digest 67 = .ok (.iconst 0, 1) := by decide +kernel
theorem dX4_digest_68 : decode cX4_digest 68 = .ok (.istore_n 3, 1) := by decide +kernel
theorem dX4_digest_69 : decode cX4_digest 69 = .ok (.iload_n 3, 1) := by decide +kernel
theorem dX4_digest_70 : decode cX4_digest 70 = .ok (.aload_n 0, 1) := by decide +kernel
theorem dX4_digest_71 : decode cX4_digest 71 = .ok (.getfield 26, 3) := by decide +kernel
theorem dX4_digest_74 : decode cX4_digest 74 = .ok (.getfield 109, 3) := by decide +kernel
theorem dX4_digest_77 : decode cX4_digest 77 = .ok (.if_icmp .ge 46, 3) := by decide +kernel
theorem dX4_digest_80 : decode cX4_digest 80 = .ok (.lload_n 1, 1) := by decide +kernel
theorem dX4_digest_81 : decode cX4_digest 81 = .ok (.aload_n 0, 1) := by decide +kernel
theorem dX4_digest_82 : decode cX4_digest 82 = .ok (.getfield 26, 3) := by decide +kernel
theorem dX4_digest_85 : decode cX4_digest 85 = .ok (.getfield 112, 3) := by decide +kernel
theorem dX4_digest_88 : decode cX4_digest 88 = .ok (.iload_n 3, 1) := by decide +kernel
theorem dX4_digest_89 : decode cX4_digest 89 = .ok (.iaload, 1) := by decide +kernel
theorem dX4_digest_90 : decode cX4_digest 90 = .ok (.i2l, 1) := by decide +kernel
theorem dX4_digest_91 : decode cX4_digest 91 = .ok (.invokestatic 177, 3) := by decide +kernel
theorem dX4_digest_94 : decode cX4_digest 94 = .ok (.lstore_n 1, 1) := by decide +kernel
theorem dX4_digest_95 : decode cX4_digest 95 = .ok (.lload_n 1, 1) := by decide +kernel
theorem dX4_digest_96 : decode cX4_digest 96 = .ok (.aload_n 0, 1) := by decide +kernel
theorem dX4_digest_97 : decode cX4_digest 97 = .ok (.iload_n 3, 1) := by decide +kernel
theorem dX4_digest_98 : decode cX4_digest 98 = .ok (.invokevirtual 185, 3) := by decide +kernel
theorem dX4_digest_101 : decode cX4_digest 101 = .ok (.i2l, 1) := by decide +kernel
theorem dX4_digest_102 : decode cX4_digest 102 = .ok (.invokestatic 177, 3) := by decide +kernel
theorem dX4_digest_105 : decode cX4_digest 105 = .ok (.lstore_n 1, 1) := by decide +kernel
theorem dX4_digest_106 : decode cX4_digest 106 = .ok (.lload_n 1, 1) := by decide +kernel
theorem dX4_digest_107 : decode cX4_digest 107 = .ok (.aload_n 0, 1) := by decide +kernel
theorem dX4_digest_108 : decode cX4_digest 108 = .ok (.iload_n 3, 1) := by decide +kernel
theorem dX4_digest_109 : decode cX4_digest 109 = .ok (.invokevirtual 188, 3) := by decide +kernel
theorem dX4_digest_112 : decode cX4_digest 112 = .ok (.i2l, 1) := by decide +kernel
theorem dX4_digest_113 : decode cX4_digest 113 = .ok (.invokestatic 177, 3) := by decide +kernel
theorem dX4_digest_116 : decode cX4_digest 116 = .ok (.lstore_n 1, 1) := by decide +kernel
theorem dX4_digest_117 : decode cX4_digest 117 = .ok (.iinc 3 1, 3) := by decide +kernel
theorem dX4_digest_120 : decode cX4_digest 120 = .ok (.goto (-51), 3) := by decide +kernel
theorem dX4_digest_123 : decode cX4_digest 123 = .ok (.aload_n 0, 1) := by decide +kernel
theorem dX4_digest_124 : decode cX4_digest 124 = .ok (.getfield 19, 3) := by decide +kernel
theorem dX4_digest_127 : decode cX4_digest 127 = .ok (.getfield 86, 3) := by decide +kernel
theorem dX4_digest_130 : decode cX4_digest 130 = .ok (.ifCond .le 9, 3) := by decide +kernel
theorem dX4_digest_133 : decode cX4_digest 133 = .ok (.aload_n 0, 1) := by decide +kernel
theorem dX4_digest_134 : decode cX4_digest 134 = .ok (.lload_n 1, 1) := by decide +kernel
theorem dX4_digest_135 : decode cX4_digest 135 = .ok (.invokevirtual 191, 3) := by decide +kernel
theorem dX4_digest_138 : decode cX4_digest 138 = .ok (.lstore_n 1, 1) := by decide +kernel
theorem dX4_digest_139 : decode cX4_digest 139 = .ok (.aload_n 0, 1) := by decide +kernel
theorem dX4_digest_140 : decode cX4_digest 140 = .ok (.lload_n 1, 1) := by decide +kernel
theorem dX4_digest_141 : decode cX4_digest 141 = .ok (.invokevirtual 195, 3) := by decide +kernel
theorem dX4_digest_144 : decode cX4_digest 144 = .ok (.lreturn, 1) := by decide +kernel
set_option maxRecDepth 20000 in
theorem ggX4_absorbOneByOne_X3_move : GoodIn wsX4_absorbOneByOne wsX3_move := goodIn_r _ [10, 11, 12, 13, 14, 15, 16, 17, 18, 19, 20, 21, 22, 23, 24, 36, 37, 38, 39, 40, 41, 42, 43, 44] rfl (by decide +kernel)
set_option maxRecDepth 20000 in
theorem gX4_absorbOneByOne_X3_move : GoodIn wsX4_absorbOneByOne (wsV RX4 118 RX3 yX3_move wsX3_move) := goodIn_app (goodIn_of _ (by decide +kernel)) ggX4_absorbOneByOne_X3_move
theorem dX4_absorbOneByOne_0 : decode cX4_absorbOneByOne 0 = .ok (.iconst 0, 1) := by decide +kernel
theorem dX4_absorbOneByOne_1 : decode cX4_absorbOneByOne 1 = .ok (.istore_n 2, 1) := by decide +kernel
theorem dX4_absorbOneByOne_2 : decode cX4_absorbOneByOne 2 = .ok (.iconst 0, 1) := by decide +kernel
theorem dX4_absorbOneByOne_3 : decode cX4_absorbOneByOne 3 = .ok (.istore_n 3, 1) := by decide +kernel
theorem dX4_absorbOneByOne_4 : decode cX4_absorbOneByOne 4 = .ok (.iload_n 3, 1) := by decide +kernel
theorem dX4_absorbOneByOne_5 : decode cX4_absorbOneByOne 5 = .ok (.aload_n 0, 1) := by decide +kernel
theorem dX4_absorbOneByOne_6 : decode cX4_absorbOneByOne 6 = .ok (.getfield 26, 3) := by decide +kernel
theorem dX4_absorbOneByOne_9 : decode cX4_absorbOneByOne 9 = .ok (.getfield 109, 3) := by decide +kernel
theorem dX4_absorbOneByOne_12 : decode cX4_absorbOneByOne 12 = .ok (.if_icmp .ge 46, 3) := by decide +kernel
theorem dX4_absorbOneByOne_15 : decode cX4_absorbOneByOne 15 = .ok (.aload_n 0, 1) := by decide +kernel
theorem dX4_absorbOneByOne_16 : decode cX4_absorbOneByOne 16 = .ok (.getfield 26, 3) := by decide +kernel
theorem dX4_absorbOneByOne_19 : decode cX4_absorbOneByOne 19 = .ok (.getfield 112, 3) := by decide +kernel
theorem dX4_absorbOneByOne_22 : decode cX4_absorbOneByOne 22 = .ok (.iload_n 3, 1) := by decide +kernel
theorem dX4_absorbOneByOne_23 : decode cX4_absorbOneByOne 23 = .ok (.iaload, 1) := by decide +kernel
theorem dX4_absorbOneByOne_24 : decode cX4_absorbOneByOne 24 = .ok (.iload_n 1, 1) := by decide +kernel
theorem dX4_absorbOneByOne_25 : decode cX4_absorbOneByOne 25 = .ok (.if_icmp .eq 27, 3) := by decide +kernel
theorem dX4_absorbOneByOne_28 : decode cX4_absorbOneByOne 28 = .ok (.iload_n 2, 1) := by decide +kernel
theorem dX4_absorbOneByOne_29 : decode cX4_absorbOneByOne 29 = .ok (.ldc 145, 2) := by decide +kernel
theorem dX4_absorbOneByOne_31 : decode cX4_absorbOneByOne 31 = .ok (.if_icmp .ge 21, 3) := by decide +kernel
theorem dX4_absorbOneByOne_34 : decode cX4_absorbOneByOne 34 = .ok (.aload_n 0, 1) := by decide +kernel
theorem dX4_absorbOneByOne_35 : decode cX4_absorbOneByOne 35 = .ok (.getfield 26, 3) := by decide +kernel
theorem dX4_absorbOneByOne_38 : decode cX4_absorbOneByOne 38 = .ok (.iload_n 3, 1) := by decide +kernel
theorem dX4_absorbOneByOne_39 : decode cX4_absorbOneByOne 39 = .ok (.aload_n 0, 1) := by decide +kernel
theorem dX4_absorbOneByOne_40 : decode cX4_absorbOneByOne 40 = .ok (.getfield 19, 3) := by decide +kernel
theorem dX4_absorbOneByOne_43 : decode cX4_absorbOneByOne 43 = .ok (.invokevirtual 118, 3) := by decide +kernel
theorem dX4_absorbOneByOne_46 : decode cX4_absorbOneByOne 46 = .ok (.iinc 2 1, 3) := by decide +kernel
theorem dX4_absorbOneByOne_49 : decode cX4_absorbOneByOne 49 = .ok (.goto (-34), 3) := by decide +kernel
theorem dX4_absorbOneByOne_52 : decode cX4_absorbOneByOne 52 = .ok (.iinc 3 1, 3) := by decide +kernel
theorem dX4_absorbOneByOne_55 : decode cX4_absorbOneByOne 55 = .ok (.goto (-51), 3) := by decide +kernel
theorem dX4_absorbOneByOne_58 : decode cX4_absorbOneByOne 58 = .ok (.iload_n 2, 1) := by decide +kernel
theorem dX4_absorbOneByOne_59 : decode cX4_absorbOneByOne 59 = .ok (.ireturn, 1) := by decide +kernel
set_option maxRecDepth 20000 in
theorem ggX4_absorbInTurns_X4_makePass : GoodIn wsX4_absorbInTurns wsX4_makePass := goodIn_r _ [6, 7, 8, 9, 10, 11, 12, 13, 14, 15, 16, 17, 18, 19, 20, 21, 22, 23, 24, 25, 26, 27, 28, 29, 30, 31, 32, 33, 34, 35, 36, 37, 38, 39, 40, 41, 42, 43, 44, 45, 46, 47, 48, 49] rfl (by decide +kernel)
set_option maxRecDepth 20000 in
theorem gX4_absorbInTurns_X4_makePass : GoodIn wsX4_absorbInTurns (wsV RX4 198 RX4 yX4_makePass wsX4_makePass) := goodIn_app (goodIn_of _ (by decide +kernel)) ggX4_absorbInTurns_X4_makePass
theorem dX4_absorbInTurns_0 : decode cX4_absorbInTurns 0 = .ok (.iconst 0, 1) := by decide +kernel
theorem dX4_absorbInTurns_1 : decode cX4_absorbInTurns 1 = .ok (.istore_n 2, 1) := by decide +kernel
theorem dX4_absorbInTurns_2 : decode cX4_absorbInTurns 2 = .ok (.iconst 0, 1) := by decide +kernel
theorem dX4_absorbInTurns_3 : decode cX4_absorbInTurns 3 = .ok (.istore_n 3, 1) := by decide +kernel
theorem dX4_absorbInTurns_4 : decode cX4_absorbInTurns 4 = .ok (.iload_n 3, 1) := by decide +kernel
theorem dX4_absorbInTurns_5 : decode cX4_absorbInTurns 5 = .ok (.ldc 145, 2) := by decide +kernel
theorem dX4_absorbInTurns_7 : decode cX4_absorbInTurns 7 = .ok (.if_icmp .ge 28, 3) := by decide +kernel
theorem dX4_absorbInTurns_10 : decode cX4_absorbInTurns 10 = .ok (.aload_n 0, 1) := by decide +kernel
theorem dX4_absorbInTurns_11 : decode cX4_absorbInTurns 11 = .ok (.iload_n 1, 1) := by decide +kernel
theorem dX4_absorbInTurns_12 : decode cX4_absorbInTurns 12 = .ok (.invokevirtual 198, 3) := by decide +kernel
theorem dX4_absorbInTurns_15 : decode cX4_absorbInTurns 15 = .ok (.istore 4, 2) := by decide +kernel
theorem dX4_absorbInTurns_17 : decode cX4_absorbInTurns 17 = .ok (.iload 4, 2) := by decide +kernel
theorem dX4_absorbInTurns_19 : decode cX4_absorbInTurns 19 = .ok (.ifCond .ne 5, 3) := by decide +kernel
theorem dX4_absorbInTurns_22 : decode cX4_absorbInTurns 22 = .ok (.iload_n 2, 1) := by decide +kernel
theorem dX4_absorbInTurns_23 : decode cX4_absorbInTurns 23 = .ok (.ireturn, 1) := by decide +kernel
theorem dX4_absorbInTurns_24 : decode cX4_absorbInTurns 24 = .ok (.iload_n 2, 1) := by decide +kernel
theorem dX4_absorbInTurns_25 : decode cX4_absorbInTurns 25 = .ok (.iload 4, 2) := by decide +kernel
theorem dX4_absorbInTurns_27 : decode cX4_absorbInTurns 27 = .ok (.iadd, 1) := by decide +kernel
theorem dX4_absorbInTurns_28 : decode cX4_absorbInTurns 28 = .ok (.istore_n 2, 1) := by decide +kernel
theorem dX4_absorbInTurns_29 : decode cX4_absorbInTurns 29 = .ok (.iinc 3 1, 3) := by decide +kernel
theorem dX4_absorbInTurns_32 : decode cX4_absorbInTurns 32 = .ok (.goto (-28), 3) := by decide +kernel
theorem dX4_absorbInTurns_35 : decode cX4_absorbInTurns 35 = .ok (.iload_n 2, 1) := by decide +kernel
theorem dX4_absorbInTurns_36 : decode cX4_absorbInTurns 36 = .ok (.ireturn, 1) := by decide +kernel
set_option maxRecDepth 20000 in
theorem ggX4_makePass_X3_move : GoodIn wsX4_makePass wsX3_move := goodIn_r _ [9, 10, 11, 12, 13, 14, 15, 16, 17, 18, 19, 20, 21, 22, 23, 35, 36, 37, 38, 39, 40, 41, 42, 43] rfl (by decide +kernel)
set_option maxRecDepth 20000 in
theorem gX4_makePass_X3_move : GoodIn wsX4_makePass (wsV RX4 118 RX3 yX3_move wsX3_move) := goodIn_app (goodIn_of _ (by decide +kernel)) ggX4_makePass_X3_move
theorem dX4_makePass_0 : decode cX4_makePass 0 = .ok (.iconst 0, 1) := by decide +kernel
theorem dX4_makePass_1 : decode cX4_makePass 1 = .ok (.istore_n 2, 1) := by decide +kernel
theorem dX4_makePass_2 : decode cX4_makePass 2 = .ok (.iconst 0, 1) := by decide +kernel
theorem dX4_makePass_3 : decode cX4_makePass 3 = .ok (.istore_n 3, 1) := by decide +kernel
theorem dX4_makePass_4 : decode cX4_makePass 4 = .ok (.iload_n 3, 1) := by decide +kernel
theorem dX4_makePass_5 : decode cX4_makePass 5 = .ok (.aload_n 0, 1) := by decide +kernel
theorem dX4_makePass_6 : decode cX4_makePass 6 = .ok (.getfield 26, 3) := by decide +kernel
theorem dX4_makePass_9 : decode cX4_makePass 9 = .ok (.getfield 109, 3) := by decide +kernel
theorem dX4_makePass_12 : decode cX4_makePass 12 = .ok (.if_icmp .ge 37, 3) := by decide +kernel
theorem dX4_makePass_15 : decode cX4_makePass 15 = .ok (.aload_n 0, 1) := by decide +kernel
theorem dX4_makePass_16 : decode cX4_makePass 16 = .ok (.getfield 26, 3) := by decide +kernel
theorem dX4_makePass_19 : decode cX4_makePass 19 = .ok (.getfield 112, 3) := by decide +kernel
theorem dX4_makePass_22 : decode cX4_makePass 22 = .ok (.iload_n 3, 1) := by decide +kernel
theorem dX4_makePass_23 : decode cX4_makePass 23 = .ok (.iaload, 1) := by decide +kernel
theorem dX4_makePass_24 : decode cX4_makePass 24 = .ok (.iload_n 1, 1) := by decide +kernel
theorem dX4_makePass_25 : decode cX4_makePass 25 = .ok (.if_icmp .eq 18, 3) := by decide +kernel
theorem dX4_makePass_28 : decode cX4_makePass 28 = .ok (.aload_n 0, 1) := by decide +kernel
theorem dX4_makePass_29 : decode cX4_makePass 29 = .ok (.getfield 26, 3) := by decide +kernel
theorem dX4_makePass_32 : decode cX4_makePass 32 = .ok (.iload_n 3, 1) := by decide +kernel
theorem dX4_makePass_33 : decode cX4_makePass 33 = .ok (.aload_n 0, 1) := by decide +kernel
theorem dX4_makePass_34 : decode cX4_makePass 34 = .ok (.getfield 19, 3) := by decide +kernel
theorem dX4_makePass_37 : decode cX4_makePass 37 = .ok (.invokevirtual 118, 3) := by decide +kernel
theorem dX4_makePass_40 : decode cX4_makePass 40 = .ok (.iinc 2 1, 3) := by decide +kernel
theorem dX4_makePass_43 : decode cX4_makePass 43 = .ok (.iinc 3 1, 3) := by decide +kernel
theorem dX4_makePass_46 : decode cX4_makePass 46 = .ok (.goto (-42), 3) := by decide +kernel
theorem dX4_makePass_49 : decode cX4_makePass 49 = .ok (.iload_n 2, 1) := by decide +kernel
theorem dX4_makePass_50 : decode cX4_makePass 50 = .ok (.ireturn, 1) := by decide +kernel
set_option maxRecDepth 20000 in
theorem ggX4_coverTimeBelow_X2_start : GoodIn wsX4_coverTimeBelow wsX2_start := goodIn_r _ [9, 10, 11, 12, 13, 14, 15, 45, 46] rfl (by decide +kernel)
set_option maxRecDepth 20000 in
theorem gX4_coverTimeBelow_X2_start : GoodIn wsX4_coverTimeBelow (wsV RX4 138 RX2 yX2_start wsX2_start) := goodIn_app (goodIn_of _ (by decide +kernel)) ggX4_coverTimeBelow_X2_start
set_option maxRecDepth 20000 in
theorem ggX4_coverTimeBelow_X2_move : GoodIn wsX4_coverTimeBelow wsX2_move := goodIn_r _ [19, 10, 20, 11, 21, 22, 23, 24, 25, 26, 27, 28, 29, 45, 46, 41, 42, 43, 44] rfl (by decide +kernel)
set_option maxRecDepth 20000 in
theorem gX4_coverTimeBelow_X2_move : GoodIn wsX4_coverTimeBelow (wsV RX4 142 RX2 yX2_move wsX2_move) := goodIn_app (goodIn_of _ (by decide +kernel)) ggX4_coverTimeBelow_X2_move
theorem dX4_coverTimeBelow_0 : decode cX4_coverTimeBelow 0 = .ok (.aload_n 0, 1) := by decide +kernel
theorem dX4_coverTimeBelow_1 : decode cX4_coverTimeBelow 1 = .ok (.getfield 40, 3) := by decide +kernel
theorem dX4_coverTimeBelow_4 : decode cX4_coverTimeBelow 4 = .ok (.iload_n 2, 1) := by decide +kernel
theorem dX4_coverTimeBelow_5 : decode cX4_coverTimeBelow 5 = .ok (.aload_n 3, 1) := by decide +kernel
theorem dX4_coverTimeBelow_6 : decode cX4_coverTimeBelow 6 = .ok (.invokevirtual 138, 3) := by decide +kernel
theorem dX4_coverTimeBelow_9 : decode cX4_coverTimeBelow 9 = .ok (.iconst 1, 1) := by decide +kernel
theorem dX4_coverTimeBelow_10 : decode cX4_coverTimeBelow 10 = .ok (.aload_n 0, 1) := by decide +kernel
theorem dX4_coverTimeBelow_11 : decode cX4_coverTimeBelow 11 = .ok (.getfield 19, 3) := by decide +kernel
theorem dX4_coverTimeBelow_14 : decode cX4_coverTimeBelow 14 = .ok (.getfield 86, 3) := by decide +kernel
theorem dX4_coverTimeBelow_17 : decode cX4_coverTimeBelow 17 = .ok (.ishl, 1) := by decide +kernel
theorem dX4_coverTimeBelow_18 : decode cX4_coverTimeBelow 18 = .ok (.iconst 1, 1) := by decide +kernel
theorem dX4_coverTimeBelow_19 : decode cX4_coverTimeBelow 19 = .ok (.isub, 1) := by decide +kernel
theorem dX4_coverTimeBelow_20 : decode cX4_coverTimeBelow 20 = .ok (.istore 4, 2) := by decide +kernel
theorem dX4_coverTimeBelow_22 : decode cX4_coverTimeBelow 22 = .ok (.iconst 1, 1) := by decide +kernel
theorem dX4_coverTimeBelow_23 : decode cX4_coverTimeBelow 23 = .ok (.iload_n 2, 1) := by decide +kernel
theorem dX4_coverTimeBelow_24 : decode cX4_coverTimeBelow 24 = .ok (.ishl, 1) := by decide +kernel
theorem dX4_coverTimeBelow_25 : decode cX4_coverTimeBelow 25 = .ok (.istore 5, 2) := by decide +kernel
theorem dX4_coverTimeBelow_27 : decode cX4_coverTimeBelow 27 = .ok (.iconst 0, 1) := by decide +kernel
theorem dX4_coverTimeBelow_28 : decode cX4_coverTimeBelow 28 = .ok (.istore 6, 2) := by decide +kernel
theorem dX4_coverTimeBelow_30 : decode cX4_coverTimeBelow 30 = .ok (.iload 5, 2) := by decide +kernel
theorem dX4_coverTimeBelow_32 : decode cX4_coverTimeBelow 32 = .ok (.iload 4, 2) := by decide +kernel
theorem dX4_coverTimeBelow_34 : decode cX4_coverTimeBelow 34 = .ok (.if_icmp .eq 40, 3) := by decide +kernel
theorem dX4_coverTimeBelow_37 : decode cX4_coverTimeBelow 37 = .ok (.iload 6, 2) := by decide +kernel
theorem dX4_coverTimeBelow_39 : decode cX4_coverTimeBelow 39 = .ok (.iload_n 1, 1) := by decide +kernel
theorem dX4_coverTimeBelow_40 : decode cX4_coverTimeBelow 40 = .ok (.if_icmp .ge 34, 3) := by decide +kernel
theorem dX4_coverTimeBelow_43 : decode cX4_coverTimeBelow 43 = .ok (.aload_n 0, 1) := by decide +kernel
theorem dX4_coverTimeBelow_44 : decode cX4_coverTimeBelow 44 = .ok (.getfield 40, 3) := by decide +kernel
theorem dX4_coverTimeBelow_47 : decode cX4_coverTimeBelow 47 = .ok (.aload_n 0, 1) := by decide +kernel
theorem dX4_coverTimeBelow_48 : decode cX4_coverTimeBelow 48 = .ok (.getfield 19, 3) := by decide +kernel
theorem dX4_coverTimeBelow_51 : decode cX4_coverTimeBelow 51 = .ok (.invokevirtual 142, 3) := by decide +kernel
theorem dX4_coverTimeBelow_54 : decode cX4_coverTimeBelow 54 = .ok (.iload 5, 2) := by decide +kernel
theorem dX4_coverTimeBelow_56 : decode cX4_coverTimeBelow 56 = .ok (.iconst 1, 1) := by decide +kernel
theorem dX4_coverTimeBelow_57 : decode cX4_coverTimeBelow 57 = .ok (.aload_n 0, 1) := by decide +kernel
theorem dX4_coverTimeBelow_58 : decode cX4_coverTimeBelow 58 = .ok (.getfield 40, 3) := by decide +kernel
theorem dX4_coverTimeBelow_61 : decode cX4_coverTimeBelow 61 = .ok (.getfield 201, 3) := by decide +kernel
theorem dX4_coverTimeBelow_64 : decode cX4_coverTimeBelow 64 = .ok (.ishl, 1) := by decide +kernel
theorem dX4_coverTimeBelow_65 : decode cX4_coverTimeBelow 65 = .ok (.ior, 1) := by decide +kernel
theorem dX4_coverTimeBelow_66 : decode cX4_coverTimeBelow 66 = .ok (.istore 5, 2) := by decide +kernel
theorem dX4_coverTimeBelow_68 : decode cX4_coverTimeBelow 68 = .ok (.iinc 6 1, 3) := by decide +kernel
theorem dX4_coverTimeBelow_71 : decode cX4_coverTimeBelow 71 = .ok (.goto (-41), 3) := by decide +kernel
theorem dX4_coverTimeBelow_74 : decode cX4_coverTimeBelow 74 = .ok (.iload 6, 2) := by decide +kernel
theorem dX4_coverTimeBelow_76 : decode cX4_coverTimeBelow 76 = .ok (.ireturn, 1) := by decide +kernel
set_option maxRecDepth 20000 in
theorem ggX4_searchAssignments_X0_assignments : GoodIn wsX4_searchAssignments wsX0_assignments := goodIn_r _ [14, 15, 16, 60, 61, 62, 63] rfl (by decide +kernel)
set_option maxRecDepth 20000 in
theorem gX4_searchAssignments_X0_assignments : GoodIn wsX4_searchAssignments (wsV RX4 154 RX0 yX0_assignments wsX0_assignments) := goodIn_app (goodIn_of _ (by decide +kernel)) ggX4_searchAssignments_X0_assignments
set_option maxRecDepth 20000 in
theorem ggX4_searchAssignments_X4_coverTimeBelow : GoodIn wsX4_searchAssignments wsX4_coverTimeBelow := goodIn_r _ [21, 22, 1, 2, 23, 24, 25, 26, 27, 28, 29, 30, 31, 7, 8, 9, 32, 33, 34, 35, 36, 37, 38, 13, 39, 40, 41, 42, 43, 16, 49, 50, 51, 52, 53, 54, 55, 56, 57, 58, 59, 60, 61, 62, 63, 64, 65] rfl (by decide +kernel)
set_option maxRecDepth 20000 in
theorem gX4_searchAssignments_X4_coverTimeBelow : GoodIn wsX4_searchAssignments (wsV RX4 150 RX4 yX4_coverTimeBelow wsX4_coverTimeBelow) := goodIn_app (goodIn_of _ (by decide +kernel)) ggX4_searchAssignments_X4_coverTimeBelow
set_option maxRecDepth 20000 in
theorem ggX4_searchAssignments_X4_turnTrialRotors : GoodIn wsX4_searchAssignments wsX4_turnTrialRotors := goodIn_r _ [47, 1, 2, 3, 48, 41, 42, 13, 43, 16, 49, 50, 51, 52, 53, 54, 55, 56, 57, 58, 59, 60, 61, 62, 63] rfl (by decide +kernel)
set_option maxRecDepth 20000 in
theorem gX4_searchAssignments_X4_turnTrialRotors : GoodIn wsX4_searchAssignments (wsV RX4 210 RX4 yX4_turnTrialRotors wsX4_turnTrialRotors) := goodIn_app (goodIn_of _ (by decide +kernel)) ggX4_searchAssignments_X4_turnTrialRotors
theorem dX4_searchAssignments_0 : decode cX4_searchAssignments 0 = .ok (.iconst 0, 1) := by decide +kernel
theorem dX4_searchAssignments_1 : decode cX4_searchAssignments 1 = .ok (.istore_n 2, 1) := by decide +kernel
theorem dX4_searchAssignments_2 : decode cX4_searchAssignments 2 = .ok (.iload_n 2, 1) := by decide +kernel
theorem dX4_searchAssignments_3 : decode cX4_searchAssignments 3 = .ok (.aload_n 0, 1) := by decide +kernel
theorem dX4_searchAssignments_4 : decode cX4_searchAssignments 4 = .ok (.getfield 19, 3) := by decide +kernel
theorem dX4_searchAssignments_7 : decode cX4_searchAssignments 7 = .ok (.getfield 86, 3) := by decide +kernel
theorem dX4_searchAssignments_10 : decode cX4_searchAssignments 10 = .ok (.if_icmp .ge 16, 3) := by decide +kernel
theorem dX4_searchAssignments_13 : decode cX4_searchAssignments 13 = .ok (.aload_n 0, 1) := by decide +kernel
theorem dX4_searchAssignments_14 : decode cX4_searchAssignments 14 = .ok (.getfield 47, 3) := by decide +kernel
theorem dX4_searchAssignments_17 : decode cX4_searchAssignments 17 = .ok (.iload_n 2, 1) := by decide +kernel
theorem dX4_searchAssignments_18 : decode cX4_searchAssignments 18 = .ok (.iconst 0, 1) := by decide +kernel
theorem dX4_searchAssignments_19 : decode cX4_searchAssignments 19 = .ok (.iastore, 1) := by decide +kernel
theorem dX4_searchAssignments_20 : decode cX4_searchAssignments 20 = .ok (.iinc 2 1, 3) := by decide +kernel
theorem dX4_searchAssignments_23 : decode cX4_searchAssignments 23 = .ok (.goto (-21), 3) := by decide +kernel
theorem dX4_searchAssignments_26 : decode cX4_searchAssignments 26 = .ok (.aload_n 0, 1) := by decide +kernel
theorem dX4_searchAssignments_27 : decode cX4_searchAssignments 27 = .ok (.getfield 19, 3) := by decide +kernel
theorem dX4_searchAssignments_30 : decode cX4_searchAssignments 30 = .ok (.invokevirtual 154, 3) := by decide +kernel
theorem dX4_searchAssignments_33 : decode cX4_searchAssignments 33 = .ok (.istore_n 2, 1) := by decide +kernel
theorem dX4_searchAssignments_34 : decode cX4_searchAssignments 34 = .ok (.aload_n 0, 1) := by decide +kernel
theorem dX4_searchAssignments_35 : decode cX4_searchAssignments 35 = .ok (.getfield 19, 3) := by decide +kernel
theorem dX4_searchAssignments_38 : decode cX4_searchAssignments 38 = .ok (.getfield 86, 3) := by decide +kernel
theorem dX4_searchAssignments_41 : decode cX4_searchAssignments 41 = .ok (.iconst 1, 1) := by decide +kernel
theorem dX4_searchAssignments_42 : decode cX4_searchAssignments 42 = .ok (.isub, 1) := by decide +kernel
theorem dX4_searchAssignments_43 : decode cX4_searchAssignments 43 = .ok (.istore_n 3, 1) := by decide +kernel
theorem dX4_searchAssignments_44 : decode cX4_searchAssignments 44 = .ok (.ldc 145, 2) := by decide +kernel
theorem dX4_searchAssignments_46 : decode cX4_searchAssignments 46 = .ok (.istore 4, 2) := by decide +kernel
theorem dX4_searchAssignments_48 : decode cX4_searchAssignments 48 = .ok (.iconst 0, 1) := by decide +kernel
theorem dX4_searchAssignments_49 : decode cX4_searchAssignments 49 = .ok (.istore 5, 2) := by decide +kernel
theorem dX4_searchAssignments_51 : decode cX4_searchAssignments 51 = .ok (.iload 5, 2) := by decide +kernel
theorem dX4_searchAssignments_53 : decode cX4_searchAssignments 53 = .ok (.iload_n 2, 1) := by decide +kernel
theorem dX4_searchAssignments_54 : decode cX4_searchAssignments 54 = .ok (.if_icmp .ge 58, 3) := by decide +kernel
theorem dX4_searchAssignments_57 : decode cX4_searchAssignments 57 = .ok (.iload 4, 2) := by decide +kernel
theorem dX4_searchAssignments_59 : decode cX4_searchAssignments 59 = .ok (.iload_n 3, 1) := by decide +kernel
theorem dX4_searchAssignments_60 : decode cX4_searchAssignments 60 = .ok (.if_icmp .le 52, 3) := by decide +kernel
theorem dX4_searchAssignments_63 : decode cX4_searchAssignments 63 = .ok (.aload_n 0, 1) := by decide +kernel
theorem dX4_searchAssignments_64 : decode cX4_searchAssignments 64 = .ok (.iload 4, 2) := by decide +kernel
theorem dX4_searchAssignments_66 : decode cX4_searchAssignments 66 = .ok (.iload_n 1, 1) := by decide +kernel
theorem dX4_searchAssignments_67 : decode cX4_searchAssignments 67 = .ok (.aload_n 0, 1) := by decide +kernel
theorem dX4_searchAssignments_68 : decode cX4_searchAssignments 68 = .ok (.getfield 47, 3) := by decide +kernel
theorem dX4_searchAssignments_71 : decode cX4_searchAssignments 71 = .ok (.invokevirtual 150, 3) := by decide +kernel
theorem dX4_searchAssignments_74 : decode cX4_searchAssignments 74 = .ok (.istore 6, 2) := by decide +kernel
theorem dX4_searchAssignments_76 : decode cX4_searchAssignments 76 = .ok (.iload 6, 2) := by decide +kernel
theorem dX4_searchAssignments_78 : decode cX4_searchAssignments 78 = .ok (.iload 4, 2) := by decide +kernel
theorem dX4_searchAssignments_80 : decode cX4_searchAssignments 80 = .ok (.if_icmp .ge 22, 3) := by decide +kernel
theorem dX4_searchAssignments_83 : decode cX4_searchAssignments 83 = .ok (.iload 6, 2) := by decide +kernel
theorem dX4_searchAssignments_85 : decode cX4_searchAssignments 85 = .ok (.istore 4, 2) := by decide +kernel
theorem dX4_searchAssignments_87 : decode cX4_searchAssignments 87 = .ok (.aload_n 0, 1) := by decide +kernel
theorem dX4_searchAssignments_88 : decode cX4_searchAssignments 88 = .ok (.getfield 47, 3) := by decide +kernel
theorem dX4_searchAssignments_91 : decode cX4_searchAssignments 91 = .ok (.iconst 0, 1) := by decide +kernel
theorem dX4_searchAssignments_92 : decode cX4_searchAssignments 92 = .ok (.aload_n 0, 1) := by decide +kernel
theorem dX4_searchAssignments_93 : decode cX4_searchAssignments 93 = .ok (.getfield 51, 3) := by decide +kernel
theorem dX4_searchAssignments_96 : decode cX4_searchAssignments 96 = .ok (.iconst 0, 1) := by decide +kernel
theorem dX4_searchAssignments_97 : decode cX4_searchAssignments 97 = .ok (.bipush 8, 2) := by decide +kernel
theorem dX4_searchAssignments_99 : decode cX4_searchAssignments 99 = .ok (.invokestatic 204, 3) := by decide +kernel
theorem dX4_searchAssignments_102 : decode cX4_searchAssignments 102 = .ok (.aload_n 0, 1) := by decide +kernel
theorem dX4_searchAssignments_103 : decode cX4_searchAssignments 103 = .ok (.invokevirtual 210, 3) := by decide +kernel
theorem dX4_searchAssignments_106 : decode cX4_searchAssignments 106 = .ok (.iinc 5 1, 3) := by decide +kernel
theorem dX4_searchAssignments_109 : decode cX4_searchAssignments 109 = .ok (.goto (-58), 3) := by decide +kernel
theorem dX4_searchAssignments_112 : decode cX4_searchAssignments 112 = .ok (.iload 4, 2) := by decide +kernel
theorem dX4_searchAssignments_114 : decode cX4_searchAssignments 114 = .ok (.ireturn, 1) := by decide +kernel
set_option maxRecDepth 20000 in
theorem ggX4_turnTrialRotors_X0_rotorAfter : GoodIn wsX4_turnTrialRotors wsX0_rotorAfter := goodIn_r _ [8, 9, 21, 22, 23, 24] rfl (by decide +kernel)
set_option maxRecDepth 20000 in
theorem gX4_turnTrialRotors_X0_rotorAfter : GoodIn wsX4_turnTrialRotors (wsV RX4 213 RX0 yX0_rotorAfter wsX0_rotorAfter) := goodIn_app (goodIn_of _ (by decide +kernel)) ggX4_turnTrialRotors_X0_rotorAfter
theorem dX4_turnTrialRotors_0 : decode cX4_turnTrialRotors 0 = .ok (.aload_n 0, 1) := by decide +kernel
theorem dX4_turnTrialRotors_1 : decode cX4_turnTrialRotors 1 = .ok (.getfield 19, 3) := by decide +kernel
theorem dX4_turnTrialRotors_4 : decode cX4_turnTrialRotors 4 = .ok (.getfield 86, 3) := by decide +kernel
theorem dX4_turnTrialRotors_7 : decode cX4_turnTrialRotors 7 = .ok (.iconst 1, 1) := by decide +kernel
theorem dX4_turnTrialRotors_8 : decode cX4_turnTrialRotors 8 = .ok (.isub, 1) := by decide +kernel
theorem dX4_turnTrialRotors_9 : decode cX4_turnTrialRotors 9 = .ok (.istore_n 1, 1) := by decide +kernel
theorem dX4_turnTrialRotors_10 : decode cX4_turnTrialRotors 10 = .ok (.iload_n 1, 1) := by decide +kernel
theorem dX4_turnTrialRotors_11 : decode cX4_turnTrialRotors 11 = .ok (.ifCond .lt 39, 3) := by decide +kernel
theorem dX4_turnTrialRotors_14 : decode cX4_turnTrialRotors 14 = .ok (.aload_n 0, 1) := by decide +kernel
theorem dX4_turnTrialRotors_15 : decode cX4_turnTrialRotors 15 = .ok (.getfield 47, 3) := by decide +kernel
theorem dX4_turnTrialRotors_18 : decode cX4_turnTrialRotors 18 = .ok (.iload_n 1, 1) := by decide +kernel
theorem dX4_turnTrialRotors_19 : decode cX4_turnTrialRotors 19 = .ok (.aload_n 0, 1) := by decide +kernel
theorem dX4_turnTrialRotors_20 : decode cX4_turnTrialRotors 20 = .ok (.getfield 19, 3) := by decide +kernel
theorem dX4_turnTrialRotors_23 : decode cX4_turnTrialRotors 23 = .ok (.iload_n 1, 1) := by decide +kernel
theorem dX4_turnTrialRotors_24 : decode cX4_turnTrialRotors 24 = .ok (.aload_n 0, 1) := by decide +kernel
theorem dX4_turnTrialRotors_25 : decode cX4_turnTrialRotors 25 = .ok (.getfield 47, 3) := by decide +kernel
theorem dX4_turnTrialRotors_28 : decode cX4_turnTrialRotors 28 = .ok (.iload_n 1, 1) := by decide +kernel
theorem dX4_turnTrialRotors_29 : decode cX4_turnTrialRotors 29 = .ok (.iaload, 1) := by decide +kernel
theorem dX4_turnTrialRotors_30 : decode cX4_turnTrialRotors 30 = .ok (.invokevirtual 213, 3) := by decide +kernel
theorem dX4_turnTrialRotors_33 : decode cX4_turnTrialRotors 33 = .ok (.iastore, 1) := by decide +kernel
theorem dX4_turnTrialRotors_34 : decode cX4_turnTrialRotors 34 = .ok (.aload_n 0, 1) := by decide +kernel
theorem dX4_turnTrialRotors_35 : decode cX4_turnTrialRotors 35 = .ok (.getfield 47, 3) := by decide +kernel
theorem dX4_turnTrialRotors_38 : decode cX4_turnTrialRotors 38 = .ok (.iload_n 1, 1) := by decide +kernel
theorem dX4_turnTrialRotors_39 : decode cX4_turnTrialRotors 39 = .ok (.iaload, 1) := by decide +kernel
theorem dX4_turnTrialRotors_40 : decode cX4_turnTrialRotors 40 = .ok (.ifCond .eq 4, 3) := by decide +kernel
theorem dX4_turnTrialRotors_43 : decode cX4_turnTrialRotors 43 = .ok (.return_, 1) := by decide +kernel
theorem dX4_turnTrialRotors_44 : decode cX4_turnTrialRotors 44 = .ok (.iinc 1 (-1), 3) := by decide +kernel
theorem dX4_turnTrialRotors_47 : decode cX4_turnTrialRotors 47 = .ok (.goto (-37), 3) := by decide +kernel
theorem dX4_turnTrialRotors_50 : decode cX4_turnTrialRotors 50 = .ok (.return_, 1) := by decide +kernel
set_option maxRecDepth 20000 in
theorem ggX4_spreadChances_X0_slot : GoodIn wsX4_spreadChances wsX0_slot := goodIn_r _ [10] rfl (by decide +kernel)
set_option maxRecDepth 20000 in
theorem gX4_spreadChances_X0_slot : GoodIn wsX4_spreadChances (va_wsS RX4 103 yX0_slot wsX0_slot) := goodIn_app (goodIn_of _ (by decide +kernel)) ggX4_spreadChances_X0_slot
theorem dX4_spreadChances_0 : decode cX4_spreadChances 0 = .ok (.iconst 0, 1) := by decide +kernel
theorem dX4_spreadChances_1 : decode cX4_spreadChances 1 = .ok (.istore_n 1, 1) := by decide +kernel
theorem dX4_spreadChances_2 : decode cX4_spreadChances 2 = .ok (.iload_n 1, 1) := by decide +kernel
theorem dX4_spreadChances_3 : decode cX4_spreadChances 3 = .ok (.aload_n 0, 1) := by decide +kernel
theorem dX4_spreadChances_4 : decode cX4_spreadChances 4 = .ok (.getfield 19, 3) := by decide +kernel
theorem dX4_spreadChances_7 : decode cX4_spreadChances 7 = .ok (.getfield 86, 3) := by decide +kernel
theorem dX4_spreadChances_10 : decode cX4_spreadChances 10 = .ok (.if_icmp .ge 16, 3) := by decide +kernel
theorem dX4_spreadChances_13 : decode cX4_spreadChances 13 = .ok (.aload_n 0, 1) := by decide +kernel
theorem dX4_spreadChances_14 : decode cX4_spreadChances 14 = .ok (.getfield 58, 3) := by decide +kernel
theorem dX4_spreadChances_17 : decode cX4_spreadChances 17 = .ok (.iload_n 1, 1) := by decide +kernel
theorem dX4_spreadChances_18 : decode cX4_spreadChances 18 = .ok (.dconst 0, 1) := by decide +kernel
theorem dX4_spreadChances_19 : decode cX4_spreadChances 19 = .ok (.dastore, 1) := by decide +kernel
theorem dX4_spreadChances_20 : decode cX4_spreadChances 20 = .ok (.iinc 1 1, 3) := by decide +kernel
theorem dX4_spreadChances_23 : decode cX4_spreadChances 23 = .ok (.goto (-21), 3) := by decide +kernel
theorem dX4_spreadChances_26 : decode cX4_spreadChances 26 = .ok (.iconst 0, 1) := by decide +kernel
theorem dX4_spreadChances_27 : decode cX4_spreadChances 27 = .ok (.istore_n 1, 1) := by decide +kernel
theorem dX4_spreadChances_28 : decode cX4_spreadChances 28 = .ok (.iload_n 1, 1) := by decide +kernel
theorem dX4_spreadChances_29 : decode cX4_spreadChances 29 = .ok (.aload_n 0, 1) := by decide +kernel
theorem dX4_spreadChances_30 : decode cX4_spreadChances 30 = .ok (.getfield 19, 3) := by decide +kernel
theorem dX4_spreadChances_33 : decode cX4_spreadChances 33 = .ok (.getfield 86, 3) := by decide +kernel
theorem dX4_spreadChances_36 : decode cX4_spreadChances 36 = .ok (.if_icmp .ge 70, 3) := by decide +kernel
theorem dX4_spreadChances_39 : decode cX4_spreadChances 39 = .ok (.iconst 0, 1) := by decide +kernel
theorem dX4_spreadChances_40 : decode cX4_spreadChances 40 = .ok (.istore_n 2, 1) := by decide +kernel
theorem dX4_spreadChances_41 : decode cX4_spreadChances 41 = .ok (.iload_n 2, 1) := by decide +kernel
theorem dX4_spreadChances_42 : decode cX4_spreadChances 42 = .ok (.aload_n 0, 1) := by decide +kernel
theorem dX4_spreadChances_43 : decode cX4_spreadChances 43 = .ok (.getfield 19, 3) := by decide +kernel
theorem dX4_spreadChances_46 : decode cX4_spreadChances 46 = .ok (.getfield 93, 3) := by decide +kernel
theorem dX4_spreadChances_49 : decode cX4_spreadChances 49 = .ok (.iload_n 1, 1) := by decide +kernel
theorem dX4_spreadChances_50 : decode cX4_spreadChances 50 = .ok (.iaload, 1) := by decide +kernel
theorem dX4_spreadChances_51 : decode cX4_spreadChances 51 = .ok (.if_icmp .ge 49, 3) := by decide +kernel
theorem dX4_spreadChances_54 : decode cX4_spreadChances 54 = .ok (.aload_n 0, 1) := by decide +kernel
theorem dX4_spreadChances_55 : decode cX4_spreadChances 55 = .ok (.getfield 19, 3) := by decide +kernel
theorem dX4_spreadChances_58 : decode cX4_spreadChances 58 = .ok (.getfield 100, 3) := by decide +kernel
theorem dX4_spreadChances_61 : decode cX4_spreadChances 61 = .ok (.iload_n 1, 1) := by decide +kernel
theorem dX4_spreadChances_62 : decode cX4_spreadChances 62 = .ok (.iload_n 2, 1) := by decide +kernel
theorem dX4_spreadChances_63 : decode cX4_spreadChances 63 = .ok (.invokestatic 103, 3) := by decide +kernel
theorem dX4_spreadChances_66 : decode cX4_spreadChances 66 = .ok (.iaload, 1) := by decide +kernel
theorem dX4_spreadChances_67 : decode cX4_spreadChances 67 = .ok (.istore_n 3, 1) := by decide +kernel
theorem dX4_spreadChances_68 : decode cX4_spreadChances 68 = .ok (.aload_n 0, 1) := by decide +kernel
theorem dX4_spreadChances_69 : decode cX4_spreadChances 69 = .ok (.getfield 58, 3) := by decide +kernel
theorem dX4_spreadChances_72 : decode cX4_spreadChances 72 = .ok (.iload_n 3, 1) := by decide +kernel
theorem dX4_spreadChances_73 : decode cX4_spreadChances 73 = .ok (.dup2, 1) := by decide +kernel
theorem dX4_spreadChances_74 : decode cX4_spreadChances 74 = .ok (.daload, 1) := by decide +kernel
theorem dX4_spreadChances_75 : decode cX4_spreadChances 75 = .ok (.aload_n 0, 1) := by decide +kernel
theorem dX4_spreadChances_76 : decode cX4_spreadChances 76 = .ok (.getfield 54, 3) := by decide +kernel
theorem dX4_spreadChances_79 : decode cX4_spreadChances 79 = .ok (.iload_n 1, 1) := by decide +kernel
theorem dX4_spreadChances_80 : decode cX4_spreadChances 80 = .ok (.daload, 1) := by decide +kernel
theorem dX4_spreadChances_81 : decode cX4_spreadChances 81 = .ok (.aload_n 0, 1) := by decide +kernel
theorem dX4_spreadChances_82 : decode cX4_spreadChances 82 = .ok (.getfield 19, 3) := by decide +kernel
theorem dX4_spreadChances_85 : decode cX4_spreadChances 85 = .ok (.getfield 93, 3) := by decide +kernel
theorem dX4_spreadChances_88 : decode cX4_spreadChances 88 = .ok (.iload_n 1, 1) := by decide +kernel
theorem dX4_spreadChances_89 : decode cX4_spreadChances 89 = .ok (.iaload, 1) := by decide +kernel
theorem dX4_spreadChances_90 : decode cX4_spreadChances 90 = .ok (.i2d, 1) := by decide +kernel
theorem dX4_spreadChances_91 : decode cX4_spreadChances 91 = .ok (.ddiv, 1) := by decide +kernel
theorem dX4_spreadChances_92 : decode cX4_spreadChances 92 = .ok (.dadd, 1) := by decide +kernel
theorem dX4_spreadChances_93 : decode cX4_spreadChances 93 = .ok (.dastore, 1) := by decide +kernel
theorem dX4_spreadChances_94 : decode cX4_spreadChances 94 = .ok (.iinc 2 1, 3) := by decide +kernel
theorem dX4_spreadChances_97 : decode cX4_spreadChances 97 = .ok (.goto (-56), 3) := by decide +kernel
theorem dX4_spreadChances_100 : decode cX4_spreadChances 100 = .ok (.iinc 1 1, 3) := by decide +kernel
theorem dX4_spreadChances_103 : decode cX4_spreadChances 103 = .ok (.goto (-75), 3) := by decide +kernel
theorem dX4_spreadChances_106 : decode cX4_spreadChances 106 = .ok (.iconst 0, 1) := by decide +kernel
theorem dX4_spreadChances_107 : decode cX4_spreadChances 107 = .ok (.istore_n 1, 1) := by decide +kernel
theorem dX4_spreadChances_108 : decode cX4_spreadChances 108 = .ok (.iload_n 1, 1) := by decide +kernel
theorem dX4_spreadChances_109 : decode cX4_spreadChances 109 = .ok (.aload_n 0, 1) := by decide +kernel
theorem dX4_spreadChances_110 : decode cX4_spreadChances 110 = .ok (.getfield 19, 3) := by decide +kernel
theorem dX4_spreadChances_113 : decode cX4_spreadChances 113 = .ok (.getfield 86, 3) := by decide +kernel
theorem dX4_spreadChances_116 : decode cX4_spreadChances 116 = .ok (.if_icmp .ge 21, 3) := by decide +kernel
theorem dX4_spreadChances_119 : decode cX4_spreadChances 119 = .ok (.aload_n 0, 1) := by decide +kernel
theorem dX4_spreadChances_120 : decode cX4_spreadChances 120 = .ok (.getfield 54, 3) := by decide +kernel
theorem dX4_spreadChances_123 : decode cX4_spreadChances 123 = .ok (.iload_n 1, 1) := by decide +kernel
theorem dX4_spreadChances_124 : decode cX4_spreadChances 124 = .ok (.aload_n 0, 1) := by decide +kernel
theorem dX4_spreadChances_125 : decode cX4_spreadChances 125 = .ok (.getfield 58, 3) := by decide +kernel
theorem dX4_spreadChances_128 : decode cX4_spreadChances 128 = .ok (.iload_n 1, 1) := by decide +kernel
theorem dX4_spreadChances_129 : decode cX4_spreadChances 129 = .ok (.daload, 1) := by decide +kernel
theorem dX4_spreadChances_130 : decode cX4_spreadChances 130 = .ok (.dastore, 1) := by decide +kernel
theorem dX4_spreadChances_131 : decode cX4_spreadChances 131 = .ok (.iinc 1 1, 3) := by decide +kernel
theorem dX4_spreadChances_134 : decode cX4_spreadChances 134 = .ok (.goto (-26), 3) := by decide +kernel
theorem dX4_spreadChances_137 : decode cX4_spreadChances 137 = .ok (.return_, 1) := by decide +kernel
theorem dX4_bitsOf_0 : decode cX4_bitsOf 0 = .ok (.dload_n 0, 1) := by decide +kernel
theorem dX4_bitsOf_1 : decode cX4_bitsOf 1 = .ok (.dconst 0, 1) := by decide +kernel
theorem dX4_bitsOf_2 : decode cX4_bitsOf 2 = .ok (.dcmp .g, 1) := by decide +kernel
theorem dX4_bitsOf_3 : decode cX4_bitsOf 3 = .ok (.ifCond .gt 5, 3) := by decide +kernel
theorem dX4_bitsOf_6 : decode cX4_bitsOf 6 = .ok (.lconst 0, 1) := by decide +kernel
theorem dX4_bitsOf_7 : decode cX4_bitsOf 7 = .ok (.lreturn, 1) := by decide +kernel
theorem dX4_bitsOf_8 : decode cX4_bitsOf 8 = .ok (.dload_n 0, 1) := by decide +kernel
theorem dX4_bitsOf_9 : decode cX4_bitsOf 9 = .ok (.dstore_n 2, 1) := by decide +kernel
theorem dX4_bitsOf_10 : decode cX4_bitsOf 10 = .ok (.iconst 0, 1) := by decide +kernel
theorem dX4_bitsOf_11 : decode cX4_bitsOf 11 = .ok (.istore 4, 2) := by decide +kernel
theorem dX4_bitsOf_13 : decode cX4_bitsOf 13 = .ok (.dload_n 2, 1) := by decide +kernel
theorem dX4_bitsOf_14 : decode cX4_bitsOf 14 = .ok (.ldc2_w 216, 3) := by decide +kernel
theorem dX4_bitsOf_17 : decode cX4_bitsOf 17 = .ok (.dcmp .l, 1) := by decide +kernel
theorem dX4_bitsOf_18 : decode cX4_bitsOf 18 = .ok (.ifCond .lt 23, 3) := by decide +kernel
theorem dX4_bitsOf_21 : decode cX4_bitsOf 21 = .ok (.iload 4, 2) := by decide +kernel
theorem dX4_bitsOf_23 : decode cX4_bitsOf 23 = .ok (.sipush 1023, 3) := by decide +kernel
theorem dX4_bitsOf_26 : decode cX4_bitsOf 26 = .ok (.if_icmp .ge 15, 3) := by decide +kernel
theorem dX4_bitsOf_29 : decode cX4_bitsOf 29 = .ok (.dload_n 2, 1) := by decide +kernel
theorem dX4_bitsOf_30 : decode cX4_bitsOf 30 = .ok (.ldc2_w 216, 3) := by decide +kernel
theorem dX4_bitsOf_33 : decode cX4_bitsOf 33 = .ok (.ddiv, 1) := by decide +kernel
theorem dX4_bitsOf_34 : decode cX4_bitsOf 34 = .ok (.dstore_n 2, 1) := by decide +kernel
theorem dX4_bitsOf_35 : decode cX4_bitsOf 35 = .ok (.iinc 4 1, 3) := by decide +kernel
theorem dX4_bitsOf_38 : decode cX4_bitsOf 38 = .ok (.goto (-25), 3) := by decide +kernel
theorem dX4_bitsOf_41 : decode cX4_bitsOf 41 = .ok (.dload_n 2, 1) := by decide +kernel
theorem dX4_bitsOf_42 : decode cX4_bitsOf 42 = .ok (.dconst 1, 1) := by decide +kernel
theorem dX4_bitsOf_43 : decode cX4_bitsOf 43 = .ok (.dcmp .g, 1) := by decide +kernel
theorem dX4_bitsOf_44 : decode cX4_bitsOf 44 = .ok (.ifCond .ge 23, 3) := by decide +kernel
theorem dX4_bitsOf_47 : decode cX4_bitsOf 47 = .ok (.iload 4, 2) := by decide +kernel
theorem dX4_bitsOf_49 : decode cX4_bitsOf 49 = .ok (.sipush (-1022), 3) := by decide +kernel
theorem dX4_bitsOf_52 : decode cX4_bitsOf 52 = .ok (.if_icmp .le 15, 3) := by decide +kernel
theorem dX4_bitsOf_55 : decode cX4_bitsOf 55 = .ok (.dload_n 2, 1) := by decide +kernel
theorem dX4_bitsOf_56 : decode cX4_bitsOf 56 = .ok (.ldc2_w 216, 3) := by decide +kernel
theorem dX4_bitsOf_59 : decode cX4_bitsOf 59 = .ok (.dmul, 1) := by decide +kernel
theorem dX4_bitsOf_60 : decode cX4_bitsOf 60 = .ok (.dstore_n 2, 1) := by decide +kernel
theorem dX4_bitsOf_61 : decode cX4_bitsOf 61 = .ok (.iinc 4 (-1), 3) := by decide +kernel
theorem dX4_bitsOf_64 : decode cX4_bitsOf 64 = .ok (.goto (-23), 3) := by decide +kernel
theorem dX4_bitsOf_67 : decode cX4_bitsOf 67 = .ok (.dload_n 2, 1) := by decide +kernel
theorem dX4_bitsOf_68 : decode cX4_bitsOf 68 = .ok (.dconst 1, 1) := by decide +kernel
theorem dX4_bitsOf_69 : decode cX4_bitsOf 69 = .ok (.dsub, 1) := by decide +kernel
theorem dX4_bitsOf_70 : decode cX4_bitsOf 70 = .ok (.ldc2_w 218, 3) := by decide +kernel
theorem dX4_bitsOf_73 : decode cX4_bitsOf 73 = .ok (.dmul, 1) := by decide +kernel
theorem dX4_bitsOf_74 : decode cX4_bitsOf 74 = .ok (.d2l, 1) := by decide +kernel
theorem dX4_bitsOf_75 : decode cX4_bitsOf 75 = .ok (.lstore 5, 2) := by decide +kernel
theorem dX4_bitsOf_77 : decode cX4_bitsOf 77 = .ok (.iload 4, 2) := by decide +kernel
theorem dX4_bitsOf_79 : decode cX4_bitsOf 79 = .ok (.sipush 1023, 3) := by decide +kernel
theorem dX4_bitsOf_82 : decode cX4_bitsOf 82 = .ok (.iadd, 1) := by decide +kernel
theorem dX4_bitsOf_83 : decode cX4_bitsOf 83 = .ok (.i2l, 1) := by decide +kernel
theorem dX4_bitsOf_84 : decode cX4_bitsOf 84 = .ok (.ldc2_w 220, 3) := by decide +kernel
theorem dX4_bitsOf_87 : decode cX4_bitsOf 87 = .ok (.lmul, 1) := by decide +kernel
theorem dX4_bitsOf_88 : decode cX4_bitsOf 88 = .ok (.lload 5, 2) := by decide +kernel
theorem dX4_bitsOf_90 : decode cX4_bitsOf 90 = .ok (.ladd, 1) := by decide +kernel
theorem dX4_bitsOf_91 : decode cX4_bitsOf 91 = .ok (.lreturn, 1) := by decide +kernel
theorem dX4_hashed_0 : decode cX4_hashed 0 = .ok (.ldc2_w 222, 3) := by decide +kernel
theorem dX4_hashed_3 : decode cX4_hashed 3 = .ok (.lload_n 0, 1) := by decide +kernel
theorem dX4_hashed_4 : decode cX4_hashed 4 = .ok (.lmul, 1) := by decide +kernel
theorem dX4_hashed_5 : decode cX4_hashed 5 = .ok (.lload_n 2, 1) := by decide +kernel
theorem dX4_hashed_6 : decode cX4_hashed 6 = .ok (.ladd, 1) := by decide +kernel
theorem dX4_hashed_7 : decode cX4_hashed 7 = .ok (.lreturn, 1) := by decide +kernel
set_option maxRecDepth 20000 in
theorem ggX4_hashedNode_X4_hashed : GoodIn wsX4_hashedNode wsX4_hashed := goodIn_r _ [11, 12] rfl (by decide +kernel)
set_option maxRecDepth 20000 in
theorem gX4_hashedNode_X4_hashed : GoodIn wsX4_hashedNode (va_wsS RX4 177 yX4_hashed wsX4_hashed) := goodIn_app (goodIn_of _ (by decide +kernel)) ggX4_hashedNode_X4_hashed
set_option maxRecDepth 20000 in
theorem ggX4_hashedNode_X0_slot : GoodIn wsX4_hashedNode wsX0_slot := goodIn_r _ [16] rfl (by decide +kernel)
set_option maxRecDepth 20000 in
theorem gX4_hashedNode_X0_slot : GoodIn wsX4_hashedNode (va_wsS RX4 103 yX0_slot wsX0_slot) := goodIn_app (goodIn_of _ (by decide +kernel)) ggX4_hashedNode_X0_slot
theorem dX4_hashedNode_0 : decode cX4_hashedNode 0 = .ok (.lload_n 1, 1) := by decide +kernel
theorem dX4_hashedNode_1 : decode cX4_hashedNode 1 = .ok (.aload_n 0, 1) := by decide +kernel
theorem dX4_hashedNode_2 : decode cX4_hashedNode 2 = .ok (.getfield 19, 3) := by decide +kernel
theorem dX4_hashedNode_5 : decode cX4_hashedNode 5 = .ok (.getfield 93, 3) := by decide +kernel
theorem dX4_hashedNode_8 : decode cX4_hashedNode 8 = .ok (.iload_n 3, 1) := by decide +kernel
theorem dX4_hashedNode_9 : decode cX4_hashedNode 9 = .ok (.iaload, 1) := by decide +kernel
theorem dX4_hashedNode_10 : decode cX4_hashedNode 10 = .ok (.i2l, 1) := by decide +kernel
theorem dX4_hashedNode_11 : decode cX4_hashedNode 11 = .ok (.invokestatic 177, 3) := by decide +kernel
theorem dX4_hashedNode_14 : decode cX4_hashedNode 14 = .ok (.lstore 4, 2) := by decide +kernel
theorem dX4_hashedNode_16 : decode cX4_hashedNode 16 = .ok (.lload 4, 2) := by decide +kernel
theorem dX4_hashedNode_18 : decode cX4_hashedNode 18 = .ok (.aload_n 0, 1) := by decide +kernel
theorem dX4_hashedNode_19 : decode cX4_hashedNode 19 = .ok (.getfield 26, 3) := by decide +kernel
theorem dX4_hashedNode_22 : decode cX4_hashedNode 22 = .ok (.getfield 106, 3) := by decide +kernel
theorem dX4_hashedNode_25 : decode cX4_hashedNode 25 = .ok (.iload_n 3, 1) := by decide +kernel
theorem dX4_hashedNode_26 : decode cX4_hashedNode 26 = .ok (.iaload, 1) := by decide +kernel
theorem dX4_hashedNode_27 : decode cX4_hashedNode 27 = .ok (.i2l, 1) := by decide +kernel
theorem dX4_hashedNode_28 : decode cX4_hashedNode 28 = .ok (.invokestatic 177, 3) := by decide +kernel
theorem dX4_hashedNode_31 : decode cX4_hashedNode 31 = .ok (.lstore 4, 2) := by decide +kernel
theorem dX4_hashedNode_33 : decode cX4_hashedNode 33 = .ok (.lload 4, 2) := by decide +kernel
theorem dX4_hashedNode_35 : decode cX4_hashedNode 35 = .ok (.aload_n 0, 1) := by decide +kernel
theorem dX4_hashedNode_36 : decode cX4_hashedNode 36 = .ok (.getfield 26, 3) := by decide +kernel
theorem dX4_hashedNode_39 : decode cX4_hashedNode 39 = .ok (.getfield 129, 3) := by decide +kernel
theorem dX4_hashedNode_42 : decode cX4_hashedNode 42 = .ok (.iload_n 3, 1) := by decide +kernel
theorem dX4_hashedNode_43 : decode cX4_hashedNode 43 = .ok (.iaload, 1) := by decide +kernel
theorem dX4_hashedNode_44 : decode cX4_hashedNode 44 = .ok (.i2l, 1) := by decide +kernel
theorem dX4_hashedNode_45 : decode cX4_hashedNode 45 = .ok (.invokestatic 177, 3) := by decide +kernel
theorem dX4_hashedNode_48 : decode cX4_hashedNode 48 = .ok (.lstore 4, 2) := by decide +kernel
theorem dX4_hashedNode_50 : decode cX4_hashedNode 50 = .ok (.iconst 0, 1) := by decide +kernel
theorem dX4_hashedNode_51 : decode cX4_hashedNode 51 = .ok (.istore 6, 2) := by decide +kernel
theorem dX4_hashedNode_53 : decode cX4_hashedNode 53 = .ok (.iload 6, 2) := by decide +kernel
theorem dX4_hashedNode_55 : decode cX4_hashedNode 55 = .ok (.aload_n 0, 1) := by decide +kernel
theorem dX4_hashedNode_56 : decode cX4_hashedNode 56 = .ok (.getfield 19, 3) := by decide +kernel
theorem dX4_hashedNode_59 : decode cX4_hashedNode 59 = .ok (.getfield 93, 3) := by decide +kernel
theorem dX4_hashedNode_62 : decode cX4_hashedNode 62 = .ok (.iload_n 3, 1) := by decide +kernel
theorem dX4_hashedNode_63 : decode cX4_hashedNode 63 = .ok (.iaload, 1) := by decide +kernel
theorem dX4_hashedNode_64 : decode cX4_hashedNode 64 = .ok (.if_icmp .ge 53, 3) := by decide +kernel
theorem dX4_hashedNode_67 : decode cX4_hashedNode 67 = .ok (.iload_n 3, 1) := by decide +kernel
theorem dX4_hashedNode_68 : decode cX4_hashedNode 68 = .ok (.iload 6, 2) := by decide +kernel
theorem dX4_hashedNode_70 : decode cX4_hashedNode 70 = .ok (.invokestatic 103, 3) := by decide +kernel
theorem dX4_hashedNode_73 : decode cX4_hashedNode 73 = .ok (.istore 7, 2) := by decide +kernel
theorem dX4_hashedNode_75 : decode cX4_hashedNode 75 = .ok (.lload 4, 2) := by decide +kernel
theorem dX4_hashedNode_77 : decode cX4_hashedNode 77 = .ok (.aload_n 0, 1) := by decide +kernel
theorem dX4_hashedNode_78 : decode cX4_hashedNode 78 = .ok (.getfield 19, 3) := by decide +kernel
theorem dX4_hashedNode_81 : decode cX4_hashedNode 81 = .ok (.getfield 100, 3) := by decide +kernel
theorem dX4_hashedNode_84 : decode cX4_hashedNode 84 = .ok (.iload 7, 2) := by decide +kernel
theorem dX4_hashedNode_86 : decode cX4_hashedNode 86 = .ok (.iaload, 1) := by decide +kernel
theorem dX4_hashedNode_87 : decode cX4_hashedNode 87 = .ok (.i2l, 1) := by decide +kernel
theorem dX4_hashedNode_88 : decode cX4_hashedNode 88 = .ok (.invokestatic 177, 3) := by decide +kernel
theorem dX4_hashedNode_91 : decode cX4_hashedNode 91 = .ok (.lstore 4, 2) := by decide +kernel
theorem dX4_hashedNode_93 : decode cX4_hashedNode 93 = .ok (.lload 4, 2) := by decide +kernel
theorem dX4_hashedNode_95 : decode cX4_hashedNode 95 = .ok (.aload_n 0, 1) := by decide +kernel
theorem dX4_hashedNode_96 : decode cX4_hashedNode 96 = .ok (.getfield 26, 3) := by decide +kernel
theorem dX4_hashedNode_99 : decode cX4_hashedNode 99 = .ok (.getfield 132, 3) := by decide +kernel
theorem dX4_hashedNode_102 : decode cX4_hashedNode 102 = .ok (.iload 7, 2) := by decide +kernel
theorem dX4_hashedNode_104 : decode cX4_hashedNode 104 = .ok (.iaload, 1) := by decide +kernel
theorem dX4_hashedNode_105 : decode cX4_hashedNode 105 = .ok (.i2l, 1) := by decide +kernel
theorem dX4_hashedNode_106 : decode cX4_hashedNode 106 = .ok (.invokestatic 177, 3) := by decide +kernel
theorem dX4_hashedNode_109 : decode cX4_hashedNode 109 = .ok (.lstore 4, 2) := by decide +kernel
theorem dX4_hashedNode_111 : decode cX4_hashedNode 111 = .ok (.iinc 6 1, 3) := by decide +kernel
theorem dX4_hashedNode_114 : decode cX4_hashedNode 114 = .ok (.goto (-61), 3) := by decide +kernel
theorem dX4_hashedNode_117 : decode cX4_hashedNode 117 = .ok (.lload 4, 2) := by decide +kernel
theorem dX4_hashedNode_119 : decode cX4_hashedNode 119 = .ok (.lreturn, 1) := by decide +kernel
set_option maxRecDepth 20000 in
theorem ggX4_hashedAnalysis_X0_assignments : GoodIn wsX4_hashedAnalysis wsX0_assignments := goodIn_r _ [6, 7, 8, 93, 94, 95, 96] rfl (by decide +kernel)
set_option maxRecDepth 20000 in
theorem gX4_hashedAnalysis_X0_assignments : GoodIn wsX4_hashedAnalysis (wsV RX4 154 RX0 yX0_assignments wsX0_assignments) := goodIn_app (goodIn_of _ (by decide +kernel)) ggX4_hashedAnalysis_X0_assignments
set_option maxRecDepth 20000 in
theorem ggX4_hashedAnalysis_X4_searchAssignments : GoodIn wsX4_hashedAnalysis wsX4_searchAssignments := goodIn_r _ [13, 1, 14, 15, 16, 17, 18, 19, 20, 21, 2, 3, 4, 5, 6, 7, 8, 22, 23, 24, 12, 25, 26, 27, 28, 29, 30, 31, 32, 33, 34, 35, 36, 37, 38, 39, 40, 41, 42, 43, 44, 45, 46, 47, 48, 49, 50, 51, 52, 82, 83, 84, 85, 86, 87, 88, 89, 90, 91, 92, 93, 94, 95, 96, 97, 98] rfl (by decide +kernel)
set_option maxRecDepth 20000 in
theorem gX4_hashedAnalysis_X4_searchAssignments : GoodIn wsX4_hashedAnalysis (wsV RX4 157 RX4 yX4_searchAssignments wsX4_searchAssignments) := goodIn_app (goodIn_of _ (by decide +kernel)) ggX4_hashedAnalysis_X4_searchAssignments
set_option maxRecDepth 20000 in
theorem ggX4_hashedAnalysis_X4_hashed : GoodIn wsX4_hashedAnalysis wsX4_hashed := goodIn_r _ [55, 56] rfl (by decide +kernel)
set_option maxRecDepth 20000 in
theorem gX4_hashedAnalysis_X4_hashed : GoodIn wsX4_hashedAnalysis (va_wsS RX4 177 yX4_hashed wsX4_hashed) := goodIn_app (goodIn_of _ (by decide +kernel)) ggX4_hashedAnalysis_X4_hashed
set_option maxRecDepth 20000 in
theorem ggX4_hashedAnalysis_X4_expectedArrivals : GoodIn wsX4_hashedAnalysis wsX4_expectedArrivals := goodIn_r _ [60, 1, 61, 62, 14, 63, 64, 65, 66, 5, 67, 7, 68, 69, 70, 12, 71, 72, 73, 74, 75, 42, 43, 76, 77, 78, 79, 80, 81, 82, 83, 84, 85, 86, 87, 88, 89, 90, 91, 92, 93, 94, 95, 96] rfl (by decide +kernel)
set_option maxRecDepth 20000 in
theorem gX4_hashedAnalysis_X4_expectedArrivals : GoodIn wsX4_hashedAnalysis (wsV RX4 224 RX4 yX4_expectedArrivals wsX4_expectedArrivals) := goodIn_app (goodIn_of _ (by decide +kernel)) ggX4_hashedAnalysis_X4_expectedArrivals
theorem dX4_hashedAnalysis_0 : decode cX4_hashedAnalysis 0 = .ok (.lload_n 1, 1) := by decide +kernel
theorem dX4_hashedAnalysis_1 : decode cX4_hashedAnalysis 1 = .ok (.lstore_n 3, 1) := by decide +kernel
theorem dX4_hashedAnalysis_2 : decode cX4_hashedAnalysis 2 = .ok (.aload_n 0, 1) := by decide +kernel
theorem dX4_hashedAnalysis_3 : decode cX4_hashedAnalysis 3 = .ok (.getfield 19, 3) := by decide +kernel
theorem dX4_hashedAnalysis_6 : decode cX4_hashedAnalysis 6 = .ok (.invokevirtual 154, 3) := by decide +kernel
theorem dX4_hashedAnalysis_9 : decode cX4_hashedAnalysis 9 = .ok (.sipush 2000, 3) := by decide +kernel
theorem dX4_hashedAnalysis_12 : decode cX4_hashedAnalysis 12 = .ok (.if_icmp .gt 14, 3) := by decide +kernel
theorem dX4_hashedAnalysis_15 : decode cX4_hashedAnalysis 15 = .ok (.lload_n 3, 1) := by decide +kernel
theorem dX4_hashedAnalysis_16 : decode cX4_hashedAnalysis 16 = .ok (.aload_n 0, 1) := by decide +kernel
theorem dX4_hashedAnalysis_17 : decode cX4_hashedAnalysis 17 = .ok (.iconst 0, 1) := by decide +kernel
theorem dX4_hashedAnalysis_18 : decode cX4_hashedAnalysis 18 = .ok (.invokevirtual 157, 3) := by decide +kernel
theorem dX4_hashedAnalysis_21 : decode cX4_hashedAnalysis 21 = .ok (.i2l, 1) := by decide +kernel
theorem dX4_hashedAnalysis_22 : decode cX4_hashedAnalysis 22 = .ok (.invokestatic 177, 3) := by decide +kernel
theorem dX4_hashedAnalysis_25 : decode cX4_hashedAnalysis 25 = .ok (.lstore_n 3, 1) := by decide +kernel
theorem dX4_hashedAnalysis_26 : decode cX4_hashedAnalysis 26 = .ok (.lload_n 3, 1) := by decide +kernel
theorem dX4_hashedAnalysis_27 : decode cX4_hashedAnalysis 27 = .ok (.aload_n 0, 1) := by decide +kernel
theorem dX4_hashedAnalysis_28 : decode cX4_hashedAnalysis 28 = .ok (.iconst 0, 1) := by decide +kernel
theorem dX4_hashedAnalysis_29 : decode cX4_hashedAnalysis 29 = .ok (.bipush 7, 2) := by decide +kernel
theorem dX4_hashedAnalysis_31 : decode cX4_hashedAnalysis 31 = .ok (.iconst 1, 1) := by decide +kernel
theorem dX4_hashedAnalysis_32 : decode cX4_hashedAnalysis 32 = .ok (.invokevirtual 224, 3) := by decide +kernel
theorem dX4_hashedAnalysis_35 : decode cX4_hashedAnalysis 35 = .ok (.invokestatic 177, 3) := by decide +kernel
theorem dX4_hashedAnalysis_38 : decode cX4_hashedAnalysis 38 = .ok (.lreturn, 1) := by decide +kernel
set_option maxRecDepth 20000 in
theorem ggX4_hashedInput_X4_hashed : GoodIn wsX4_hashedInput wsX4_hashed := goodIn_r _ [7, 8] rfl (by decide +kernel)
set_option maxRecDepth 20000 in
theorem gX4_hashedInput_X4_hashed : GoodIn wsX4_hashedInput (va_wsS RX4 177 yX4_hashed wsX4_hashed) := goodIn_app (goodIn_of _ (by decide +kernel)) ggX4_hashedInput_X4_hashed
theorem dX4_hashedInput_0 : decode cX4_hashedInput 0 = .ok (.lload_n 1, 1) := by decide +kernel
theorem dX4_hashedInput_1 : decode cX4_hashedInput 1 = .ok (.aload_n 0, 1) := by decide +kernel
theorem dX4_hashedInput_2 : decode cX4_hashedInput 2 = .ok (.getfield 12, 3) := by decide +kernel
theorem dX4_hashedInput_5 : decode cX4_hashedInput 5 = .ok (.getfield 61, 3) := by decide +kernel
theorem dX4_hashedInput_8 : decode cX4_hashedInput 8 = .ok (.i2l, 1) := by decide +kernel
theorem dX4_hashedInput_9 : decode cX4_hashedInput 9 = .ok (.invokestatic 177, 3) := by decide +kernel
theorem dX4_hashedInput_12 : decode cX4_hashedInput 12 = .ok (.lstore_n 3, 1) := by decide +kernel
theorem dX4_hashedInput_13 : decode cX4_hashedInput 13 = .ok (.iconst 0, 1) := by decide +kernel
theorem dX4_hashedInput_14 : decode cX4_hashedInput 14 = .ok (.istore 5, 2) := by decide +kernel
theorem dX4_hashedInput_16 : decode cX4_hashedInput 16 = .ok (.iload 5, 2) := by decide +kernel
theorem dX4_hashedInput_18 : decode cX4_hashedInput 18 = .ok (.aload_n 0, 1) := by decide +kernel
theorem dX4_hashedInput_19 : decode cX4_hashedInput 19 = .ok (.getfield 12, 3) := by decide +kernel
theorem dX4_hashedInput_22 : decode cX4_hashedInput 22 = .ok (.getfield 61, 3) := by decide +kernel
theorem dX4_hashedInput_25 : decode cX4_hashedInput 25 = .ok (.if_icmp .ge 25, 3) := by decide +kernel
theorem dX4_hashedInput_28 : decode cX4_hashedInput 28 = .ok (.lload_n 3, 1) := by decide +kernel
theorem dX4_hashedInput_29 : decode cX4_hashedInput 29 = .ok (.aload_n 0, 1) := by decide +kernel
theorem dX4_hashedInput_30 : decode cX4_hashedInput 30 = .ok (.getfield 12, 3) := by decide +kernel
theorem dX4_hashedInput_33 : decode cX4_hashedInput 33 = .ok (.getfield 65, 3) := by decide +kernel
theorem dX4_hashedInput_36 : decode cX4_hashedInput 36 = .ok (.iload 5, 2) := by decide +kernel
theorem dX4_hashedInput_38 : decode cX4_hashedInput 38 = .ok (.iaload, 1) := by decide +kernel
theorem dX4_hashedInput_39 : decode cX4_hashedInput 39 = .ok (.i2l, 1) := by decide +kernel
theorem dX4_hashedInput_40 : decode cX4_hashedInput 40 = .ok (.invokestatic 177, 3) := by decide +kernel
theorem dX4_hashedInput_43 : decode cX4_hashedInput 43 = .ok (.lstore_n 3, 1) := by decide +kernel
theorem dX4_hashedInput_44 : decode cX4_hashedInput 44 = .ok (.iinc 5 1, 3) := by decide +kernel
theorem dX4_hashedInput_47 : decode cX4_hashedInput 47 = .ok (.goto (-31), 3) := by decide +kernel
theorem dX4_hashedInput_50 : decode cX4_hashedInput 50 = .ok (.lload_n 3, 1) := by decide +kernel
theorem dX4_hashedInput_51 : decode cX4_hashedInput 51 = .ok (.lreturn, 1) := by decide +kernel
end
section
theorem dX5_init_0 : decode cX5_init 0 = .ok (.aload_n 0, 1) := by decide +kernel
theorem dX5_init_1 : decode cX5_init 1 = .ok (.invokespecial 1, 3) := by decide +kernel
theorem dX5_init_4 : decode cX5_init 4 = .ok (.aload_n 0, 1) := by decide +kernel
theorem dX5_init_5 : decode cX5_init 5 = .ok (.bipush 40, 2) := by decide +kernel
theorem dX5_init_7 : decode cX5_init 7 = .ok (.newarray .int, 2) := by decide +kernel
theorem dX5_init_9 : decode cX5_init 9 = .ok (.putfield 7, 3) := by decide +kernel
theorem dX5_init_12 : decode cX5_init 12 = .ok (.aload_n 0, 1) := by decide +kernel
theorem dX5_init_13 : decode cX5_init 13 = .ok (.bipush 64, 2) := by decide +kernel
theorem dX5_init_15 : decode cX5_init 15 = .ok (.newarray .int, 2) := by decide +kernel
theorem dX5_init_17 : decode cX5_init 17 = .ok (.putfield 13, 3) := by decide +kernel
theorem dX5_init_20 : decode cX5_init 20 = .ok (.aload_n 0, 1) := by decide +kernel
theorem dX5_init_21 : decode cX5_init 21 = .ok (.bipush 8, 2) := by decide +kernel
theorem dX5_init_23 : decode cX5_init 23 = .ok (.newarray .int, 2) := by decide +kernel
theorem dX5_init_25 : decode cX5_init 25 = .ok (.putfield 16, 3) := by decide +kernel
theorem dX5_init_28 : decode cX5_init 28 = .ok (.aload_n 0, 1) := by decide +kernel
theorem dX5_init_29 : decode cX5_init 29 = .ok (.bipush 8, 2) := by decide +kernel
theorem dX5_init_31 : decode cX5_init 31 = .ok (.newarray .int, 2) := by decide +kernel
theorem dX5_init_33 : decode cX5_init 33 = .ok (.putfield 19, 3) := by decide +kernel
theorem dX5_init_36 : decode cX5_init 36 = .ok (.aload_n 0, 1) := by decide +kernel
theorem dX5_init_37 : decode cX5_init 37 = .ok (.iconst 4, 1) := by decide +kernel
theorem dX5_init_38 : decode cX5_init 38 = .ok (.newarray .int, 2) := by decide +kernel
theorem dX5_init_40 : decode cX5_init 40 = .ok (.putfield 22, 3) := by decide +kernel
theorem dX5_init_43 : decode cX5_init 43 = .ok (.aload_n 0, 1) := by decide +kernel
theorem dX5_init_44 : decode cX5_init 44 = .ok (.bipush 8, 2) := by decide +kernel
theorem dX5_init_46 : decode cX5_init 46 = .ok (.newarray .int, 2) := by decide +kernel
theorem dX5_init_48 : decode cX5_init 48 = .ok (.putfield 25, 3) := by decide +kernel
theorem dX5_init_51 : decode cX5_init 51 = .ok (.aload_n 0, 1) := by decide +kernel
theorem dX5_init_52 : decode cX5_init 52 = .ok (.bipush 64, 2) := by decide +kernel
theorem dX5_init_54 : decode cX5_init 54 = .ok (.newarray .int, 2) := by decide +kernel
theorem dX5_init_56 : decode cX5_init 56 = .ok (.putfield 28, 3) := by decide +kernel
theorem dX5_init_59 : decode cX5_init 59 = .ok (.aload_n 0, 1) := by decide +kernel
theorem dX5_init_60 : decode cX5_init 60 = .ok (.bipush 8, 2) := by decide +kernel
theorem dX5_init_62 : decode cX5_init 62 = .ok (.newarray .int, 2) := by decide +kernel
theorem dX5_init_64 : decode cX5_init 64 = .ok (.putfield 31, 3) := by decide +kernel
theorem dX5_init_67 : decode cX5_init 67 = .ok (.aload_n 0, 1) := by decide +kernel
theorem dX5_init_68 : decode cX5_init 68 = .ok (.bipush 8, 2) := by decide +kernel
theorem dX5_init_70 : decode cX5_init 70 = .ok (.newarray .int, 2) := by decide +kernel
theorem dX5_init_72 : decode cX5_init 72 = .ok (.putfield 34, 3) := by decide +kernel
theorem dX5_init_75 : decode cX5_init 75 = .ok (.aload_n 0, 1) := by decide +kernel
theorem dX5_init_76 : decode cX5_init 76 = .ok (.bipush 8, 2) := by decide +kernel
theorem dX5_init_78 : decode cX5_init 78 = .ok (.newarray .double, 2) := by decide +kernel
theorem dX5_init_80 : decode cX5_init 80 = .ok (.putfield 37, 3) := by decide +kernel
theorem dX5_init_83 : decode cX5_init 83 = .ok (.aload_n 0, 1) := by decide +kernel
theorem dX5_init_84 : decode cX5_init 84 = .ok (.bipush 8, 2) := by decide +kernel
theorem dX5_init_86 : decode cX5_init 86 = .ok (.newarray .double, 2) := by decide +kernel
theorem dX5_init_88 : decode cX5_init 88 = .ok (.putfield 41, 3) := by decide +kernel
theorem dX5_init_91 : decode cX5_init 91 = .ok (.aload_n 0, 1) := by decide +kernel
theorem dX5_init_92 : decode cX5_init 92 = .ok (.bipush 8, 2) := by decide +kernel
theorem dX5_init_94 : decode cX5_init 94 = .ok (.newarray .int, 2) := by decide +kernel
theorem dX5_init_96 : decode cX5_init 96 = .ok (.putfield 44, 3) := by decide +kernel
theorem dX5_init_99 : decode cX5_init 99 = .ok (.aload_n 0, 1) := by decide +kernel
theorem dX5_init_100 : decode cX5_init 100 = .ok (.iconst 4, 1) := by decide +kernel
theorem dX5_init_101 : decode cX5_init 101 = .ok (.newarray .int, 2) := by decide +kernel
theorem dX5_init_103 : decode cX5_init 103 = .ok (.putfield 47, 3) := by decide +kernel
theorem dX5_init_106 : decode cX5_init 106 = .ok (.aload_n 0, 1) := by decide +kernel
theorem dX5_init_107 : decode cX5_init 107 = .ok (.bipush 8, 2) := by decide +kernel
theorem dX5_init_109 : decode cX5_init 109 = .ok (.newarray .int, 2) := by decide +kernel
theorem dX5_init_111 : decode cX5_init 111 = .ok (.putfield 50, 3) := by decide +kernel
theorem dX5_init_114 : decode cX5_init 114 = .ok (.aload_n 0, 1) := by decide +kernel
theorem dX5_init_115 : decode cX5_init 115 = .ok (.bipush 64, 2) := by decide +kernel
theorem dX5_init_117 : decode cX5_init 117 = .ok (.newarray .int, 2) := by decide +kernel
theorem dX5_init_119 : decode cX5_init 119 = .ok (.putfield 53, 3) := by decide +kernel
theorem dX5_init_122 : decode cX5_init 122 = .ok (.return_, 1) := by decide +kernel
theorem dX5_within_0 : decode cX5_within 0 = .ok (.iload_n 0, 1) := by decide +kernel
theorem dX5_within_1 : decode cX5_within 1 = .ok (.iload_n 1, 1) := by decide +kernel
theorem dX5_within_2 : decode cX5_within 2 = .ok (.if_icmp .lt 12, 3) := by decide +kernel
theorem dX5_within_5 : decode cX5_within 5 = .ok (.iload_n 0, 1) := by decide +kernel
theorem dX5_within_6 : decode cX5_within 6 = .ok (.iload_n 2, 1) := by decide +kernel
theorem dX5_within_7 : decode cX5_within 7 = .ok (.if_icmp .gt 7, 3) := by decide +kernel
theorem dX5_within_10 : decode cX5_within 10 = .ok (.iconst 1, 1) := by decide +kernel
theorem dX5_within_11 : decode cX5_within 11 = .ok (.goto 4, 3) := by decide +kernel
theorem dX5_within_14 : decode cX5_within 14 = .ok (.iconst 0, 1) := by decide +kernel
theorem dX5_within_15 : decode cX5_within 15 = .ok (.ireturn, 1) := by decide +kernel
set_option maxRecDepth 20000 in
theorem ggX5_append_X5_within : GoodIn wsX5_append wsX5_within := goodIn_r _ [6] rfl (by decide +kernel)
set_option maxRecDepth 20000 in
theorem gX5_append_X5_within : GoodIn wsX5_append (va_wsS RX5 56 yX5_within wsX5_within) := goodIn_app (goodIn_of _ (by decide +kernel)) ggX5_append_X5_within
theorem dX5_append_0 : decode cX5_append 0 = .ok (.iload_n 1, 1) := by decide +kernel
theorem dX5_append_1 : decode cX5_append 1 = .ok (.bipush 32, 2) := by decide +kernel
theorem dX5_append_3 : decode cX5_append 3 = .ok (.bipush 126, 2) := by decide +kernel
theorem dX5_append_5 : decode cX5_append 5 = .ok (.invokestatic 56, 3) := by decide +kernel
theorem dX5_append_8 : decode cX5_append 8 = .ok (.ifCond .ne 5, 3) := by decide +kernel
theorem dX5_append_11 : decode cX5_append 11 = .ok (.iconst (-1), 1) := by decide +kernel
theorem dX5_append_12 : decode cX5_append 12 = .ok (.ireturn, 1) := by decide +kernel
theorem dX5_append_13 : decode cX5_append 13 = .ok (.aload_n 0, 1) := by decide +kernel
theorem dX5_append_14 : decode cX5_append 14 = .ok (.getfield 60, 3) := by decide +kernel
theorem dX5_append_17 : decode cX5_append 17 = .ok (.bipush 40, 2) := by decide +kernel
theorem dX5_append_19 : decode cX5_append 19 = .ok (.if_icmp .ne 6, 3) := by decide +kernel
theorem dX5_append_22 : decode cX5_append 22 = .ok (.bipush (-2), 2) := by decide +kernel
theorem dX5_append_24 : decode cX5_append 24 = .ok (.ireturn, 1) := by decide +kernel
theorem dX5_append_25 : decode cX5_append 25 = .ok (.aload_n 0, 1) := by decide +kernel
theorem dX5_append_26 : decode cX5_append 26 = .ok (.getfield 7, 3) := by decide +kernel
theorem dX5_append_29 : decode cX5_append 29 = .ok (.aload_n 0, 1) := by decide +kernel
theorem dX5_append_30 : decode cX5_append 30 = .ok (.getfield 60, 3) := by decide +kernel
theorem dX5_append_33 : decode cX5_append 33 = .ok (.iload_n 1, 1) := by decide +kernel
theorem dX5_append_34 : decode cX5_append 34 = .ok (.iastore, 1) := by decide +kernel
theorem dX5_append_35 : decode cX5_append 35 = .ok (.aload_n 0, 1) := by decide +kernel
theorem dX5_append_36 : decode cX5_append 36 = .ok (.dup, 1) := by decide +kernel
theorem dX5_append_37 : decode cX5_append 37 = .ok (.getfield 60, 3) := by decide +kernel
theorem dX5_append_40 : decode cX5_append 40 = .ok (.iconst 1, 1) := by decide +kernel
theorem dX5_append_41 : decode cX5_append 41 = .ok (.iadd, 1) := by decide +kernel
theorem dX5_append_42 : decode cX5_append 42 = .ok (.putfield 60, 3) := by decide +kernel
theorem dX5_append_45 : decode cX5_append 45 = .ok (.aload_n 0, 1) := by decide +kernel
theorem dX5_append_46 : decode cX5_append 46 = .ok (.getfield 60, 3) := by decide +kernel
theorem dX5_append_49 : decode cX5_append 49 = .ok (.ireturn, 1) := by decide +kernel
theorem dX5_clearInput_0 : decode cX5_clearInput 0 = .ok (.aload_n 0, 1) := by decide +kernel
theorem dX5_clearInput_1 : decode cX5_clearInput 1 = .ok (.getfield 60, 3) := by decide +kernel
theorem dX5_clearInput_4 : decode cX5_clearInput 4 = .ok (.istore_n 1, 1) := by decide +kernel
theorem dX5_clearInput_5 : decode cX5_clearInput 5 = .ok (.aload_n 0, 1) := by decide +kernel
theorem dX5_clearInput_6 : decode cX5_clearInput 6 = .ok (.iconst 0, 1) := by decide +kernel
theorem dX5_clearInput_7 : decode cX5_clearInput 7 = .ok (.putfield 60, 3) := by decide +kernel
theorem dX5_clearInput_10 : decode cX5_clearInput 10 = .ok (.iload_n 1, 1) := by decide +kernel
theorem dX5_clearInput_11 : decode cX5_clearInput 11 = .ok (.ireturn, 1) := by decide +kernel
theorem dX5_isNodeDigit_0 : decode cX5_isNodeDigit 0 = .ok (.aload_n 0, 1) := by decide +kernel
theorem dX5_isNodeDigit_1 : decode cX5_isNodeDigit 1 = .ok (.getfield 7, 3) := by decide +kernel
theorem dX5_isNodeDigit_4 : decode cX5_isNodeDigit 4 = .ok (.iload_n 1, 1) := by decide +kernel
theorem dX5_isNodeDigit_5 : decode cX5_isNodeDigit 5 = .ok (.iaload, 1) := by decide +kernel
theorem dX5_isNodeDigit_6 : decode cX5_isNodeDigit 6 = .ok (.bipush 48, 2) := by decide +kernel
theorem dX5_isNodeDigit_8 : decode cX5_isNodeDigit 8 = .ok (.if_icmp .lt 22, 3) := by decide +kernel
theorem dX5_isNodeDigit_11 : decode cX5_isNodeDigit 11 = .ok (.aload_n 0, 1) := by decide +kernel
theorem dX5_isNodeDigit_12 : decode cX5_isNodeDigit 12 = .ok (.getfield 7, 3) := by decide +kernel
theorem dX5_isNodeDigit_15 : decode cX5_isNodeDigit 15 = .ok (.iload_n 1, 1) := by decide +kernel
theorem dX5_isNodeDigit_16 : decode cX5_isNodeDigit 16 = .ok (.iaload, 1) := by decide +kernel
theorem dX5_isNodeDigit_17 : decode cX5_isNodeDigit 17 = .ok (.aload_n 0, 1) := by decide +kernel
theorem dX5_isNodeDigit_18 : decode cX5_isNodeDigit 18 = .ok (.getfield 7, 3) := by decide +kernel
theorem dX5_isNodeDigit_21 : decode cX5_isNodeDigit 21 = .ok (.iconst 0, 1) := by decide +kernel
theorem dX5_isNodeDigit_22 : decode cX5_isNodeDigit 22 = .ok (.iaload, 1) := by decide +kernel
theorem dX5_isNodeDigit_23 : decode cX5_isNodeDigit 23 = .ok (.if_icmp .ge 7, 3) := by decide +kernel
theorem dX5_isNodeDigit_26 : decode cX5_isNodeDigit 26 = .ok (.iconst 1, 1) := by decide +kernel
theorem dX5_isNodeDigit_27 : decode cX5_isNodeDigit 27 = .ok (.goto 4, 3) := by decide +kernel
theorem dX5_isNodeDigit_30 : decode cX5_isNodeDigit 30 = .ok (.iconst 0, 1) := by decide +kernel
theorem dX5_isNodeDigit_31 : decode cX5_isNodeDigit 31 = .ok (.ireturn, 1) := by decide +kernel
set_option maxRecDepth 20000 in
theorem ggX5_isSecondNode_X5_isNodeDigit : GoodIn wsX5_isSecondNode wsX5_isNodeDigit := goodIn_r _ [6, 1, 7, 8, 9, 10, 11, 12, 13, 14, 15, 16, 17, 18, 19, 20, 21, 22, 23, 24, 25, 26, 27, 28, 29] rfl (by decide +kernel)
set_option maxRecDepth 20000 in
theorem gX5_isSecondNode_X5_isNodeDigit : GoodIn wsX5_isSecondNode (wsV RX5 64 RX5 yX5_isNodeDigit wsX5_isNodeDigit) := goodIn_app (goodIn_of _ (by decide +kernel)) ggX5_isSecondNode_X5_isNodeDigit
theorem dX5_isSecondNode_0 : decode cX5_isSecondNode 0 = .ok (.aload_n 0, 1) := by decide +kernel
theorem dX5_isSecondNode_1 : decode cX5_isSecondNode 1 = .ok (.getfield 7, 3) := by decide +kernel
theorem dX5_isSecondNode_4 : decode cX5_isSecondNode 4 = .ok (.iload_n 1, 1) := by decide +kernel
theorem dX5_isSecondNode_5 : decode cX5_isSecondNode 5 = .ok (.iconst 1, 1) := by decide +kernel
theorem dX5_isSecondNode_6 : decode cX5_isSecondNode 6 = .ok (.isub, 1) := by decide +kernel
theorem dX5_isSecondNode_7 : decode cX5_isSecondNode 7 = .ok (.iaload, 1) := by decide +kernel
theorem dX5_isSecondNode_8 : decode cX5_isSecondNode 8 = .ok (.istore_n 2, 1) := by decide +kernel
theorem dX5_isSecondNode_9 : decode cX5_isSecondNode 9 = .ok (.aload_n 0, 1) := by decide +kernel
theorem dX5_isSecondNode_10 : decode cX5_isSecondNode 10 = .ok (.getfield 7, 3) := by decide +kernel
theorem dX5_isSecondNode_13 : decode cX5_isSecondNode 13 = .ok (.iload_n 1, 1) := by decide +kernel
theorem dX5_isSecondNode_14 : decode cX5_isSecondNode 14 = .ok (.iaload, 1) := by decide +kernel
theorem dX5_isSecondNode_15 : decode cX5_isSecondNode 15 = .ok (.istore_n 3, 1) := by decide +kernel
theorem dX5_isSecondNode_16 : decode cX5_isSecondNode 16 = .ok (.aload_n 0, 1) := by decide +kernel
theorem dX5_isSecondNode_17 : decode cX5_isSecondNode 17 = .ok (.iload_n 1, 1) := by decide +kernel
theorem dX5_isSecondNode_18 : decode cX5_isSecondNode 18 = .ok (.invokevirtual 64, 3) := by decide +kernel
theorem dX5_isSecondNode_21 : decode cX5_isSecondNode 21 = .ok (.ifCond .eq 12, 3) := by decide +kernel
theorem dX5_isSecondNode_24 : decode cX5_isSecondNode 24 = .ok (.iload_n 2, 1) := by decide +kernel
theorem dX5_isSecondNode_25 : decode cX5_isSecondNode 25 = .ok (.iload_n 3, 1) := by decide +kernel
theorem dX5_isSecondNode_26 : decode cX5_isSecondNode 26 = .ok (.if_icmp .eq 7, 3) := by decide +kernel
theorem dX5_isSecondNode_29 : decode cX5_isSecondNode 29 = .ok (.iconst 1, 1) := by decide +kernel
theorem dX5_isSecondNode_30 : decode cX5_isSecondNode 30 = .ok (.goto 4, 3) := by decide +kernel
theorem dX5_isSecondNode_33 : decode cX5_isSecondNode 33 = .ok (.iconst 0, 1) := by decide +kernel
theorem dX5_isSecondNode_34 : decode cX5_isSecondNode 34 = .ok (.istore 4, 2) := by decide +kernel
theorem dX5_isSecondNode_36 : decode cX5_isSecondNode 36 = .ok (.iconst 2, 1) := by decide +kernel
theorem dX5_isSecondNode_37 : decode cX5_isSecondNode 37 = .ok (.istore 5, 2) := by decide +kernel
theorem dX5_isSecondNode_39 : decode cX5_isSecondNode 39 = .ok (.iload 5, 2) := by decide +kernel
theorem dX5_isSecondNode_41 : decode cX5_isSecondNode 41 = .ok (.iconst 1, 1) := by decide +kernel
theorem dX5_isSecondNode_42 : decode cX5_isSecondNode 42 = .ok (.iadd, 1) := by decide +kernel
theorem dX5_isSecondNode_43 : decode cX5_isSecondNode 43 = .ok (.iload_n 1, 1) := by decide +kernel
theorem dX5_isSecondNode_44 : decode cX5_isSecondNode 44 = .ok (.iconst 1, 1) := by decide +kernel
theorem dX5_isSecondNode_45 : decode cX5_isSecondNode 45 = .ok (.isub, 1) := by decide +kernel
theorem dX5_isSecondNode_46 : decode cX5_isSecondNode 46 = .ok (.if_icmp .ge 81, 3) := by decide +kernel
theorem dX5_isSecondNode_49 : decode cX5_isSecondNode 49 = .ok (.aload_n 0, 1) := by decide +kernel
theorem dX5_isSecondNode_50 : decode cX5_isSecondNode 50 = .ok (.getfield 7, 3) := by decide +kernel
theorem dX5_isSecondNode_53 : decode cX5_isSecondNode 53 = .ok (.iload 5, 2) := by decide +kernel
theorem dX5_isSecondNode_55 : decode cX5_isSecondNode 55 = .ok (.iaload, 1) := by decide +kernel
theorem dX5_isSecondNode_56 : decode cX5_isSecondNode 56 = .ok (.iload_n 2, 1) := by decide +kernel
theorem dX5_isSecondNode_57 : decode cX5_isSecondNode 57 = .ok (.if_icmp .ne 16, 3) := by decide +kernel
theorem dX5_isSecondNode_60 : decode cX5_isSecondNode 60 = .ok (.aload_n 0, 1) := by decide +kernel
theorem dX5_isSecondNode_61 : decode cX5_isSecondNode 61 = .ok (.getfield 7, 3) := by decide +kernel
theorem dX5_isSecondNode_64 : decode cX5_isSecondNode 64 = .ok (.iload 5, 2) := by decide +kernel
theorem dX5_isSecondNode_66 : decode cX5_isSecondNode 66 = .ok (.iconst 1, 1) := by decide +kernel
theorem dX5_isSecondNode_67 : decode cX5_isSecondNode 67 = .ok (.iadd, 1) := by decide +kernel
theorem dX5_isSecondNode_68 : decode cX5_isSecondNode 68 = .ok (.iaload, 1) := by decide +kernel
theorem dX5_isSecondNode_69 : decode cX5_isSecondNode 69 = .ok (.iload_n 3, 1) := by decide +kernel
theorem dX5_isSecondNode_70 : decode cX5_isSecondNode 70 = .ok (.if_icmp .eq 27, 3) := by decide +kernel
theorem dX5_isSecondNode_73 : decode cX5_isSecondNode 73 = .ok (.aload_n 0, 1) := by decide +kernel
theorem dX5_isSecondNode_74 : decode cX5_isSecondNode 74 = .ok (.getfield 7, 3) := by decide +kernel
theorem dX5_isSecondNode_77 : decode cX5_isSecondNode 77 = .ok (.iload 5, 2) := by decide +kernel
theorem dX5_isSecondNode_79 : decode cX5_isSecondNode 79 = .ok (.iaload, 1) := by decide +kernel
theorem dX5_isSecondNode_80 : decode cX5_isSecondNode 80 = .ok (.iload_n 3, 1) := by decide +kernel
theorem dX5_isSecondNode_81 : decode cX5_isSecondNode 81 = .ok (.if_icmp .ne 20, 3) := by decide +kernel
theorem dX5_isSecondNode_84 : decode cX5_isSecondNode 84 = .ok (.aload_n 0, 1) := by decide +kernel
theorem dX5_isSecondNode_85 : decode cX5_isSecondNode 85 = .ok (.getfield 7, 3) := by decide +kernel
theorem dX5_isSecondNode_88 : decode cX5_isSecondNode 88 = .ok (.iload 5, 2) := by decide +kernel
theorem dX5_isSecondNode_90 : decode cX5_isSecondNode 90 = .ok (.iconst 1, 1) := by decide +kernel
theorem dX5_isSecondNode_91 : decode cX5_isSecondNode 91 = .ok (.iadd, 1) := by decide +kernel
theorem dX5_isSecondNode_92 : decode cX5_isSecondNode 92 = .ok (.iaload, 1) := by decide +kernel
theorem dX5_isSecondNode_93 : decode cX5_isSecondNode 93 = .ok (.iload_n 2, 1) := by decide +kernel
theorem dX5_isSecondNode_94 : decode cX5_isSecondNode 94 = .ok (.if_icmp .ne 7, 3) := by decide +kernel
theorem dX5_isSecondNode_97 : decode cX5_isSecondNode 97 = .ok (.iconst 1, 1) := by decide +kernel
theorem dX5_isSecondNode_98 : decode cX5_isSecondNode 98 = .ok (.goto 4, 3) := by decide +kernel
theorem dX5_isSecondNode_101 : decode cX5_isSecondNode 101 = .ok (.iconst 0, 1) := by decide +kernel
theorem dX5_isSecondNode_102 : decode cX5_isSecondNode 102 = .ok (.istore 6, 2) := by decide +kernel
theorem dX5_isSecondNode_104 : decode cX5_isSecondNode 104 = .ok (.iload 4, 2) := by decide +kernel
theorem dX5_isSecondNode_106 : decode cX5_isSecondNode 106 = .ok (.ifCond .eq 12, 3) := by decide +kernel
theorem dX5_isSecondNode_109 : decode cX5_isSecondNode 109 = .ok (.iload 6, 2) := by decide +kernel
theorem dX5_isSecondNode_111 : decode cX5_isSecondNode 111 = .ok (.ifCond .ne 7, 3) := by decide +kernel
theorem dX5_isSecondNode_114 : decode cX5_isSecondNode 114 = .ok (.iconst 1, 1) := by decide +kernel
theorem dX5_isSecondNode_115 : decode cX5_isSecondNode 115 = .ok (.goto 4, 3) := by decide +kernel
theorem dX5_isSecondNode_118 : decode cX5_isSecondNode 118 = .ok (.iconst 0, 1) := by decide +kernel
theorem dX5_isSecondNode_119 : decode cX5_isSecondNode 119 = .ok (.istore 4, 2) := by decide +kernel
theorem dX5_isSecondNode_121 : decode cX5_isSecondNode 121 = .ok (.iinc 5 3, 3) := by decide +kernel
theorem dX5_isSecondNode_124 : decode cX5_isSecondNode 124 = .ok (.goto (-85), 3) := by decide +kernel
theorem dX5_isSecondNode_127 : decode cX5_isSecondNode 127 = .ok (.iload 4, 2) := by decide +kernel
theorem dX5_isSecondNode_129 : decode cX5_isSecondNode 129 = .ok (.ireturn, 1) := by decide +kernel
set_option maxRecDepth 20000 in
theorem ggX5_isRight_X5_within : GoodIn wsX5_isRight wsX5_within := goodIn_r _ [5] rfl (by decide +kernel)
set_option maxRecDepth 20000 in
theorem gX5_isRight_X5_within : GoodIn wsX5_isRight (va_wsS RX5 56 yX5_within wsX5_within) := goodIn_app (goodIn_of _ (by decide +kernel)) ggX5_isRight_X5_within
set_option maxRecDepth 20000 in
theorem ggX5_isRight_X5_isNodeDigit : GoodIn wsX5_isRight wsX5_isNodeDigit := goodIn_r _ [9, 1, 14, 15, 16, 17, 18, 19, 20, 21, 22, 23, 24, 25, 26, 27, 28, 29, 30, 31, 32, 33, 34, 35, 36] rfl (by decide +kernel)
set_option maxRecDepth 20000 in
theorem gX5_isRight_X5_isNodeDigit : GoodIn wsX5_isRight (wsV RX5 64 RX5 yX5_isNodeDigit wsX5_isNodeDigit) := goodIn_app (goodIn_of _ (by decide +kernel)) ggX5_isRight_X5_isNodeDigit
set_option maxRecDepth 20000 in
theorem ggX5_isRight_X5_isSecondNode : GoodIn wsX5_isRight wsX5_isSecondNode := goodIn_r _ [13, 1, 6, 7, 8, 4, 9, 14, 15, 16, 17, 18, 19, 20, 21, 22, 23, 24, 25, 26, 27, 28, 29, 30, 31, 32, 33, 34, 35, 36] rfl (by decide +kernel)
set_option maxRecDepth 20000 in
theorem gX5_isRight_X5_isSecondNode : GoodIn wsX5_isRight (wsV RX5 68 RX5 yX5_isSecondNode wsX5_isSecondNode) := goodIn_app (goodIn_of _ (by decide +kernel)) ggX5_isRight_X5_isSecondNode
theorem dX5_isRight_0 : decode cX5_isRight 0 = .ok (.aload_n 0, 1) := by decide +kernel
theorem dX5_isRight_1 : decode cX5_isRight 1 = .ok (.getfield 7, 3) := by decide +kernel
theorem dX5_isRight_4 : decode cX5_isRight 4 = .ok (.iload_n 1, 1) := by decide +kernel
theorem dX5_isRight_5 : decode cX5_isRight 5 = .ok (.iaload, 1) := by decide +kernel
theorem dX5_isRight_6 : decode cX5_isRight 6 = .ok (.istore_n 2, 1) := by decide +kernel
theorem dX5_isRight_7 : decode cX5_isRight 7 = .ok (.iload_n 1, 1) := by decide +kernel
theorem dX5_isRight_8 : decode cX5_isRight 8 = .ok (.iconst 2, 1) := by decide +kernel
theorem dX5_isRight_9 : decode cX5_isRight 9 = .ok (.if_icmp .ge 30, 3) := by decide +kernel
theorem dX5_isRight_12 : decode cX5_isRight 12 = .ok (.iload_n 1, 1) := by decide +kernel
theorem dX5_isRight_13 : decode cX5_isRight 13 = .ok (.ifCond .ne 14, 3) := by decide +kernel
theorem dX5_isRight_16 : decode cX5_isRight 16 = .ok (.iload_n 2, 1) := by decide +kernel
theorem dX5_isRight_17 : decode cX5_isRight 17 = .ok (.bipush 50, 2) := by decide +kernel
theorem dX5_isRight_19 : decode cX5_isRight 19 = .ok (.bipush 56, 2) := by decide +kernel
theorem dX5_isRight_21 : decode cX5_isRight 21 = .ok (.invokestatic 56, 3) := by decide +kernel
theorem dX5_isRight_24 : decode cX5_isRight 24 = .ok (.goto 14, 3) := by decide +kernel
theorem dX5_isRight_27 : decode cX5_isRight 27 = .ok (.iload_n 2, 1) := by decide +kernel
theorem dX5_isRight_28 : decode cX5_isRight 28 = .ok (.bipush 58, 2) := by decide +kernel
theorem dX5_isRight_30 : decode cX5_isRight 30 = .ok (.if_icmp .ne 7, 3) := by decide +kernel
theorem dX5_isRight_33 : decode cX5_isRight 33 = .ok (.iconst 1, 1) := by decide +kernel
theorem dX5_isRight_34 : decode cX5_isRight 34 = .ok (.goto 4, 3) := by decide +kernel
theorem dX5_isRight_37 : decode cX5_isRight 37 = .ok (.iconst 0, 1) := by decide +kernel
theorem dX5_isRight_38 : decode cX5_isRight 38 = .ok (.ireturn, 1) := by decide +kernel
theorem dX5_isRight_39 : decode cX5_isRight 39 = .ok (.iload_n 1, 1) := by decide +kernel
theorem dX5_isRight_40 : decode cX5_isRight 40 = .ok (.iconst 3, 1) := by decide +kernel
theorem dX5_isRight_41 : decode cX5_isRight 41 = .ok (.irem, 1) := by decide +kernel
theorem dX5_isRight_42 : decode cX5_isRight 42 = .ok (.lookupswitch 38 #[(0, 32), (2, 26)], 26) := by decide +kernel
theorem dX5_isRight_68 : decode cX5_isRight 68 = .ok (.aload_n 0, 1) := by decide +kernel
theorem dX5_isRight_69 : decode cX5_isRight 69 = .ok (.iload_n 1, 1) := by decide +kernel
theorem dX5_isRight_70 : decode cX5_isRight 70 = .ok (.invokevirtual 64, 3) := by decide +kernel
theorem dX5_isRight_73 : decode cX5_isRight 73 = .ok (.ireturn, 1) := by decide +kernel
theorem dX5_isRight_74 : decode cX5_isRight 74 = .ok (.aload_n 0, 1) := by decide +kernel
theorem dX5_isRight_75 : decode cX5_isRight 75 = .ok (.iload_n 1, 1) := by decide +kernel
theorem dX5_isRight_76 : decode cX5_isRight 76 = .ok (.invokevirtual 68, 3) := by decide +kernel
theorem dX5_isRight_79 : decode cX5_isRight 79 = .ok (.ireturn, 1) := by decide +kernel
theorem dX5_isRight_80 : decode cX5_isRight 80 = .ok (.iload_n 2, 1) := by decide +kernel
theorem dX5_isRight_81 : decode cX5_isRight 81 = .ok (.bipush 44, 2) := by decide +kernel
theorem dX5_isRight_83 : decode cX5_isRight 83 = .ok (.if_icmp .ne 17, 3) := by decide +kernel
theorem dX5_isRight_86 : decode cX5_isRight 86 = .ok (.iload_n 1, 1) := by decide +kernel
theorem dX5_isRight_87 : decode cX5_isRight 87 = .ok (.iconst 1, 1) := by decide +kernel
theorem dX5_isRight_88 : decode cX5_isRight 88 = .ok (.isub, 1) := by decide +kernel
theorem dX5_isRight_89 : decode cX5_isRight 89 = .ok (.iconst 3, 1) := by decide +kernel
theorem dX5_isRight_90 : decode cX5_isRight 90 = .ok (.idiv, 1) := by decide +kernel
theorem dX5_isRight_91 : decode cX5_isRight 91 = .ok (.bipush 12, 2) := by decide +kernel
theorem dX5_isRight_93 : decode cX5_isRight 93 = .ok (.if_icmp .ge 7, 3) := by decide +kernel
theorem dX5_isRight_96 : decode cX5_isRight 96 = .ok (.iconst 1, 1) := by decide +kernel
theorem dX5_isRight_97 : decode cX5_isRight 97 = .ok (.goto 4, 3) := by decide +kernel
theorem dX5_isRight_100 : decode cX5_isRight 100 = .ok (.iconst 0, 1) := by decide +kernel
theorem dX5_isRight_101 : decode cX5_isRight 101 = .ok (.ireturn, 1) := by decide +kernel
set_option maxRecDepth 20000 in
theorem ggX5_rightLength_X5_isRight : GoodIn wsX5_rightLength wsX5_isRight := goodIn_r _ [6, 7, 8, 9, 5, 10, 11, 12, 13, 14, 15, 16, 17, 18, 19, 20, 21, 22, 23, 24, 25, 26, 27, 28, 29, 30, 31, 32, 33, 34, 35, 36, 37, 38, 39, 40, 41] rfl (by decide +kernel)
set_option maxRecDepth 20000 in
theorem gX5_rightLength_X5_isRight : GoodIn wsX5_rightLength (wsV RX5 71 RX5 yX5_isRight wsX5_isRight) := goodIn_app (goodIn_of _ (by decide +kernel)) ggX5_rightLength_X5_isRight
theorem dX5_rightLength_0 : decode cX5_rightLength 0 = .ok (.iconst 0, 1) := by decide +kernel
theorem dX5_rightLength_1 : decode cX5_rightLength 1 = .ok (.istore_n 1, 1) := by decide +kernel
theorem dX5_rightLength_2 : decode cX5_rightLength 2 = .ok (.iload_n 1, 1) := by decide +kernel
theorem dX5_rightLength_3 : decode cX5_rightLength 3 = .ok (.aload_n 0, 1) := by decide +kernel
theorem dX5_rightLength_4 : decode cX5_rightLength 4 = .ok (.getfield 60, 3) := by decide +kernel
theorem dX5_rightLength_7 : decode cX5_rightLength 7 = .ok (.if_icmp .ge 17, 3) := by decide +kernel
theorem dX5_rightLength_10 : decode cX5_rightLength 10 = .ok (.aload_n 0, 1) := by decide +kernel
theorem dX5_rightLength_11 : decode cX5_rightLength 11 = .ok (.iload_n 1, 1) := by decide +kernel
theorem dX5_rightLength_12 : decode cX5_rightLength 12 = .ok (.invokevirtual 71, 3) := by decide +kernel
theorem dX5_rightLength_15 : decode cX5_rightLength 15 = .ok (.ifCond .eq 9, 3) := by decide +kernel
theorem dX5_rightLength_18 : decode cX5_rightLength 18 = .ok (.iinc 1 1, 3) := by decide +kernel
theorem dX5_rightLength_21 : decode cX5_rightLength 21 = .ok (.goto (-19), 3) := by decide +kernel
theorem dX5_rightLength_24 : decode cX5_rightLength 24 = .ok (.iload_n 1, 1) := by decide +kernel
theorem dX5_rightLength_25 : decode cX5_rightLength 25 = .ok (.ireturn, 1) := by decide +kernel
set_option maxRecDepth 20000 in
theorem ggX5_firstError_X5_rightLength : GoodIn wsX5_firstError wsX5_rightLength := goodIn_r _ [5, 6, 7, 8, 9, 4, 10, 11, 12, 13, 14, 15, 16, 17, 18, 19, 20, 21, 22, 23, 24, 25, 26, 27, 28, 29, 30, 31, 32, 33, 34, 35, 36, 37, 38, 39, 40, 41, 42, 43, 44, 45] rfl (by decide +kernel)
set_option maxRecDepth 20000 in
theorem gX5_firstError_X5_rightLength : GoodIn wsX5_firstError (wsV RX5 74 RX5 yX5_rightLength wsX5_rightLength) := goodIn_app (goodIn_of _ (by decide +kernel)) ggX5_firstError_X5_rightLength
theorem dX5_firstError_0 : decode cX5_firstError 0 = .ok (.aload_n 0, 1) := by decide +kernel
theorem dX5_firstError_1 : decode cX5_firstError 1 = .ok (.invokevirtual 74, 3) := by decide +kernel
theorem dX5_firstError_4 : decode cX5_firstError 4 = .ok (.ireturn, 1) := by decide +kernel
theorem dX5_isConnected_0 : decode cX5_isConnected 0 = .ok (.iconst 1, 1) := by decide +kernel
theorem dX5_isConnected_1 : decode cX5_isConnected 1 = .ok (.istore_n 1, 1) := by decide +kernel
theorem dX5_isConnected_2 : decode cX5_isConnected 2 = .ok (.iconst 0, 1) := by decide +kernel
theorem dX5_isConnected_3 : decode cX5_isConnected 3 = .ok (.istore_n 2, 1) := by decide +kernel
theorem dX5_isConnected_4 : decode cX5_isConnected 4 = .ok (.iload_n 2, 1) := by decide +kernel
theorem dX5_isConnected_5 : decode cX5_isConnected 5 = .ok (.bipush 8, 2) := by decide +kernel
theorem dX5_isConnected_7 : decode cX5_isConnected 7 = .ok (.if_icmp .ge 68, 3) := by decide +kernel
theorem dX5_isConnected_10 : decode cX5_isConnected 10 = .ok (.iconst 2, 1) := by decide +kernel
theorem dX5_isConnected_11 : decode cX5_isConnected 11 = .ok (.istore_n 3, 1) := by decide +kernel
theorem dX5_isConnected_12 : decode cX5_isConnected 12 = .ok (.iload_n 3, 1) := by decide +kernel
theorem dX5_isConnected_13 : decode cX5_isConnected 13 = .ok (.aload_n 0, 1) := by decide +kernel
theorem dX5_isConnected_14 : decode cX5_isConnected 14 = .ok (.getfield 60, 3) := by decide +kernel
theorem dX5_isConnected_17 : decode cX5_isConnected 17 = .ok (.if_icmp .ge 52, 3) := by decide +kernel
theorem dX5_isConnected_20 : decode cX5_isConnected 20 = .ok (.iconst 1, 1) := by decide +kernel
theorem dX5_isConnected_21 : decode cX5_isConnected 21 = .ok (.aload_n 0, 1) := by decide +kernel
theorem dX5_isConnected_22 : decode cX5_isConnected 22 = .ok (.getfield 7, 3) := by decide +kernel
theorem dX5_isConnected_25 : decode cX5_isConnected 25 = .ok (.iload_n 3, 1) := by decide +kernel
theorem dX5_isConnected_26 : decode cX5_isConnected 26 = .ok (.iaload, 1) := by decide +kernel
theorem dX5_isConnected_27 : decode cX5_isConnected 27 = .ok (.bipush 48, 2) := by decide +kernel
theorem dX5_isConnected_29 : decode cX5_isConnected 29 = .ok (.isub, 1) := by decide +kernel
theorem dX5_isConnected_30 : decode cX5_isConnected 30 = .ok (.ishl, 1) := by decide +kernel
theorem dX5_isConnected_31 : decode cX5_isConnected 31 = .ok (.iconst 1, 1) := by decide +kernel
theorem dX5_isConnected_32 : decode cX5_isConnected 32 = .ok (.aload_n 0, 1) := by decide +kernel
theorem dX5_isConnected_33 : decode cX5_isConnected 33 = .ok (.getfield 7, 3) := by decide +kernel
theorem dX5_isConnected_36 : decode cX5_isConnected 36 = .ok (.iload_n 3, 1) := by decide +kernel
theorem dX5_isConnected_37 : decode cX5_isConnected 37 = .ok (.iconst 1, 1) := by decide +kernel
theorem dX5_isConnected_38 : decode cX5_isConnected 38 = .ok (.iadd, 1) := by decide +kernel
theorem dX5_isConnected_39 : decode cX5_isConnected 39 = .ok (.iaload, 1) := by decide +kernel
theorem dX5_isConnected_40 : decode cX5_isConnected 40 = .ok (.bipush 48, 2) := by decide +kernel
theorem dX5_isConnected_42 : decode cX5_isConnected 42 = .ok (.isub, 1) := by decide +kernel
theorem dX5_isConnected_43 : decode cX5_isConnected 43 = .ok (.ishl, 1) := by decide +kernel
theorem dX5_isConnected_44 : decode cX5_isConnected 44 = .ok (.ior, 1) := by decide +kernel
theorem dX5_isConnected_45 : decode cX5_isConnected 45 = .ok (.istore 4, 2) := by decide +kernel
theorem dX5_isConnected_47 : decode cX5_isConnected 47 = .ok (.iload_n 1, 1) := by decide +kernel
theorem dX5_isConnected_48 : decode cX5_isConnected 48 = .ok (.iload_n 1, 1) := by decide +kernel
theorem dX5_isConnected_49 : decode cX5_isConnected 49 = .ok (.iload 4, 2) := by decide +kernel
theorem dX5_isConnected_51 : decode cX5_isConnected 51 = .ok (.iand, 1) := by decide +kernel
theorem dX5_isConnected_52 : decode cX5_isConnected 52 = .ok (.ifCond .eq 8, 3) := by decide +kernel
theorem dX5_isConnected_55 : decode cX5_isConnected 55 = .ok (.iload 4, 2) := by decide +kernel
theorem dX5_isConnected_57 : decode cX5_isConnected 57 = .ok (.goto 4, 3) := by decide +kernel
theorem dX5_isConnected_60 : decode cX5_isConnected 60 = .ok (.iconst 0, 1) := by decide +kernel
theorem dX5_isConnected_61 : decode cX5_isConnected 61 = .ok (.ior, 1) := by decide +kernel
theorem dX5_isConnected_62 : decode cX5_isConnected 62 = .ok (.istore_n 1, 1) := by decide +kernel
theorem dX5_isConnected_63 : decode cX5_isConnected 63 = .ok (.iinc 3 3, 3) := by decide +kernel
theorem dX5_isConnected_66 : decode cX5_isConnected 66 = .ok (.goto (-54), 3) := by decide +kernel
theorem dX5_isConnected_69 : decode cX5_isConnected 69 = .ok (.iinc 2 1, 3) := by decide +kernel
theorem dX5_isConnected_72 : decode cX5_isConnected 72 = .ok (.goto (-68), 3) := by decide +kernel
theorem dX5_isConnected_75 : decode cX5_isConnected 75 = .ok (.iload_n 1, 1) := by decide +kernel
theorem dX5_isConnected_76 : decode cX5_isConnected 76 = .ok (.iconst 1, 1) := by decide +kernel
theorem dX5_isConnected_77 : decode cX5_isConnected 77 = .ok (.aload_n 0, 1) := by decide +kernel
theorem dX5_isConnected_78 : decode cX5_isConnected 78 = .ok (.getfield 7, 3) := by decide +kernel
theorem dX5_isConnected_81 : decode cX5_isConnected 81 = .ok (.iconst 0, 1) := by decide +kernel
theorem dX5_isConnected_82 : decode cX5_isConnected 82 = .ok (.iaload, 1) := by decide +kernel
theorem dX5_isConnected_83 : decode cX5_isConnected 83 = .ok (.bipush 48, 2) := by decide +kernel
theorem dX5_isConnected_85 : decode cX5_isConnected 85 = .ok (.isub, 1) := by decide +kernel
theorem dX5_isConnected_86 : decode cX5_isConnected 86 = .ok (.ishl, 1) := by decide +kernel
theorem dX5_isConnected_87 : decode cX5_isConnected 87 = .ok (.iconst 1, 1) := by decide +kernel
theorem dX5_isConnected_88 : decode cX5_isConnected 88 = .ok (.isub, 1) := by decide +kernel
theorem dX5_isConnected_89 : decode cX5_isConnected 89 = .ok (.if_icmp .ne 7, 3) := by decide +kernel
theorem dX5_isConnected_92 : decode cX5_isConnected 92 = .ok (.iconst 1, 1) := by decide +kernel
theorem dX5_isConnected_93 : decode cX5_isConnected 93 = .ok (.goto 4, 3) := by decide +kernel
theorem dX5_isConnected_96 : decode cX5_isConnected 96 = .ok (.iconst 0, 1) := by decide +kernel
theorem dX5_isConnected_97 : decode cX5_isConnected 97 = .ok (.ireturn, 1) := by decide +kernel
theorem dX5_join_0 : decode cX5_join 0 = .ok (.aload_n 0, 1) := by decide +kernel
theorem dX5_join_1 : decode cX5_join 1 = .ok (.getfield 13, 3) := by decide +kernel
theorem dX5_join_4 : decode cX5_join 4 = .ok (.bipush 8, 2) := by decide +kernel
theorem dX5_join_6 : decode cX5_join 6 = .ok (.iload_n 1, 1) := by decide +kernel
theorem dX5_join_7 : decode cX5_join 7 = .ok (.imul, 1) := by decide +kernel
theorem dX5_join_8 : decode cX5_join 8 = .ok (.aload_n 0, 1) := by decide +kernel
theorem dX5_join_9 : decode cX5_join 9 = .ok (.getfield 16, 3) := by decide +kernel
theorem dX5_join_12 : decode cX5_join 12 = .ok (.iload_n 1, 1) := by decide +kernel
theorem dX5_join_13 : decode cX5_join 13 = .ok (.iaload, 1) := by decide +kernel
theorem dX5_join_14 : decode cX5_join 14 = .ok (.iadd, 1) := by decide +kernel
theorem dX5_join_15 : decode cX5_join 15 = .ok (.iload_n 2, 1) := by decide +kernel
theorem dX5_join_16 : decode cX5_join 16 = .ok (.iastore, 1) := by decide +kernel
theorem dX5_join_17 : decode cX5_join 17 = .ok (.aload_n 0, 1) := by decide +kernel
theorem dX5_join_18 : decode cX5_join 18 = .ok (.getfield 16, 3) := by decide +kernel
theorem dX5_join_21 : decode cX5_join 21 = .ok (.iload_n 1, 1) := by decide +kernel
theorem dX5_join_22 : decode cX5_join 22 = .ok (.dup2, 1) := by decide +kernel
theorem dX5_join_23 : decode cX5_join 23 = .ok (.iaload, 1) := by decide +kernel
theorem dX5_join_24 : decode cX5_join 24 = .ok (.iconst 1, 1) := by decide +kernel
theorem dX5_join_25 : decode cX5_join 25 = .ok (.iadd, 1) := by decide +kernel
theorem dX5_join_26 : decode cX5_join 26 = .ok (.iastore, 1) := by decide +kernel
theorem dX5_join_27 : decode cX5_join 27 = .ok (.return_, 1) := by decide +kernel
set_option maxRecDepth 20000 in
theorem ggX5_load_X5_rightLength : GoodIn wsX5_load wsX5_rightLength := goodIn_r _ [15, 1, 16, 17, 18, 14, 19, 2, 20, 21, 22, 23, 24, 25, 26, 27, 28, 29, 30, 40, 41, 42, 43, 44, 45, 46, 47, 48, 49, 50, 51, 52, 53, 54, 55, 56, 57, 58, 59, 60, 61, 62] rfl (by decide +kernel)
set_option maxRecDepth 20000 in
theorem gX5_load_X5_rightLength : GoodIn wsX5_load (wsV RX5 74 RX5 yX5_rightLength wsX5_rightLength) := goodIn_app (goodIn_of _ (by decide +kernel)) ggX5_load_X5_rightLength
set_option maxRecDepth 20000 in
theorem ggX5_load_X5_isConnected : GoodIn wsX5_load wsX5_isConnected := goodIn_r _ [34, 1, 2, 40, 41, 42, 43, 44, 45, 46, 47, 48, 49, 50, 51, 52, 53, 54, 55, 56, 57, 58, 59, 60, 61, 62] rfl (by decide +kernel)
set_option maxRecDepth 20000 in
theorem gX5_load_X5_isConnected : GoodIn wsX5_load (wsV RX5 78 RX5 yX5_isConnected wsX5_isConnected) := goodIn_app (goodIn_of _ (by decide +kernel)) ggX5_load_X5_isConnected
set_option maxRecDepth 20000 in
theorem ggX5_load_X5_join : GoodIn wsX5_load wsX5_join := goodIn_r _ [38, 39, 6, 40, 41, 42, 43, 44, 45, 46, 47, 48, 49, 50, 51, 52, 53, 54, 55, 56, 57, 58, 59, 60, 61, 62] rfl (by decide +kernel)
set_option maxRecDepth 20000 in
theorem gX5_load_X5_join : GoodIn wsX5_load (wsV RX5 88 RX5 yX5_join wsX5_join) := goodIn_app (goodIn_of _ (by decide +kernel)) ggX5_load_X5_join
theorem dX5_load_0 : decode cX5_load 0 = .ok (.aload_n 0, 1) := by decide +kernel
theorem dX5_load_1 : decode cX5_load 1 = .ok (.getfield 60, 3) := by decide +kernel
theorem dX5_load_4 : decode cX5_load 4 = .ok (.iconst 4, 1) := by decide +kernel
theorem dX5_load_5 : decode cX5_load 5 = .ok (.if_icmp .lt 31, 3) := by decide +kernel
theorem dX5_load_8 : decode cX5_load 8 = .ok (.aload_n 0, 1) := by decide +kernel
theorem dX5_load_9 : decode cX5_load 9 = .ok (.getfield 60, 3) := by decide +kernel
theorem dX5_load_12 : decode cX5_load 12 = .ok (.iconst 3, 1) := by decide +kernel
theorem dX5_load_13 : decode cX5_load 13 = .ok (.irem, 1) := by decide +kernel
theorem dX5_load_14 : decode cX5_load 14 = .ok (.iconst 1, 1) := by decide +kernel
theorem dX5_load_15 : decode cX5_load 15 = .ok (.if_icmp .ne 21, 3) := by decide +kernel
theorem dX5_load_18 : decode cX5_load 18 = .ok (.aload_n 0, 1) := by decide +kernel
theorem dX5_load_19 : decode cX5_load 19 = .ok (.invokevirtual 74, 3) := by decide +kernel
theorem dX5_load_22 : decode cX5_load 22 = .ok (.aload_n 0, 1) := by decide +kernel
theorem dX5_load_23 : decode cX5_load 23 = .ok (.getfield 60, 3) := by decide +kernel
theorem dX5_load_26 : decode cX5_load 26 = .ok (.if_icmp .lt 10, 3) := by decide +kernel
theorem dX5_load_29 : decode cX5_load 29 = .ok (.aload_n 0, 1) := by decide +kernel
theorem dX5_load_30 : decode cX5_load 30 = .ok (.invokevirtual 78, 3) := by decide +kernel
theorem dX5_load_33 : decode cX5_load 33 = .ok (.ifCond .ne 6, 3) := by decide +kernel
theorem dX5_load_36 : decode cX5_load 36 = .ok (.bipush (-3), 2) := by decide +kernel
theorem dX5_load_38 : decode cX5_load 38 = .ok (.ireturn, 1) := by decide +kernel
theorem dX5_load_39 : decode cX5_load 39 = .ok (.aload_n 0, 1) := by decide +kernel
theorem dX5_load_40 : decode cX5_load 40 = .ok (.aload_n 0, 1) := by decide +kernel
theorem dX5_load_41 : decode cX5_load 41 = .ok (.getfield 7, 3) := by decide +kernel
theorem dX5_load_44 : decode cX5_load 44 = .ok (.iconst 0, 1) := by decide +kernel
theorem dX5_load_45 : decode cX5_load 45 = .ok (.iaload, 1) := by decide +kernel
theorem dX5_load_46 : decode cX5_load 46 = .ok (.bipush 48, 2) := by decide +kernel
theorem dX5_load_48 : decode cX5_load 48 = .ok (.isub, 1) := by decide +kernel
theorem dX5_load_49 : decode cX5_load 49 = .ok (.putfield 82, 3) := by decide +kernel
theorem dX5_load_52 : decode cX5_load 52 = .ok (.aload_n 0, 1) := by decide +kernel
theorem dX5_load_53 : decode cX5_load 53 = .ok (.aload_n 0, 1) := by decide +kernel
theorem dX5_load_54 : decode cX5_load 54 = .ok (.getfield 60, 3) := by decide +kernel
theorem dX5_load_57 : decode cX5_load 57 = .ok (.iconst 1, 1) := by decide +kernel
theorem dX5_load_58 : decode cX5_load 58 = .ok (.isub, 1) := by decide +kernel
theorem dX5_load_59 : decode cX5_load 59 = .ok (.iconst 3, 1) := by decide +kernel
theorem dX5_load_60 : decode cX5_load 60 = .ok (.idiv, 1) := by decide +kernel
theorem dX5_load_61 : decode cX5_load 61 = .ok (.putfield 85, 3) := by decide +kernel
theorem dX5_load_64 : decode cX5_load 64 = .ok (.iconst 0, 1) := by decide +kernel
theorem dX5_load_65 : decode cX5_load 65 = .ok (.istore_n 1, 1) := by decide +kernel
theorem dX5_load_66 : decode cX5_load 66 = .ok (.iload_n 1, 1) := by decide +kernel
theorem dX5_load_67 : decode cX5_load 67 = .ok (.bipush 64, 2) := by decide +kernel
theorem dX5_load_69 : decode cX5_load 69 = .ok (.if_icmp .ge 46, 3) := by decide +kernel
theorem dX5_load_72 : decode cX5_load 72 = .ok (.aload_n 0, 1) := by decide +kernel
theorem dX5_load_73 : decode cX5_load 73 = .ok (.getfield 28, 3) := by decide +kernel
theorem dX5_load_76 : decode cX5_load 76 = .ok (.iload_n 1, 1) := by decide +kernel
theorem dX5_load_77 : decode cX5_load 77 = .ok (.iconst 0, 1) := by decide +kernel
theorem dX5_load_78 : decode cX5_load 78 = .ok (.iastore, 1) := by decide +kernel
theorem dX5_load_79 : decode cX5_load 79 = .ok (.aload_n 0, 1) := by decide +kernel
theorem dX5_load_80 : decode cX5_load 80 = .ok (.getfield 16, 3) := by decide +kernel
theorem dX5_load_83 : decode cX5_load 83 = .ok (.iload_n 1, 1) := by decide +kernel
theorem dX5_load_84 : decode cX5_load 84 = .ok (.bipush 8, 2) := by decide +kernel
theorem dX5_load_86 : decode cX5_load 86 = .ok (.irem, 1) := by decide +kernel
theorem dX5_load_87 : decode cX5_load 87 = .ok (.iconst 0, 1) := by decide +kernel
theorem dX5_load_88 : decode cX5_load 88 = .ok (.iastore, 1) := by decide +kernel
theorem dX5_load_89 : decode cX5_load 89 = .ok (.aload_n 0, 1) := by decide +kernel
theorem dX5_load_90 : decode cX5_load 90 = .ok (.getfield 19, 3) := by decide +kernel
theorem dX5_load_93 : decode cX5_load 93 = .ok (.iload_n 1, 1) := by decide +kernel
theorem dX5_load_94 : decode cX5_load 94 = .ok (.bipush 8, 2) := by decide +kernel
theorem dX5_load_96 : decode cX5_load 96 = .ok (.irem, 1) := by decide +kernel
theorem dX5_load_97 : decode cX5_load 97 = .ok (.iconst 0, 1) := by decide +kernel
theorem dX5_load_98 : decode cX5_load 98 = .ok (.iastore, 1) := by decide +kernel
theorem dX5_load_99 : decode cX5_load 99 = .ok (.aload_n 0, 1) := by decide +kernel
theorem dX5_load_100 : decode cX5_load 100 = .ok (.getfield 25, 3) := by decide +kernel
theorem dX5_load_103 : decode cX5_load 103 = .ok (.iload_n 1, 1) := by decide +kernel
theorem dX5_load_104 : decode cX5_load 104 = .ok (.bipush 8, 2) := by decide +kernel
theorem dX5_load_106 : decode cX5_load 106 = .ok (.irem, 1) := by decide +kernel
theorem dX5_load_107 : decode cX5_load 107 = .ok (.iconst 0, 1) := by decide +kernel
theorem dX5_load_108 : decode cX5_load 108 = .ok (.iastore, 1) := by decide +kernel
theorem dX5_load_109 : decode cX5_load 109 = .ok (.iinc 1 1, 3) := by decide +kernel
theorem dX5_load_112 : decode cX5_load 112 = .ok (.goto (-46), 3) := by decide +kernel
theorem dX5_load_115 : decode cX5_load 115 = .ok (.iconst 2, 1) := by decide +kernel
theorem dX5_load_116 : decode cX5_load 116 = .ok (.istore_n 1, 1) := by decide +kernel
theorem dX5_load_117 : decode cX5_load 117 = .ok (.iload_n 1, 1) := by decide +kernel
theorem dX5_load_118 : decode cX5_load 118 = .ok (.aload_n 0, 1) := by decide +kernel
theorem dX5_load_119 : decode cX5_load 119 = .ok (.getfield 60, 3) := by decide +kernel
theorem dX5_load_122 : decode cX5_load 122 = .ok (.if_icmp .ge 57, 3) := by decide +kernel
theorem dX5_load_125 : decode cX5_load 125 = .ok (.aload_n 0, 1) := by decide +kernel
theorem dX5_load_126 : decode cX5_load 126 = .ok (.aload_n 0, 1) := by decide +kernel
theorem dX5_load_127 : decode cX5_load 127 = .ok (.getfield 7, 3) := by decide +kernel
theorem dX5_load_130 : decode cX5_load 130 = .ok (.iload_n 1, 1) := by decide +kernel
theorem dX5_load_131 : decode cX5_load 131 = .ok (.iaload, 1) := by decide +kernel
theorem dX5_load_132 : decode cX5_load 132 = .ok (.bipush 48, 2) := by decide +kernel
theorem dX5_load_134 : decode cX5_load 134 = .ok (.isub, 1) := by decide +kernel
theorem dX5_load_135 : decode cX5_load 135 = .ok (.aload_n 0, 1) := by decide +kernel
theorem dX5_load_136 : decode cX5_load 136 = .ok (.getfield 7, 3) := by decide +kernel
theorem dX5_load_139 : decode cX5_load 139 = .ok (.iload_n 1, 1) := by decide +kernel
theorem dX5_load_140 : decode cX5_load 140 = .ok (.iconst 1, 1) := by decide +kernel
theorem dX5_load_141 : decode cX5_load 141 = .ok (.iadd, 1) := by decide +kernel
theorem dX5_load_142 : decode cX5_load 142 = .ok (.iaload, 1) := by decide +kernel
theorem dX5_load_143 : decode cX5_load 143 = .ok (.bipush 48, 2) := by decide +kernel
theorem dX5_load_145 : decode cX5_load 145 = .ok (.isub, 1) := by decide +kernel
theorem dX5_load_146 : decode cX5_load 146 = .ok (.invokevirtual 88, 3) := by decide +kernel
theorem dX5_load_149 : decode cX5_load 149 = .ok (.aload_n 0, 1) := by decide +kernel
theorem dX5_load_150 : decode cX5_load 150 = .ok (.aload_n 0, 1) := by decide +kernel
theorem dX5_load_151 : decode cX5_load 151 = .ok (.getfield 7, 3) := by decide +kernel
theorem dX5_load_154 : decode cX5_load 154 = .ok (.iload_n 1, 1) := by decide +kernel
theorem dX5_load_155 : decode cX5_load 155 = .ok (.iconst 1, 1) := by decide +kernel
theorem dX5_load_156 : decode cX5_load 156 = .ok (.iadd, 1) := by decide +kernel
theorem dX5_load_157 : decode cX5_load 157 = .ok (.iaload, 1) := by decide +kernel
theorem dX5_load_158 : decode cX5_load 158 = .ok (.bipush 48, 2) := by decide +kernel
theorem dX5_load_160 : decode cX5_load 160 = .ok (.isub, 1) := by decide +kernel
theorem dX5_load_161 : decode cX5_load 161 = .ok (.aload_n 0, 1) := by decide +kernel
theorem dX5_load_162 : decode cX5_load 162 = .ok (.getfield 7, 3) := by decide +kernel
theorem dX5_load_165 : decode cX5_load 165 = .ok (.iload_n 1, 1) := by decide +kernel
theorem dX5_load_166 : decode cX5_load 166 = .ok (.iaload, 1) := by decide +kernel
theorem dX5_load_167 : decode cX5_load 167 = .ok (.bipush 48, 2) := by decide +kernel
theorem dX5_load_169 : decode cX5_load 169 = .ok (.isub, 1) := by decide +kernel
theorem dX5_load_170 : decode cX5_load 170 = .ok (.invokevirtual 88, 3) := by decide +kernel
theorem dX5_load_173 : decode cX5_load 173 = .ok (.iinc 1 3, 3) := by decide +kernel
theorem dX5_load_176 : decode cX5_load 176 = .ok (.goto (-59), 3) := by decide +kernel
theorem dX5_load_179 : decode cX5_load 179 = .ok (.aload_n 0, 1) := by decide +kernel
theorem dX5_load_180 : decode cX5_load 180 = .ok (.iconst 0, 1) := by decide +kernel
theorem dX5_load_181 : decode cX5_load 181 = .ok (.putfield 92, 3) := by decide +kernel
theorem dX5_load_184 : decode cX5_load 184 = .ok (.aload_n 0, 1) := by decide +kernel
theorem dX5_load_185 : decode cX5_load 185 = .ok (.iconst 0, 1) := by decide +kernel
theorem dX5_load_186 : decode cX5_load 186 = .ok (.putfield 95, 3) := by decide +kernel
theorem dX5_load_189 : decode cX5_load 189 = .ok (.aload_n 0, 1) := by decide +kernel
theorem dX5_load_190 : decode cX5_load 190 = .ok (.iconst 0, 1) := by decide +kernel
theorem dX5_load_191 : decode cX5_load 191 = .ok (.putfield 60, 3) := by decide +kernel
theorem dX5_load_194 : decode cX5_load 194 = .ok (.aload_n 0, 1) := by decide +kernel
theorem dX5_load_195 : decode cX5_load 195 = .ok (.getfield 82, 3) := by decide +kernel
theorem dX5_load_198 : decode cX5_load 198 = .ok (.ireturn, 1) := by decide +kernel
set_option maxRecDepth 20000 in
theorem ggX5_isNode_X5_within : GoodIn wsX5_isNode wsX5_within := goodIn_r _ [5] rfl (by decide +kernel)
set_option maxRecDepth 20000 in
theorem gX5_isNode_X5_within : GoodIn wsX5_isNode (va_wsS RX5 56 yX5_within wsX5_within) := goodIn_app (goodIn_of _ (by decide +kernel)) ggX5_isNode_X5_within
theorem dX5_isNode_0 : decode cX5_isNode 0 = .ok (.iload_n 1, 1) := by decide +kernel
theorem dX5_isNode_1 : decode cX5_isNode 1 = .ok (.iconst 0, 1) := by decide +kernel
theorem dX5_isNode_2 : decode cX5_isNode 2 = .ok (.aload_n 0, 1) := by decide +kernel
theorem dX5_isNode_3 : decode cX5_isNode 3 = .ok (.getfield 82, 3) := by decide +kernel
theorem dX5_isNode_6 : decode cX5_isNode 6 = .ok (.iconst 1, 1) := by decide +kernel
theorem dX5_isNode_7 : decode cX5_isNode 7 = .ok (.isub, 1) := by decide +kernel
theorem dX5_isNode_8 : decode cX5_isNode 8 = .ok (.invokestatic 56, 3) := by decide +kernel
theorem dX5_isNode_11 : decode cX5_isNode 11 = .ok (.ireturn, 1) := by decide +kernel
set_option maxRecDepth 20000 in
theorem ggX5_degree_X5_isNode : GoodIn wsX5_degree wsX5_isNode := goodIn_r _ [6, 7, 8, 9, 5, 10, 11, 12, 13, 14, 15, 16, 17, 18, 19, 20, 21, 22, 23, 24, 25, 26, 27, 28, 29, 30, 31, 32, 33] rfl (by decide +kernel)
set_option maxRecDepth 20000 in
theorem gX5_degree_X5_isNode : GoodIn wsX5_degree (wsV RX5 99 RX5 yX5_isNode wsX5_isNode) := goodIn_app (goodIn_of _ (by decide +kernel)) ggX5_degree_X5_isNode
theorem dX5_degree_0 : decode cX5_degree 0 = .ok (.aload_n 0, 1) := by decide +kernel
theorem dX5_degree_1 : decode cX5_degree 1 = .ok (.iload_n 1, 1) := by decide +kernel
theorem dX5_degree_2 : decode cX5_degree 2 = .ok (.invokevirtual 99, 3) := by decide +kernel
theorem dX5_degree_5 : decode cX5_degree 5 = .ok (.ifCond .eq 12, 3) := by decide +kernel
theorem dX5_degree_8 : decode cX5_degree 8 = .ok (.aload_n 0, 1) := by decide +kernel
theorem dX5_degree_9 : decode cX5_degree 9 = .ok (.getfield 16, 3) := by decide +kernel
theorem dX5_degree_12 : decode cX5_degree 12 = .ok (.iload_n 1, 1) := by decide +kernel
theorem dX5_degree_13 : decode cX5_degree 13 = .ok (.iaload, 1) := by decide +kernel
theorem dX5_degree_14 : decode cX5_degree 14 = .ok (.goto 5, 3) := by decide +kernel
theorem dX5_degree_17 : decode cX5_degree 17 = .ok (.bipush (-4), 2) := by decide +kernel
theorem dX5_degree_19 : decode cX5_degree 19 = .ok (.ireturn, 1) := by decide +kernel
set_option maxRecDepth 20000 in
theorem ggX5_errorOf_X5_isNode : GoodIn wsX5_errorOf wsX5_isNode := goodIn_r _ [6, 7, 8, 9, 5, 10, 11, 12, 13, 14, 15, 16, 17, 18, 19, 20, 21, 22, 23, 24, 25, 26, 27, 28, 29, 30, 31, 32, 33] rfl (by decide +kernel)
set_option maxRecDepth 20000 in
theorem gX5_errorOf_X5_isNode : GoodIn wsX5_errorOf (wsV RX5 99 RX5 yX5_isNode wsX5_isNode) := goodIn_app (goodIn_of _ (by decide +kernel)) ggX5_errorOf_X5_isNode
set_option maxRecDepth 20000 in
theorem ggX5_errorOf_X5_within : GoodIn wsX5_errorOf wsX5_within := goodIn_r _ [10] rfl (by decide +kernel)
set_option maxRecDepth 20000 in
theorem gX5_errorOf_X5_within : GoodIn wsX5_errorOf (va_wsS RX5 56 yX5_within wsX5_within) := goodIn_app (goodIn_of _ (by decide +kernel)) ggX5_errorOf_X5_within
theorem dX5_errorOf_0 : decode cX5_errorOf 0 = .ok (.aload_n 0, 1) := by decide +kernel
theorem dX5_errorOf_1 : decode cX5_errorOf 1 = .ok (.iload_n 1, 1) := by decide +kernel
theorem dX5_errorOf_2 : decode cX5_errorOf 2 = .ok (.invokevirtual 99, 3) := by decide +kernel
theorem dX5_errorOf_5 : decode cX5_errorOf 5 = .ok (.ifCond .ne 8, 3) := by decide +kernel
theorem dX5_errorOf_8 : decode cX5_errorOf 8 = .ok (.bipush (-4), 2) := by decide +kernel
theorem dX5_errorOf_10 : decode cX5_errorOf 10 = .ok (.goto 25, 3) := by decide +kernel
theorem dX5_errorOf_13 : decode cX5_errorOf 13 = .ok (.iload_n 2, 1) := by decide +kernel
theorem dX5_errorOf_14 : decode cX5_errorOf 14 = .ok (.iconst 0, 1) := by decide +kernel
theorem dX5_errorOf_15 : decode cX5_errorOf 15 = .ok (.aload_n 0, 1) := by decide +kernel
theorem dX5_errorOf_16 : decode cX5_errorOf 16 = .ok (.getfield 16, 3) := by decide +kernel
theorem dX5_errorOf_19 : decode cX5_errorOf 19 = .ok (.iload_n 1, 1) := by decide +kernel
theorem dX5_errorOf_20 : decode cX5_errorOf 20 = .ok (.iaload, 1) := by decide +kernel
theorem dX5_errorOf_21 : decode cX5_errorOf 21 = .ok (.iconst 1, 1) := by decide +kernel
theorem dX5_errorOf_22 : decode cX5_errorOf 22 = .ok (.isub, 1) := by decide +kernel
theorem dX5_errorOf_23 : decode cX5_errorOf 23 = .ok (.invokestatic 56, 3) := by decide +kernel
theorem dX5_errorOf_26 : decode cX5_errorOf 26 = .ok (.ifCond .ne 8, 3) := by decide +kernel
theorem dX5_errorOf_29 : decode cX5_errorOf 29 = .ok (.bipush (-6), 2) := by decide +kernel
theorem dX5_errorOf_31 : decode cX5_errorOf 31 = .ok (.goto 4, 3) := by decide +kernel
theorem dX5_errorOf_34 : decode cX5_errorOf 34 = .ok (.iconst 0, 1) := by decide +kernel
theorem dX5_errorOf_35 : decode cX5_errorOf 35 = .ok (.ireturn, 1) := by decide +kernel
set_option maxRecDepth 20000 in
theorem ggX5_neighbor_X5_errorOf : GoodIn wsX5_neighbor wsX5_errorOf := goodIn_r _ [6, 7, 8, 9, 10, 5, 11, 12, 13, 14, 15, 16, 17, 18, 19, 20, 21, 22, 23, 24, 25, 26, 27, 28, 29, 30, 31, 32, 33, 34, 35, 36, 37, 38] rfl (by decide +kernel)
set_option maxRecDepth 20000 in
theorem gX5_neighbor_X5_errorOf : GoodIn wsX5_neighbor (wsV RX5 102 RX5 yX5_errorOf wsX5_errorOf) := goodIn_app (goodIn_of _ (by decide +kernel)) ggX5_neighbor_X5_errorOf
theorem dX5_neighbor_0 : decode cX5_neighbor 0 = .ok (.aload_n 0, 1) := by decide +kernel
theorem dX5_neighbor_1 : decode cX5_neighbor 1 = .ok (.iload_n 1, 1) := by decide +kernel
theorem dX5_neighbor_2 : decode cX5_neighbor 2 = .ok (.iload_n 2, 1) := by decide +kernel
theorem dX5_neighbor_3 : decode cX5_neighbor 3 = .ok (.invokevirtual 102, 3) := by decide +kernel
theorem dX5_neighbor_6 : decode cX5_neighbor 6 = .ok (.istore_n 3, 1) := by decide +kernel
theorem dX5_neighbor_7 : decode cX5_neighbor 7 = .ok (.iload_n 3, 1) := by decide +kernel
theorem dX5_neighbor_8 : decode cX5_neighbor 8 = .ok (.ifCond .ge 7, 3) := by decide +kernel
theorem dX5_neighbor_11 : decode cX5_neighbor 11 = .ok (.iload_n 3, 1) := by decide +kernel
theorem dX5_neighbor_12 : decode cX5_neighbor 12 = .ok (.goto 14, 3) := by decide +kernel
theorem dX5_neighbor_15 : decode cX5_neighbor 15 = .ok (.aload_n 0, 1) := by decide +kernel
theorem dX5_neighbor_16 : decode cX5_neighbor 16 = .ok (.getfield 13, 3) := by decide +kernel
theorem dX5_neighbor_19 : decode cX5_neighbor 19 = .ok (.bipush 8, 2) := by decide +kernel
theorem dX5_neighbor_21 : decode cX5_neighbor 21 = .ok (.iload_n 1, 1) := by decide +kernel
theorem dX5_neighbor_22 : decode cX5_neighbor 22 = .ok (.imul, 1) := by decide +kernel
theorem dX5_neighbor_23 : decode cX5_neighbor 23 = .ok (.iload_n 2, 1) := by decide +kernel
theorem dX5_neighbor_24 : decode cX5_neighbor 24 = .ok (.iadd, 1) := by decide +kernel
theorem dX5_neighbor_25 : decode cX5_neighbor 25 = .ok (.iaload, 1) := by decide +kernel
theorem dX5_neighbor_26 : decode cX5_neighbor 26 = .ok (.ireturn, 1) := by decide +kernel
set_option maxRecDepth 20000 in
theorem ggX5_rotor_X5_isNode : GoodIn wsX5_rotor wsX5_isNode := goodIn_r _ [6, 7, 8, 9, 5, 10, 11, 12, 13, 14, 15, 16, 17, 18, 19, 20, 21, 22, 23, 24, 25, 26, 27, 28, 29, 30, 31, 32, 33] rfl (by decide +kernel)
set_option maxRecDepth 20000 in
theorem gX5_rotor_X5_isNode : GoodIn wsX5_rotor (wsV RX5 99 RX5 yX5_isNode wsX5_isNode) := goodIn_app (goodIn_of _ (by decide +kernel)) ggX5_rotor_X5_isNode
theorem dX5_rotor_0 : decode cX5_rotor 0 = .ok (.aload_n 0, 1) := by decide +kernel
theorem dX5_rotor_1 : decode cX5_rotor 1 = .ok (.iload_n 1, 1) := by decide +kernel
theorem dX5_rotor_2 : decode cX5_rotor 2 = .ok (.invokevirtual 99, 3) := by decide +kernel
theorem dX5_rotor_5 : decode cX5_rotor 5 = .ok (.ifCond .eq 12, 3) := by decide +kernel
theorem dX5_rotor_8 : decode cX5_rotor 8 = .ok (.aload_n 0, 1) := by decide +kernel
theorem dX5_rotor_9 : decode cX5_rotor 9 = .ok (.getfield 19, 3) := by decide +kernel
theorem dX5_rotor_12 : decode cX5_rotor 12 = .ok (.iload_n 1, 1) := by decide +kernel
theorem dX5_rotor_13 : decode cX5_rotor 13 = .ok (.iaload, 1) := by decide +kernel
theorem dX5_rotor_14 : decode cX5_rotor 14 = .ok (.goto 5, 3) := by decide +kernel
theorem dX5_rotor_17 : decode cX5_rotor 17 = .ok (.bipush (-4), 2) := by decide +kernel
theorem dX5_rotor_19 : decode cX5_rotor 19 = .ok (.ireturn, 1) := by decide +kernel
set_option maxRecDepth 20000 in
theorem ggX5_setRotor_X5_errorOf : GoodIn wsX5_setRotor wsX5_errorOf := goodIn_r _ [6, 7, 8, 9, 10, 5, 11, 12, 13, 14, 15, 16, 17, 18, 19, 20, 21, 22, 23, 24, 25, 26, 27, 28, 29, 30, 31, 32, 33, 34, 35, 36, 37, 38] rfl (by decide +kernel)
set_option maxRecDepth 20000 in
theorem gX5_setRotor_X5_errorOf : GoodIn wsX5_setRotor (wsV RX5 102 RX5 yX5_errorOf wsX5_errorOf) := goodIn_app (goodIn_of _ (by decide +kernel)) ggX5_setRotor_X5_errorOf
theorem dX5_setRotor_0 : decode cX5_setRotor 0 = .ok (.aload_n 0, 1) := by decide +kernel
theorem dX5_setRotor_1 : decode cX5_setRotor 1 = .ok (.iload_n 1, 1) := by decide +kernel
theorem dX5_setRotor_2 : decode cX5_setRotor 2 = .ok (.iload_n 2, 1) := by decide +kernel
theorem dX5_setRotor_3 : decode cX5_setRotor 3 = .ok (.invokevirtual 102, 3) := by decide +kernel
theorem dX5_setRotor_6 : decode cX5_setRotor 6 = .ok (.istore_n 3, 1) := by decide +kernel
theorem dX5_setRotor_7 : decode cX5_setRotor 7 = .ok (.iload_n 3, 1) := by decide +kernel
theorem dX5_setRotor_8 : decode cX5_setRotor 8 = .ok (.ifCond .ge 5, 3) := by decide +kernel
theorem dX5_setRotor_11 : decode cX5_setRotor 11 = .ok (.iload_n 3, 1) := by decide +kernel
theorem dX5_setRotor_12 : decode cX5_setRotor 12 = .ok (.ireturn, 1) := by decide +kernel
theorem dX5_setRotor_13 : decode cX5_setRotor 13 = .ok (.aload_n 0, 1) := by decide +kernel
theorem dX5_setRotor_14 : decode cX5_setRotor 14 = .ok (.getfield 19, 3) := by decide +kernel
theorem dX5_setRotor_17 : decode cX5_setRotor 17 = .ok (.iload_n 1, 1) := by decide +kernel
theorem dX5_setRotor_18 : decode cX5_setRotor 18 = .ok (.iaload, 1) := by decide +kernel
theorem dX5_setRotor_19 : decode cX5_setRotor 19 = .ok (.istore 4, 2) := by decide +kernel
theorem dX5_setRotor_21 : decode cX5_setRotor 21 = .ok (.aload_n 0, 1) := by decide +kernel
theorem dX5_setRotor_22 : decode cX5_setRotor 22 = .ok (.getfield 19, 3) := by decide +kernel
theorem dX5_setRotor_25 : decode cX5_setRotor 25 = .ok (.iload_n 1, 1) := by decide +kernel
theorem dX5_setRotor_26 : decode cX5_setRotor 26 = .ok (.iload_n 2, 1) := by decide +kernel
theorem dX5_setRotor_27 : decode cX5_setRotor 27 = .ok (.iastore, 1) := by decide +kernel
theorem dX5_setRotor_28 : decode cX5_setRotor 28 = .ok (.iload 4, 2) := by decide +kernel
theorem dX5_setRotor_30 : decode cX5_setRotor 30 = .ok (.ireturn, 1) := by decide +kernel
set_option maxRecDepth 20000 in
theorem ggX5_isWalker_X5_within : GoodIn wsX5_isWalker wsX5_within := goodIn_r _ [5] rfl (by decide +kernel)
set_option maxRecDepth 20000 in
theorem gX5_isWalker_X5_within : GoodIn wsX5_isWalker (va_wsS RX5 56 yX5_within wsX5_within) := goodIn_app (goodIn_of _ (by decide +kernel)) ggX5_isWalker_X5_within
theorem dX5_isWalker_0 : decode cX5_isWalker 0 = .ok (.iload_n 1, 1) := by decide +kernel
theorem dX5_isWalker_1 : decode cX5_isWalker 1 = .ok (.iconst 0, 1) := by decide +kernel
theorem dX5_isWalker_2 : decode cX5_isWalker 2 = .ok (.aload_n 0, 1) := by decide +kernel
theorem dX5_isWalker_3 : decode cX5_isWalker 3 = .ok (.getfield 92, 3) := by decide +kernel
theorem dX5_isWalker_6 : decode cX5_isWalker 6 = .ok (.iconst 1, 1) := by decide +kernel
theorem dX5_isWalker_7 : decode cX5_isWalker 7 = .ok (.isub, 1) := by decide +kernel
theorem dX5_isWalker_8 : decode cX5_isWalker 8 = .ok (.invokestatic 56, 3) := by decide +kernel
theorem dX5_isWalker_11 : decode cX5_isWalker 11 = .ok (.ireturn, 1) := by decide +kernel
set_option maxRecDepth 20000 in
theorem ggX5_addWalker_X5_isNode : GoodIn wsX5_addWalker wsX5_isNode := goodIn_r _ [7, 8, 9, 10, 6, 11, 12, 13, 14, 15, 16, 17, 18, 19, 20, 21, 22, 23, 24, 25, 26, 27, 28, 29, 30, 31, 32, 33, 34] rfl (by decide +kernel)
set_option maxRecDepth 20000 in
theorem gX5_addWalker_X5_isNode : GoodIn wsX5_addWalker (wsV RX5 99 RX5 yX5_isNode wsX5_isNode) := goodIn_app (goodIn_of _ (by decide +kernel)) ggX5_addWalker_X5_isNode
theorem dX5_addWalker_0 : decode cX5_addWalker 0 = .ok (.aload_n 0, 1) := by decide +kernel
theorem dX5_addWalker_1 : decode cX5_addWalker 1 = .ok (.iload_n 1, 1) := by decide +kernel
theorem dX5_addWalker_2 : decode cX5_addWalker 2 = .ok (.invokevirtual 99, 3) := by decide +kernel
theorem dX5_addWalker_5 : decode cX5_addWalker 5 = .ok (.ifCond .ne 6, 3) := by decide +kernel
theorem dX5_addWalker_8 : decode cX5_addWalker 8 = .ok (.bipush (-4), 2) := by decide +kernel
theorem dX5_addWalker_10 : decode cX5_addWalker 10 = .ok (.ireturn, 1) := by decide +kernel
theorem dX5_addWalker_11 : decode cX5_addWalker 11 = .ok (.aload_n 0, 1) := by decide +kernel
theorem dX5_addWalker_12 : decode cX5_addWalker 12 = .ok (.getfield 92, 3) := by decide +kernel
theorem dX5_addWalker_15 : decode cX5_addWalker 15 = .ok (.iconst 4, 1) := by decide +kernel
theorem dX5_addWalker_16 : decode cX5_addWalker 16 = .ok (.if_icmp .ne 6, 3) := by decide +kernel
theorem dX5_addWalker_19 : decode cX5_addWalker 19 = .ok (.bipush (-7), 2) := by decide +kernel
theorem dX5_addWalker_21 : decode cX5_addWalker 21 = .ok (.ireturn, 1) := by decide +kernel
theorem dX5_addWalker_22 : decode cX5_addWalker 22 = .ok (.aload_n 0, 1) := by decide +kernel
theorem dX5_addWalker_23 : decode cX5_addWalker 23 = .ok (.getfield 22, 3) := by decide +kernel
theorem dX5_addWalker_26 : decode cX5_addWalker 26 = .ok (.aload_n 0, 1) := by decide +kernel
theorem dX5_addWalker_27 : decode cX5_addWalker 27 = .ok (.getfield 92, 3) := by decide +kernel
theorem dX5_addWalker_30 : decode cX5_addWalker 30 = .ok (.iload_n 1, 1) := by decide +kernel
theorem dX5_addWalker_31 : decode cX5_addWalker 31 = .ok (.iastore, 1) := by decide +kernel
theorem dX5_addWalker_32 : decode cX5_addWalker 32 = .ok (.aload_n 0, 1) := by decide +kernel
theorem dX5_addWalker_33 : decode cX5_addWalker 33 = .ok (.dup, 1) := by decide +kernel
theorem dX5_addWalker_34 : decode cX5_addWalker 34 = .ok (.getfield 92, 3) := by decide +kernel
theorem dX5_addWalker_37 : decode cX5_addWalker 37 = .ok (.iconst 1, 1) := by decide +kernel
theorem dX5_addWalker_38 : decode cX5_addWalker 38 = .ok (.iadd, 1) := by decide +kernel
theorem dX5_addWalker_39 : decode cX5_addWalker 39 = .ok (.putfield 92, 3) := by decide +kernel
theorem dX5_addWalker_42 : decode cX5_addWalker 42 = .ok (.aload_n 0, 1) := by decide +kernel
theorem dX5_addWalker_43 : decode cX5_addWalker 43 = .ok (.getfield 92, 3) := by decide +kernel
theorem dX5_addWalker_46 : decode cX5_addWalker 46 = .ok (.iconst 1, 1) := by decide +kernel
theorem dX5_addWalker_47 : decode cX5_addWalker 47 = .ok (.isub, 1) := by decide +kernel
theorem dX5_addWalker_48 : decode cX5_addWalker 48 = .ok (.ireturn, 1) := by decide +kernel
set_option maxRecDepth 20000 in
theorem ggX5_position_X5_isWalker : GoodIn wsX5_position wsX5_isWalker := goodIn_r _ [6, 7, 8, 9, 5, 10, 11, 12, 13, 14, 15, 16, 17, 18, 19, 20, 21, 22, 23, 24, 25, 26, 27, 28, 29, 30, 31, 32, 33] rfl (by decide +kernel)
set_option maxRecDepth 20000 in
theorem gX5_position_X5_isWalker : GoodIn wsX5_position (wsV RX5 106 RX5 yX5_isWalker wsX5_isWalker) := goodIn_app (goodIn_of _ (by decide +kernel)) ggX5_position_X5_isWalker
theorem dX5_position_0 : decode cX5_position 0 = .ok (.aload_n 0, 1) := by decide +kernel
theorem dX5_position_1 : decode cX5_position 1 = .ok (.iload_n 1, 1) := by decide +kernel
theorem dX5_position_2 : decode cX5_position 2 = .ok (.invokevirtual 106, 3) := by decide +kernel
theorem dX5_position_5 : decode cX5_position 5 = .ok (.ifCond .eq 12, 3) := by decide +kernel
theorem dX5_position_8 : decode cX5_position 8 = .ok (.aload_n 0, 1) := by decide +kernel
theorem dX5_position_9 : decode cX5_position 9 = .ok (.getfield 22, 3) := by decide +kernel
theorem dX5_position_12 : decode cX5_position 12 = .ok (.iload_n 1, 1) := by decide +kernel
theorem dX5_position_13 : decode cX5_position 13 = .ok (.iaload, 1) := by decide +kernel
theorem dX5_position_14 : decode cX5_position 14 = .ok (.goto 5, 3) := by decide +kernel
theorem dX5_position_17 : decode cX5_position 17 = .ok (.bipush (-5), 2) := by decide +kernel
theorem dX5_position_19 : decode cX5_position 19 = .ok (.ireturn, 1) := by decide +kernel
theorem dX5_go_0 : decode cX5_go 0 = .ok (.aload_n 0, 1) := by decide +kernel
theorem dX5_go_1 : decode cX5_go 1 = .ok (.getfield 13, 3) := by decide +kernel
theorem dX5_go_4 : decode cX5_go 4 = .ok (.bipush 8, 2) := by decide +kernel
theorem dX5_go_6 : decode cX5_go 6 = .ok (.iload_n 1, 1) := by decide +kernel
theorem dX5_go_7 : decode cX5_go 7 = .ok (.imul, 1) := by decide +kernel
theorem dX5_go_8 : decode cX5_go 8 = .ok (.aload_n 2, 1) := by decide +kernel
theorem dX5_go_9 : decode cX5_go 9 = .ok (.iload_n 1, 1) := by decide +kernel
theorem dX5_go_10 : decode cX5_go 10 = .ok (.iaload, 1) := by decide +kernel
theorem dX5_go_11 : decode cX5_go 11 = .ok (.iadd, 1) := by decide +kernel
theorem dX5_go_12 : decode cX5_go 12 = .ok (.iaload, 1) := by decide +kernel
theorem dX5_go_13 : decode cX5_go 13 = .ok (.istore_n 3, 1) := by decide +kernel
theorem dX5_go_14 : decode cX5_go 14 = .ok (.aload_n 2, 1) := by decide +kernel
theorem dX5_go_15 : decode cX5_go 15 = .ok (.iload_n 1, 1) := by decide +kernel
theorem dX5_go_16 : decode cX5_go 16 = .ok (.aload_n 2, 1) := by decide +kernel
theorem dX5_go_17 : decode cX5_go 17 = .ok (.iload_n 1, 1) := by decide +kernel
theorem dX5_go_18 : decode cX5_go 18 = .ok (.iaload, 1) := by decide +kernel
theorem dX5_go_19 : decode cX5_go 19 = .ok (.iconst 1, 1) := by decide +kernel
theorem dX5_go_20 : decode cX5_go 20 = .ok (.iadd, 1) := by decide +kernel
theorem dX5_go_21 : decode cX5_go 21 = .ok (.aload_n 0, 1) := by decide +kernel
theorem dX5_go_22 : decode cX5_go 22 = .ok (.getfield 16, 3) := by decide +kernel
theorem dX5_go_25 : decode cX5_go 25 = .ok (.iload_n 1, 1) := by decide +kernel
theorem dX5_go_26 : decode cX5_go 26 = .ok (.iaload, 1) := by decide +kernel
theorem dX5_go_27 : decode cX5_go 27 = .ok (.irem, 1) := by decide +kernel
theorem dX5_go_28 : decode cX5_go 28 = .ok (.iastore, 1) := by decide +kernel
theorem dX5_go_29 : decode cX5_go 29 = .ok (.iload_n 3, 1) := by decide +kernel
theorem dX5_go_30 : decode cX5_go 30 = .ok (.ireturn, 1) := by decide +kernel
set_option maxRecDepth 20000 in
theorem ggX5_stepOnce_X5_go : GoodIn wsX5_stepOnce wsX5_go := goodIn_r _ [9, 10, 11, 12, 13, 14, 15, 16, 17, 18, 19, 20, 21, 22, 23, 24, 25, 26, 27, 28, 29, 30, 31, 32, 33, 34] rfl (by decide +kernel)
set_option maxRecDepth 20000 in
theorem gX5_stepOnce_X5_go : GoodIn wsX5_stepOnce (wsV RX5 109 RX5 yX5_go wsX5_go) := goodIn_app (goodIn_of _ (by decide +kernel)) ggX5_stepOnce_X5_go
theorem dX5_stepOnce_0 : decode cX5_stepOnce 0 = .ok (.aload_n 0, 1) := by decide +kernel
theorem dX5_stepOnce_1 : decode cX5_stepOnce 1 = .ok (.getfield 22, 3) := by decide +kernel
theorem dX5_stepOnce_4 : decode cX5_stepOnce 4 = .ok (.iload_n 1, 1) := by decide +kernel
theorem dX5_stepOnce_5 : decode cX5_stepOnce 5 = .ok (.iaload, 1) := by decide +kernel
theorem dX5_stepOnce_6 : decode cX5_stepOnce 6 = .ok (.istore_n 2, 1) := by decide +kernel
theorem dX5_stepOnce_7 : decode cX5_stepOnce 7 = .ok (.aload_n 0, 1) := by decide +kernel
theorem dX5_stepOnce_8 : decode cX5_stepOnce 8 = .ok (.getfield 28, 3) := by decide +kernel
theorem dX5_stepOnce_11 : decode cX5_stepOnce 11 = .ok (.bipush 8, 2) := by decide +kernel
theorem dX5_stepOnce_13 : decode cX5_stepOnce 13 = .ok (.iload_n 2, 1) := by decide +kernel
theorem dX5_stepOnce_14 : decode cX5_stepOnce 14 = .ok (.imul, 1) := by decide +kernel
theorem dX5_stepOnce_15 : decode cX5_stepOnce 15 = .ok (.aload_n 0, 1) := by decide +kernel
theorem dX5_stepOnce_16 : decode cX5_stepOnce 16 = .ok (.getfield 19, 3) := by decide +kernel
theorem dX5_stepOnce_19 : decode cX5_stepOnce 19 = .ok (.iload_n 2, 1) := by decide +kernel
theorem dX5_stepOnce_20 : decode cX5_stepOnce 20 = .ok (.iaload, 1) := by decide +kernel
theorem dX5_stepOnce_21 : decode cX5_stepOnce 21 = .ok (.iadd, 1) := by decide +kernel
theorem dX5_stepOnce_22 : decode cX5_stepOnce 22 = .ok (.dup2, 1) := by decide +kernel
theorem dX5_stepOnce_23 : decode cX5_stepOnce 23 = .ok (.iaload, 1) := by decide +kernel
theorem dX5_stepOnce_24 : decode cX5_stepOnce 24 = .ok (.iconst 1, 1) := by decide +kernel
theorem dX5_stepOnce_25 : decode cX5_stepOnce 25 = .ok (.iadd, 1) := by decide +kernel
theorem dX5_stepOnce_26 : decode cX5_stepOnce 26 = .ok (.iastore, 1) := by decide +kernel
theorem dX5_stepOnce_27 : decode cX5_stepOnce 27 = .ok (.aload_n 0, 1) := by decide +kernel
theorem dX5_stepOnce_28 : decode cX5_stepOnce 28 = .ok (.getfield 22, 3) := by decide +kernel
theorem dX5_stepOnce_31 : decode cX5_stepOnce 31 = .ok (.iload_n 1, 1) := by decide +kernel
theorem dX5_stepOnce_32 : decode cX5_stepOnce 32 = .ok (.aload_n 0, 1) := by decide +kernel
theorem dX5_stepOnce_33 : decode cX5_stepOnce 33 = .ok (.iload_n 2, 1) := by decide +kernel
theorem dX5_stepOnce_34 : decode cX5_stepOnce 34 = .ok (.aload_n 0, 1) := by decide +kernel
theorem dX5_stepOnce_35 : decode cX5_stepOnce 35 = .ok (.getfield 19, 3) := by decide +kernel
theorem dX5_stepOnce_38 : decode cX5_stepOnce 38 = .ok (.invokevirtual 109, 3) := by decide +kernel
theorem dX5_stepOnce_41 : decode cX5_stepOnce 41 = .ok (.iastore, 1) := by decide +kernel
theorem dX5_stepOnce_42 : decode cX5_stepOnce 42 = .ok (.aload_n 0, 1) := by decide +kernel
theorem dX5_stepOnce_43 : decode cX5_stepOnce 43 = .ok (.getfield 25, 3) := by decide +kernel
theorem dX5_stepOnce_46 : decode cX5_stepOnce 46 = .ok (.aload_n 0, 1) := by decide +kernel
theorem dX5_stepOnce_47 : decode cX5_stepOnce 47 = .ok (.getfield 22, 3) := by decide +kernel
theorem dX5_stepOnce_50 : decode cX5_stepOnce 50 = .ok (.iload_n 1, 1) := by decide +kernel
theorem dX5_stepOnce_51 : decode cX5_stepOnce 51 = .ok (.iaload, 1) := by decide +kernel
theorem dX5_stepOnce_52 : decode cX5_stepOnce 52 = .ok (.dup2, 1) := by decide +kernel
theorem dX5_stepOnce_53 : decode cX5_stepOnce 53 = .ok (.iaload, 1) := by decide +kernel
theorem dX5_stepOnce_54 : decode cX5_stepOnce 54 = .ok (.iconst 1, 1) := by decide +kernel
theorem dX5_stepOnce_55 : decode cX5_stepOnce 55 = .ok (.iadd, 1) := by decide +kernel
theorem dX5_stepOnce_56 : decode cX5_stepOnce 56 = .ok (.iastore, 1) := by decide +kernel
theorem dX5_stepOnce_57 : decode cX5_stepOnce 57 = .ok (.return_, 1) := by decide +kernel
set_option maxRecDepth 20000 in
theorem ggX5_step_X5_isWalker : GoodIn wsX5_step wsX5_isWalker := goodIn_r _ [6, 7, 8, 9, 5, 10, 24, 25, 26, 27, 28, 29, 30, 31, 32, 33, 34, 35, 36, 37, 38, 39, 40, 41, 42, 43, 44, 45, 46] rfl (by decide +kernel)
set_option maxRecDepth 20000 in
theorem gX5_step_X5_isWalker : GoodIn wsX5_step (wsV RX5 106 RX5 yX5_isWalker wsX5_isWalker) := goodIn_app (goodIn_of _ (by decide +kernel)) ggX5_step_X5_isWalker
set_option maxRecDepth 20000 in
theorem ggX5_step_X5_within : GoodIn wsX5_step wsX5_within := goodIn_r _ [10] rfl (by decide +kernel)
set_option maxRecDepth 20000 in
theorem gX5_step_X5_within : GoodIn wsX5_step (va_wsS RX5 56 yX5_within wsX5_within) := goodIn_app (goodIn_of _ (by decide +kernel)) ggX5_step_X5_within
set_option maxRecDepth 20000 in
theorem ggX5_step_X5_stepOnce : GoodIn wsX5_step wsX5_stepOnce := goodIn_r _ [14, 1, 15, 16, 17, 18, 19, 20, 5, 21, 22, 23, 24, 25, 26, 27, 28, 29, 30, 31, 32, 33, 34, 35, 36, 37, 38, 39, 40, 41, 42, 43, 44, 45, 46] rfl (by decide +kernel)
set_option maxRecDepth 20000 in
theorem gX5_step_X5_stepOnce : GoodIn wsX5_step (wsV RX5 113 RX5 yX5_stepOnce wsX5_stepOnce) := goodIn_app (goodIn_of _ (by decide +kernel)) ggX5_step_X5_stepOnce
theorem dX5_step_0 : decode cX5_step 0 = .ok (.aload_n 0, 1) := by decide +kernel
theorem dX5_step_1 : decode cX5_step 1 = .ok (.iload_n 1, 1) := by decide +kernel
theorem dX5_step_2 : decode cX5_step 2 = .ok (.invokevirtual 106, 3) := by decide +kernel
theorem dX5_step_5 : decode cX5_step 5 = .ok (.ifCond .ne 6, 3) := by decide +kernel
theorem dX5_step_8 : decode cX5_step 8 = .ok (.bipush (-5), 2) := by decide +kernel
theorem dX5_step_10 : decode cX5_step 10 = .ok (.ireturn, 1) := by decide +kernel
theorem dX5_step_11 : decode cX5_step 11 = .ok (.iload_n 2, 1) := by decide +kernel
theorem dX5_step_12 : decode cX5_step 12 = .ok (.iconst 1, 1) := by decide +kernel
theorem dX5_step_13 : decode cX5_step 13 = .ok (.sipush 1000, 3) := by decide +kernel
theorem dX5_step_16 : decode cX5_step 16 = .ok (.invokestatic 56, 3) := by decide +kernel
theorem dX5_step_19 : decode cX5_step 19 = .ok (.ifCond .ne 6, 3) := by decide +kernel
theorem dX5_step_22 : decode cX5_step 22 = .ok (.bipush (-6), 2) := by decide +kernel
theorem dX5_step_24 : decode cX5_step 24 = .ok (.ireturn, 1) := by decide +kernel
theorem dX5_step_25 : decode cX5_step 25 = .ok (.iconst 0, 1) := by decide +kernel
theorem dX5_step_26 : decode cX5_step 26 = .ok (.istore_n 3, 1) := by decide +kernel
theorem dX5_step_27 : decode cX5_step 27 = .ok (.iload_n 3, 1) := by decide +kernel
theorem dX5_step_28 : decode cX5_step 28 = .ok (.iload_n 2, 1) := by decide +kernel
theorem dX5_step_29 : decode cX5_step 29 = .ok (.if_icmp .ge 14, 3) := by decide +kernel
theorem dX5_step_32 : decode cX5_step 32 = .ok (.aload_n 0, 1) := by decide +kernel
theorem dX5_step_33 : decode cX5_step 33 = .ok (.iload_n 1, 1) := by decide +kernel
theorem dX5_step_34 : decode cX5_step 34 = .ok (.invokevirtual 113, 3) := by decide +kernel
theorem dX5_step_37 : decode cX5_step 37 = .ok (.iinc 3 1, 3) := by decide +kernel
theorem dX5_step_40 : decode cX5_step 40 = .ok (.goto (-13), 3) := by decide +kernel
theorem dX5_step_43 : decode cX5_step 43 = .ok (.aload_n 0, 1) := by decide +kernel
theorem dX5_step_44 : decode cX5_step 44 = .ok (.getfield 22, 3) := by decide +kernel
theorem dX5_step_47 : decode cX5_step 47 = .ok (.iload_n 1, 1) := by decide +kernel
theorem dX5_step_48 : decode cX5_step 48 = .ok (.iaload, 1) := by decide +kernel
theorem dX5_step_49 : decode cX5_step 49 = .ok (.ireturn, 1) := by decide +kernel
set_option maxRecDepth 20000 in
theorem ggX5_pass_X5_stepOnce : GoodIn wsX5_pass wsX5_stepOnce := goodIn_r _ [7, 2, 8, 9, 10, 11, 12, 13, 6, 14, 15, 16, 17, 18, 19, 20, 21, 22, 23, 24, 25, 26, 27, 28, 29, 30, 31, 32, 33, 34, 35, 36, 37, 38, 39] rfl (by decide +kernel)
set_option maxRecDepth 20000 in
theorem gX5_pass_X5_stepOnce : GoodIn wsX5_pass (wsV RX5 113 RX5 yX5_stepOnce wsX5_stepOnce) := goodIn_app (goodIn_of _ (by decide +kernel)) ggX5_pass_X5_stepOnce
theorem dX5_pass_0 : decode cX5_pass 0 = .ok (.iconst 0, 1) := by decide +kernel
theorem dX5_pass_1 : decode cX5_pass 1 = .ok (.istore_n 2, 1) := by decide +kernel
theorem dX5_pass_2 : decode cX5_pass 2 = .ok (.iconst 0, 1) := by decide +kernel
theorem dX5_pass_3 : decode cX5_pass 3 = .ok (.istore_n 3, 1) := by decide +kernel
theorem dX5_pass_4 : decode cX5_pass 4 = .ok (.iload_n 3, 1) := by decide +kernel
theorem dX5_pass_5 : decode cX5_pass 5 = .ok (.aload_n 0, 1) := by decide +kernel
theorem dX5_pass_6 : decode cX5_pass 6 = .ok (.getfield 92, 3) := by decide +kernel
theorem dX5_pass_9 : decode cX5_pass 9 = .ok (.if_icmp .ge 27, 3) := by decide +kernel
theorem dX5_pass_12 : decode cX5_pass 12 = .ok (.aload_n 0, 1) := by decide +kernel
theorem dX5_pass_13 : decode cX5_pass 13 = .ok (.getfield 22, 3) := by decide +kernel
theorem dX5_pass_16 : decode cX5_pass 16 = .ok (.iload_n 3, 1) := by decide +kernel
theorem dX5_pass_17 : decode cX5_pass 17 = .ok (.iaload, 1) := by decide +kernel
theorem dX5_pass_18 : decode cX5_pass 18 = .ok (.iload_n 1, 1) := by decide +kernel
theorem dX5_pass_19 : decode cX5_pass 19 = .ok (.if_icmp .eq 11, 3) := by decide +kernel
theorem dX5_pass_22 : decode cX5_pass 22 = .ok (.aload_n 0, 1) := by decide +kernel
theorem dX5_pass_23 : decode cX5_pass 23 = .ok (.iload_n 3, 1) := by decide +kernel
theorem dX5_pass_24 : decode cX5_pass 24 = .ok (.invokevirtual 113, 3) := by decide +kernel
theorem dX5_pass_27 : decode cX5_pass 27 = .ok (.iinc 2 1, 3) := by decide +kernel
theorem dX5_pass_30 : decode cX5_pass 30 = .ok (.iinc 3 1, 3) := by decide +kernel
theorem dX5_pass_33 : decode cX5_pass 33 = .ok (.goto (-29), 3) := by decide +kernel
theorem dX5_pass_36 : decode cX5_pass 36 = .ok (.iload_n 2, 1) := by decide +kernel
theorem dX5_pass_37 : decode cX5_pass 37 = .ok (.ireturn, 1) := by decide +kernel
set_option maxRecDepth 20000 in
theorem ggX5_absorb_X5_isNode : GoodIn wsX5_absorb wsX5_isNode := goodIn_r _ [7, 8, 9, 10, 6, 11, 29, 30, 31, 32, 33, 34, 35, 36, 37, 38, 39, 40, 41, 42, 43, 44, 45, 46, 47, 48, 49, 50, 51] rfl (by decide +kernel)
set_option maxRecDepth 20000 in
theorem gX5_absorb_X5_isNode : GoodIn wsX5_absorb (wsV RX5 99 RX5 yX5_isNode wsX5_isNode) := goodIn_app (goodIn_of _ (by decide +kernel)) ggX5_absorb_X5_isNode
set_option maxRecDepth 20000 in
theorem ggX5_absorb_X5_stepOnce : GoodIn wsX5_absorb wsX5_stepOnce := goodIn_r _ [15, 2, 16, 17, 18, 19, 20, 21, 6, 22, 23, 24, 29, 30, 31, 32, 33, 34, 35, 36, 37, 38, 39, 40, 41, 42, 43, 44, 45, 46, 47, 48, 49, 50, 51] rfl (by decide +kernel)
set_option maxRecDepth 20000 in
theorem gX5_absorb_X5_stepOnce : GoodIn wsX5_absorb (wsV RX5 113 RX5 yX5_stepOnce wsX5_stepOnce) := goodIn_app (goodIn_of _ (by decide +kernel)) ggX5_absorb_X5_stepOnce
set_option maxRecDepth 20000 in
theorem ggX5_absorb_X5_pass : GoodIn wsX5_absorb wsX5_pass := goodIn_r _ [28, 1, 2, 12, 13, 14, 6, 15, 16, 17, 18, 19, 20, 21, 22, 23, 24, 29, 30, 31, 32, 33, 34, 35, 36, 37, 38, 39, 40, 41, 42, 43, 44, 45, 46, 47, 48, 49, 50, 51] rfl (by decide +kernel)
set_option maxRecDepth 20000 in
theorem gX5_absorb_X5_pass : GoodIn wsX5_absorb (wsV RX5 117 RX5 yX5_pass wsX5_pass) := goodIn_app (goodIn_of _ (by decide +kernel)) ggX5_absorb_X5_pass
theorem dX5_absorb_0 : decode cX5_absorb 0 = .ok (.aload_n 0, 1) := by decide +kernel
theorem dX5_absorb_1 : decode cX5_absorb 1 = .ok (.iload_n 1, 1) := by decide +kernel
theorem dX5_absorb_2 : decode cX5_absorb 2 = .ok (.invokevirtual 99, 3) := by decide +kernel
theorem dX5_absorb_5 : decode cX5_absorb 5 = .ok (.ifCond .ne 6, 3) := by decide +kernel
theorem dX5_absorb_8 : decode cX5_absorb 8 = .ok (.bipush (-4), 2) := by decide +kernel
theorem dX5_absorb_10 : decode cX5_absorb 10 = .ok (.ireturn, 1) := by decide +kernel
theorem dX5_absorb_11 : decode cX5_absorb 11 = .ok (.iconst 0, 1) := by decide +kernel
theorem dX5_absorb_12 : decode cX5_absorb 12 = .ok (.istore_n 3, 1) := by decide +kernel
theorem dX5_absorb_13 : decode cX5_absorb 13 = .ok (.iconst 0, 1) := by decide +kernel
theorem dX5_absorb_14 : decode cX5_absorb 14 = .ok (.istore 4, 2) := by decide +kernel
theorem dX5_absorb_16 : decode cX5_absorb 16 = .ok (.iload 4, 2) := by decide +kernel
theorem dX5_absorb_18 : decode cX5_absorb 18 = .ok (.aload_n 0, 1) := by decide +kernel
theorem dX5_absorb_19 : decode cX5_absorb 19 = .ok (.getfield 92, 3) := by decide +kernel
theorem dX5_absorb_22 : decode cX5_absorb 22 = .ok (.if_icmp .ge 36, 3) := by decide +kernel
theorem dX5_absorb_25 : decode cX5_absorb 25 = .ok (.iload_n 2, 1) := by decide +kernel
theorem dX5_absorb_26 : decode cX5_absorb 26 = .ok (.ifCond .ne 32, 3) := by decide +kernel
theorem dX5_absorb_29 : decode cX5_absorb 29 = .ok (.aload_n 0, 1) := by decide +kernel
theorem dX5_absorb_30 : decode cX5_absorb 30 = .ok (.getfield 22, 3) := by decide +kernel
theorem dX5_absorb_33 : decode cX5_absorb 33 = .ok (.iload 4, 2) := by decide +kernel
theorem dX5_absorb_35 : decode cX5_absorb 35 = .ok (.iaload, 1) := by decide +kernel
theorem dX5_absorb_36 : decode cX5_absorb 36 = .ok (.iload_n 1, 1) := by decide +kernel
theorem dX5_absorb_37 : decode cX5_absorb 37 = .ok (.if_icmp .eq 15, 3) := by decide +kernel
theorem dX5_absorb_40 : decode cX5_absorb 40 = .ok (.aload_n 0, 1) := by decide +kernel
theorem dX5_absorb_41 : decode cX5_absorb 41 = .ok (.iload 4, 2) := by decide +kernel
theorem dX5_absorb_43 : decode cX5_absorb 43 = .ok (.invokevirtual 113, 3) := by decide +kernel
theorem dX5_absorb_46 : decode cX5_absorb 46 = .ok (.iinc 3 1, 3) := by decide +kernel
theorem dX5_absorb_49 : decode cX5_absorb 49 = .ok (.goto (-20), 3) := by decide +kernel
theorem dX5_absorb_52 : decode cX5_absorb 52 = .ok (.iinc 4 1, 3) := by decide +kernel
theorem dX5_absorb_55 : decode cX5_absorb 55 = .ok (.goto (-39), 3) := by decide +kernel
theorem dX5_absorb_58 : decode cX5_absorb 58 = .ok (.aload_n 0, 1) := by decide +kernel
theorem dX5_absorb_59 : decode cX5_absorb 59 = .ok (.iload_n 1, 1) := by decide +kernel
theorem dX5_absorb_60 : decode cX5_absorb 60 = .ok (.invokevirtual 117, 3) := by decide +kernel
theorem dX5_absorb_63 : decode cX5_absorb 63 = .ok (.istore 4, 2) := by decide +kernel
theorem dX5_absorb_65 : decode cX5_absorb 65 = .ok (.iload 4, 2) := by decide +kernel
theorem dX5_absorb_67 : decode cX5_absorb 67 = .ok (.ifCond .le 18, 3) := by decide +kernel
theorem dX5_absorb_70 : decode cX5_absorb 70 = .ok (.iload_n 3, 1) := by decide +kernel
theorem dX5_absorb_71 : decode cX5_absorb 71 = .ok (.iload 4, 2) := by decide +kernel
theorem dX5_absorb_73 : decode cX5_absorb 73 = .ok (.iadd, 1) := by decide +kernel
theorem dX5_absorb_74 : decode cX5_absorb 74 = .ok (.istore_n 3, 1) := by decide +kernel
theorem dX5_absorb_75 : decode cX5_absorb 75 = .ok (.aload_n 0, 1) := by decide +kernel
theorem dX5_absorb_76 : decode cX5_absorb 76 = .ok (.iload_n 1, 1) := by decide +kernel
theorem dX5_absorb_77 : decode cX5_absorb 77 = .ok (.invokevirtual 117, 3) := by decide +kernel
theorem dX5_absorb_80 : decode cX5_absorb 80 = .ok (.istore 4, 2) := by decide +kernel
theorem dX5_absorb_82 : decode cX5_absorb 82 = .ok (.goto (-17), 3) := by decide +kernel
theorem dX5_absorb_85 : decode cX5_absorb 85 = .ok (.iload_n 3, 1) := by decide +kernel
theorem dX5_absorb_86 : decode cX5_absorb 86 = .ok (.ireturn, 1) := by decide +kernel
set_option maxRecDepth 20000 in
theorem ggX5_arrivals_X5_isNode : GoodIn wsX5_arrivals wsX5_isNode := goodIn_r _ [6, 7, 8, 9, 5, 10, 11, 12, 13, 14, 15, 16, 17, 18, 19, 20, 21, 22, 23, 24, 25, 26, 27, 28, 29, 30, 31, 32, 33] rfl (by decide +kernel)
set_option maxRecDepth 20000 in
theorem gX5_arrivals_X5_isNode : GoodIn wsX5_arrivals (wsV RX5 99 RX5 yX5_isNode wsX5_isNode) := goodIn_app (goodIn_of _ (by decide +kernel)) ggX5_arrivals_X5_isNode
theorem dX5_arrivals_0 : decode cX5_arrivals 0 = .ok (.aload_n 0, 1) := by decide +kernel
theorem dX5_arrivals_1 : decode cX5_arrivals 1 = .ok (.iload_n 1, 1) := by decide +kernel
theorem dX5_arrivals_2 : decode cX5_arrivals 2 = .ok (.invokevirtual 99, 3) := by decide +kernel
theorem dX5_arrivals_5 : decode cX5_arrivals 5 = .ok (.ifCond .eq 12, 3) := by decide +kernel
theorem dX5_arrivals_8 : decode cX5_arrivals 8 = .ok (.aload_n 0, 1) := by decide +kernel
theorem dX5_arrivals_9 : decode cX5_arrivals 9 = .ok (.getfield 25, 3) := by decide +kernel
theorem dX5_arrivals_12 : decode cX5_arrivals 12 = .ok (.iload_n 1, 1) := by decide +kernel
theorem dX5_arrivals_13 : decode cX5_arrivals 13 = .ok (.iaload, 1) := by decide +kernel
theorem dX5_arrivals_14 : decode cX5_arrivals 14 = .ok (.goto 5, 3) := by decide +kernel
theorem dX5_arrivals_17 : decode cX5_arrivals 17 = .ok (.bipush (-4), 2) := by decide +kernel
theorem dX5_arrivals_19 : decode cX5_arrivals 19 = .ok (.ireturn, 1) := by decide +kernel
set_option maxRecDepth 20000 in
theorem ggX5_departures_X5_errorOf : GoodIn wsX5_departures wsX5_errorOf := goodIn_r _ [6, 7, 8, 9, 10, 5, 11, 12, 13, 14, 15, 16, 17, 18, 19, 20, 21, 22, 23, 24, 25, 26, 27, 28, 29, 30, 31, 32, 33, 34, 35, 36, 37, 38] rfl (by decide +kernel)
set_option maxRecDepth 20000 in
theorem gX5_departures_X5_errorOf : GoodIn wsX5_departures (wsV RX5 102 RX5 yX5_errorOf wsX5_errorOf) := goodIn_app (goodIn_of _ (by decide +kernel)) ggX5_departures_X5_errorOf
theorem dX5_departures_0 : decode cX5_departures 0 = .ok (.aload_n 0, 1) := by decide +kernel
theorem dX5_departures_1 : decode cX5_departures 1 = .ok (.iload_n 1, 1) := by decide +kernel
theorem dX5_departures_2 : decode cX5_departures 2 = .ok (.iload_n 2, 1) := by decide +kernel
theorem dX5_departures_3 : decode cX5_departures 3 = .ok (.invokevirtual 102, 3) := by decide +kernel
theorem dX5_departures_6 : decode cX5_departures 6 = .ok (.istore_n 3, 1) := by decide +kernel
theorem dX5_departures_7 : decode cX5_departures 7 = .ok (.iload_n 3, 1) := by decide +kernel
theorem dX5_departures_8 : decode cX5_departures 8 = .ok (.ifCond .ge 7, 3) := by decide +kernel
theorem dX5_departures_11 : decode cX5_departures 11 = .ok (.iload_n 3, 1) := by decide +kernel
theorem dX5_departures_12 : decode cX5_departures 12 = .ok (.goto 14, 3) := by decide +kernel
theorem dX5_departures_15 : decode cX5_departures 15 = .ok (.aload_n 0, 1) := by decide +kernel
theorem dX5_departures_16 : decode cX5_departures 16 = .ok (.getfield 28, 3) := by decide +kernel
theorem dX5_departures_19 : decode cX5_departures 19 = .ok (.bipush 8, 2) := by decide +kernel
theorem dX5_departures_21 : decode cX5_departures 21 = .ok (.iload_n 1, 1) := by decide +kernel
theorem dX5_departures_22 : decode cX5_departures 22 = .ok (.imul, 1) := by decide +kernel
theorem dX5_departures_23 : decode cX5_departures 23 = .ok (.iload_n 2, 1) := by decide +kernel
theorem dX5_departures_24 : decode cX5_departures 24 = .ok (.iadd, 1) := by decide +kernel
theorem dX5_departures_25 : decode cX5_departures 25 = .ok (.iaload, 1) := by decide +kernel
theorem dX5_departures_26 : decode cX5_departures 26 = .ok (.ireturn, 1) := by decide +kernel
theorem dX5_copyRotors_0 : decode cX5_copyRotors 0 = .ok (.iconst 0, 1) := by decide +kernel
theorem dX5_copyRotors_1 : decode cX5_copyRotors 1 = .ok (.istore_n 3, 1) := by decide +kernel
theorem dX5_copyRotors_2 : decode cX5_copyRotors 2 = .ok (.iload_n 3, 1) := by decide +kernel
theorem dX5_copyRotors_3 : decode cX5_copyRotors 3 = .ok (.bipush 8, 2) := by decide +kernel
theorem dX5_copyRotors_5 : decode cX5_copyRotors 5 = .ok (.if_icmp .ge 15, 3) := by decide +kernel
theorem dX5_copyRotors_8 : decode cX5_copyRotors 8 = .ok (.aload_n 2, 1) := by decide +kernel
theorem dX5_copyRotors_9 : decode cX5_copyRotors 9 = .ok (.iload_n 3, 1) := by decide +kernel
theorem dX5_copyRotors_10 : decode cX5_copyRotors 10 = .ok (.aload_n 1, 1) := by decide +kernel
theorem dX5_copyRotors_11 : decode cX5_copyRotors 11 = .ok (.iload_n 3, 1) := by decide +kernel
theorem dX5_copyRotors_12 : decode cX5_copyRotors 12 = .ok (.iaload, 1) := by decide +kernel
theorem dX5_copyRotors_13 : decode cX5_copyRotors 13 = .ok (.iastore, 1) := by decide +kernel
theorem dX5_copyRotors_14 : decode cX5_copyRotors 14 = .ok (.iinc 3 1, 3) := by decide +kernel
theorem dX5_copyRotors_17 : decode cX5_copyRotors 17 = .ok (.goto (-15), 3) := by decide +kernel
theorem dX5_copyRotors_20 : decode cX5_copyRotors 20 = .ok (.return_, 1) := by decide +kernel
theorem dX5_areEqual_0 : decode cX5_areEqual 0 = .ok (.iconst 1, 1) := by decide +kernel
theorem dX5_areEqual_1 : decode cX5_areEqual 1 = .ok (.istore_n 1, 1) := by decide +kernel
theorem dX5_areEqual_2 : decode cX5_areEqual 2 = .ok (.iconst 0, 1) := by decide +kernel
theorem dX5_areEqual_3 : decode cX5_areEqual 3 = .ok (.istore_n 2, 1) := by decide +kernel
theorem dX5_areEqual_4 : decode cX5_areEqual 4 = .ok (.iload_n 2, 1) := by decide +kernel
theorem dX5_areEqual_5 : decode cX5_areEqual 5 = .ok (.aload_n 0, 1) := by decide +kernel
theorem dX5_areEqual_6 : decode cX5_areEqual 6 = .ok (.getfield 82, 3) := by decide +kernel
theorem dX5_areEqual_9 : decode cX5_areEqual 9 = .ok (.if_icmp .ge 34, 3) := by decide +kernel
theorem dX5_areEqual_12 : decode cX5_areEqual 12 = .ok (.iload_n 1, 1) := by decide +kernel
theorem dX5_areEqual_13 : decode cX5_areEqual 13 = .ok (.ifCond .eq 22, 3) := by decide +kernel
theorem dX5_areEqual_16 : decode cX5_areEqual 16 = .ok (.aload_n 0, 1) := by decide +kernel
theorem dX5_areEqual_17 : decode cX5_areEqual 17 = .ok (.getfield 31, 3) := by decide +kernel
theorem dX5_areEqual_20 : decode cX5_areEqual 20 = .ok (.iload_n 2, 1) := by decide +kernel
theorem dX5_areEqual_21 : decode cX5_areEqual 21 = .ok (.iaload, 1) := by decide +kernel
theorem dX5_areEqual_22 : decode cX5_areEqual 22 = .ok (.aload_n 0, 1) := by decide +kernel
theorem dX5_areEqual_23 : decode cX5_areEqual 23 = .ok (.getfield 34, 3) := by decide +kernel
theorem dX5_areEqual_26 : decode cX5_areEqual 26 = .ok (.iload_n 2, 1) := by decide +kernel
theorem dX5_areEqual_27 : decode cX5_areEqual 27 = .ok (.iaload, 1) := by decide +kernel
theorem dX5_areEqual_28 : decode cX5_areEqual 28 = .ok (.if_icmp .ne 7, 3) := by decide +kernel
theorem dX5_areEqual_31 : decode cX5_areEqual 31 = .ok (.iconst 1, 1) := by decide +kernel
theorem dX5_areEqual_32 : decode cX5_areEqual 32 = .ok (.goto 4, 3) := by decide +kernel
theorem dX5_areEqual_35 : decode cX5_areEqual 35 = .ok (.iconst 0, 1) := by decide +kernel
theorem dX5_areEqual_36 : decode cX5_areEqual 36 = .ok (.istore_n 1, 1) := by decide +kernel
theorem dX5_areEqual_37 : decode cX5_areEqual 37 = .ok (.iinc 2 1, 3) := by decide +kernel
theorem dX5_areEqual_40 : decode cX5_areEqual 40 = .ok (.goto (-36), 3) := by decide +kernel
theorem dX5_areEqual_43 : decode cX5_areEqual 43 = .ok (.iload_n 1, 1) := by decide +kernel
theorem dX5_areEqual_44 : decode cX5_areEqual 44 = .ok (.ireturn, 1) := by decide +kernel
set_option maxRecDepth 20000 in
theorem ggX5_cycleOf_X5_copyRotors : GoodIn wsX5_cycleOf wsX5_copyRotors := goodIn_r _ [10] rfl (by decide +kernel)
set_option maxRecDepth 20000 in
theorem gX5_cycleOf_X5_copyRotors : GoodIn wsX5_cycleOf (wsV RX5 121 RX5 yX5_copyRotors wsX5_copyRotors) := goodIn_app (goodIn_of _ (by decide +kernel)) ggX5_cycleOf_X5_copyRotors
set_option maxRecDepth 20000 in
theorem ggX5_cycleOf_X5_go : GoodIn wsX5_cycleOf wsX5_go := goodIn_r _ [14, 15, 16, 22, 23, 24, 25, 26, 27, 28, 29, 30, 31, 32, 33, 34, 35, 36, 37, 38, 39, 40, 41, 42, 43, 44] rfl (by decide +kernel)
set_option maxRecDepth 20000 in
theorem gX5_cycleOf_X5_go : GoodIn wsX5_cycleOf (wsV RX5 109 RX5 yX5_go wsX5_go) := goodIn_app (goodIn_of _ (by decide +kernel)) ggX5_cycleOf_X5_go
set_option maxRecDepth 20000 in
theorem ggX5_cycleOf_X5_areEqual : GoodIn wsX5_cycleOf wsX5_areEqual := goodIn_r _ [20, 21, 2, 3, 22, 23, 24, 25, 26, 27, 28, 29, 30, 31, 32, 33, 34, 35, 36, 37, 38, 39, 40, 41, 42, 43, 44] rfl (by decide +kernel)
set_option maxRecDepth 20000 in
theorem gX5_cycleOf_X5_areEqual : GoodIn wsX5_cycleOf (wsV RX5 125 RX5 yX5_areEqual wsX5_areEqual) := goodIn_app (goodIn_of _ (by decide +kernel)) ggX5_cycleOf_X5_areEqual
theorem dX5_cycleOf_0 : decode cX5_cycleOf 0 = .ok (.aload_n 0, 1) := by decide +kernel
theorem dX5_cycleOf_1 : decode cX5_cycleOf 1 = .ok (.aload_n 0, 1) := by decide +kernel
theorem dX5_cycleOf_2 : decode cX5_cycleOf 2 = .ok (.getfield 19, 3) := by decide +kernel
theorem dX5_cycleOf_5 : decode cX5_cycleOf 5 = .ok (.aload_n 0, 1) := by decide +kernel
theorem dX5_cycleOf_6 : decode cX5_cycleOf 6 = .ok (.getfield 31, 3) := by decide +kernel
theorem dX5_cycleOf_9 : decode cX5_cycleOf 9 = .ok (.invokevirtual 121, 3) := by decide +kernel
theorem dX5_cycleOf_12 : decode cX5_cycleOf 12 = .ok (.aload_n 0, 1) := by decide +kernel
theorem dX5_cycleOf_13 : decode cX5_cycleOf 13 = .ok (.aload_n 0, 1) := by decide +kernel
theorem dX5_cycleOf_14 : decode cX5_cycleOf 14 = .ok (.getfield 19, 3) := by decide +kernel
theorem dX5_cycleOf_17 : decode cX5_cycleOf 17 = .ok (.aload_n 0, 1) := by decide +kernel
theorem dX5_cycleOf_18 : decode cX5_cycleOf 18 = .ok (.getfield 34, 3) := by decide +kernel
theorem dX5_cycleOf_21 : decode cX5_cycleOf 21 = .ok (.invokevirtual 121, 3) := by decide +kernel
theorem dX5_cycleOf_24 : decode cX5_cycleOf 24 = .ok (.aload_n 0, 1) := by decide +kernel
theorem dX5_cycleOf_25 : decode cX5_cycleOf 25 = .ok (.getfield 22, 3) := by decide +kernel
theorem dX5_cycleOf_28 : decode cX5_cycleOf 28 = .ok (.iload_n 1, 1) := by decide +kernel
theorem dX5_cycleOf_29 : decode cX5_cycleOf 29 = .ok (.iaload, 1) := by decide +kernel
theorem dX5_cycleOf_30 : decode cX5_cycleOf 30 = .ok (.istore_n 2, 1) := by decide +kernel
theorem dX5_cycleOf_31 : decode cX5_cycleOf 31 = .ok (.iload_n 2, 1) := by decide +kernel
theorem dX5_cycleOf_32 : decode cX5_cycleOf 32 = .ok (.istore_n 3, 1) := by decide +kernel
theorem dX5_cycleOf_33 : decode cX5_cycleOf 33 = .ok (.iconst 0, 1) := by decide +kernel
theorem dX5_cycleOf_34 : decode cX5_cycleOf 34 = .ok (.istore 4, 2) := by decide +kernel
theorem dX5_cycleOf_36 : decode cX5_cycleOf 36 = .ok (.iload 4, 2) := by decide +kernel
theorem dX5_cycleOf_38 : decode cX5_cycleOf 38 = .ok (.iconst 2, 1) := by decide +kernel
theorem dX5_cycleOf_39 : decode cX5_cycleOf 39 = .ok (.aload_n 0, 1) := by decide +kernel
theorem dX5_cycleOf_40 : decode cX5_cycleOf 40 = .ok (.getfield 85, 3) := by decide +kernel
theorem dX5_cycleOf_43 : decode cX5_cycleOf 43 = .ok (.imul, 1) := by decide +kernel
theorem dX5_cycleOf_44 : decode cX5_cycleOf 44 = .ok (.if_icmp .ge 19, 3) := by decide +kernel
theorem dX5_cycleOf_47 : decode cX5_cycleOf 47 = .ok (.aload_n 0, 1) := by decide +kernel
theorem dX5_cycleOf_48 : decode cX5_cycleOf 48 = .ok (.iload_n 3, 1) := by decide +kernel
theorem dX5_cycleOf_49 : decode cX5_cycleOf 49 = .ok (.aload_n 0, 1) := by decide +kernel
theorem dX5_cycleOf_50 : decode cX5_cycleOf 50 = .ok (.getfield 34, 3) := by decide +kernel
theorem dX5_cycleOf_53 : decode cX5_cycleOf 53 = .ok (.invokevirtual 109, 3) := by decide +kernel
theorem dX5_cycleOf_56 : decode cX5_cycleOf 56 = .ok (.istore_n 3, 1) := by decide +kernel
theorem dX5_cycleOf_57 : decode cX5_cycleOf 57 = .ok (.iinc 4 1, 3) := by decide +kernel
theorem dX5_cycleOf_60 : decode cX5_cycleOf 60 = .ok (.goto (-24), 3) := by decide +kernel
theorem dX5_cycleOf_63 : decode cX5_cycleOf 63 = .ok (.iconst 0, 1) := by decide +kernel
theorem dX5_cycleOf_64 : decode cX5_cycleOf 64 = .ok (.istore 4, 2) := by decide +kernel
theorem dX5_cycleOf_66 : decode cX5_cycleOf 66 = .ok (.iload_n 2, 1) := by decide +kernel
theorem dX5_cycleOf_67 : decode cX5_cycleOf 67 = .ok (.iload_n 3, 1) := by decide +kernel
theorem dX5_cycleOf_68 : decode cX5_cycleOf 68 = .ok (.if_icmp .ne 10, 3) := by decide +kernel
theorem dX5_cycleOf_71 : decode cX5_cycleOf 71 = .ok (.aload_n 0, 1) := by decide +kernel
theorem dX5_cycleOf_72 : decode cX5_cycleOf 72 = .ok (.invokevirtual 125, 3) := by decide +kernel
theorem dX5_cycleOf_75 : decode cX5_cycleOf 75 = .ok (.ifCond .ne 29, 3) := by decide +kernel
theorem dX5_cycleOf_78 : decode cX5_cycleOf 78 = .ok (.aload_n 0, 1) := by decide +kernel
theorem dX5_cycleOf_79 : decode cX5_cycleOf 79 = .ok (.iload_n 2, 1) := by decide +kernel
theorem dX5_cycleOf_80 : decode cX5_cycleOf 80 = .ok (.aload_n 0, 1) := by decide +kernel
theorem dX5_cycleOf_81 : decode cX5_cycleOf 81 = .ok (.getfield 31, 3) := by decide +kernel
theorem dX5_cycleOf_84 : decode cX5_cycleOf 84 = .ok (.invokevirtual 109, 3) := by decide +kernel
theorem dX5_cycleOf_87 : decode cX5_cycleOf 87 = .ok (.istore_n 2, 1) := by decide +kernel
theorem dX5_cycleOf_88 : decode cX5_cycleOf 88 = .ok (.aload_n 0, 1) := by decide +kernel
theorem dX5_cycleOf_89 : decode cX5_cycleOf 89 = .ok (.iload_n 3, 1) := by decide +kernel
theorem dX5_cycleOf_90 : decode cX5_cycleOf 90 = .ok (.aload_n 0, 1) := by decide +kernel
theorem dX5_cycleOf_91 : decode cX5_cycleOf 91 = .ok (.getfield 34, 3) := by decide +kernel
theorem dX5_cycleOf_94 : decode cX5_cycleOf 94 = .ok (.invokevirtual 109, 3) := by decide +kernel
theorem dX5_cycleOf_97 : decode cX5_cycleOf 97 = .ok (.istore_n 3, 1) := by decide +kernel
theorem dX5_cycleOf_98 : decode cX5_cycleOf 98 = .ok (.iinc 4 1, 3) := by decide +kernel
theorem dX5_cycleOf_101 : decode cX5_cycleOf 101 = .ok (.goto (-35), 3) := by decide +kernel
theorem dX5_cycleOf_104 : decode cX5_cycleOf 104 = .ok (.iload 4, 2) := by decide +kernel
theorem dX5_cycleOf_106 : decode cX5_cycleOf 106 = .ok (.ireturn, 1) := by decide +kernel
set_option maxRecDepth 20000 in
theorem ggX5_stepsToCycle_X5_isWalker : GoodIn wsX5_stepsToCycle wsX5_isWalker := goodIn_r _ [5, 6, 7, 8, 4, 9, 34, 35, 36, 37, 38, 39, 40, 41, 42, 43, 44, 45, 46, 47, 48, 49, 50, 51, 52, 53, 54, 55, 56] rfl (by decide +kernel)
set_option maxRecDepth 20000 in
theorem gX5_stepsToCycle_X5_isWalker : GoodIn wsX5_stepsToCycle (wsV RX5 106 RX5 yX5_isWalker wsX5_isWalker) := goodIn_app (goodIn_of _ (by decide +kernel)) ggX5_stepsToCycle_X5_isWalker
set_option maxRecDepth 20000 in
theorem ggX5_stepsToCycle_X5_cycleOf : GoodIn wsX5_stepsToCycle wsX5_cycleOf := goodIn_r _ [13, 14, 15, 16, 17, 18, 19, 20, 21, 4, 22, 23, 24, 25, 26, 27, 28, 29, 30, 31, 32, 33, 34, 35, 36, 37, 38, 39, 40, 41, 42, 43, 44, 45, 46, 47, 48, 49, 50, 51, 52, 53, 54, 55, 56] rfl (by decide +kernel)
set_option maxRecDepth 20000 in
theorem gX5_stepsToCycle_X5_cycleOf : GoodIn wsX5_stepsToCycle (wsV RX5 128 RX5 yX5_cycleOf wsX5_cycleOf) := goodIn_app (goodIn_of _ (by decide +kernel)) ggX5_stepsToCycle_X5_cycleOf
theorem dX5_stepsToCycle_0 : decode cX5_stepsToCycle 0 = .ok (.aload_n 0, 1) := by decide +kernel
theorem dX5_stepsToCycle_1 : decode cX5_stepsToCycle 1 = .ok (.iload_n 1, 1) := by decide +kernel
theorem dX5_stepsToCycle_2 : decode cX5_stepsToCycle 2 = .ok (.invokevirtual 106, 3) := by decide +kernel
theorem dX5_stepsToCycle_5 : decode cX5_stepsToCycle 5 = .ok (.ifCond .eq 11, 3) := by decide +kernel
theorem dX5_stepsToCycle_8 : decode cX5_stepsToCycle 8 = .ok (.aload_n 0, 1) := by decide +kernel
theorem dX5_stepsToCycle_9 : decode cX5_stepsToCycle 9 = .ok (.iload_n 1, 1) := by decide +kernel
theorem dX5_stepsToCycle_10 : decode cX5_stepsToCycle 10 = .ok (.invokevirtual 128, 3) := by decide +kernel
theorem dX5_stepsToCycle_13 : decode cX5_stepsToCycle 13 = .ok (.goto 5, 3) := by decide +kernel
theorem dX5_stepsToCycle_16 : decode cX5_stepsToCycle 16 = .ok (.bipush (-5), 2) := by decide +kernel
theorem dX5_stepsToCycle_18 : decode cX5_stepsToCycle 18 = .ok (.ireturn, 1) := by decide +kernel
set_option maxRecDepth 20000 in
theorem ggX5_coverFrom_X5_go : GoodIn wsX5_coverFrom wsX5_go := goodIn_r _ [7, 8, 9, 10, 11, 12, 13, 14, 15, 16, 17, 18, 19, 20, 21, 22, 23, 24, 25, 26, 27, 28, 29, 30, 31, 32] rfl (by decide +kernel)
set_option maxRecDepth 20000 in
theorem gX5_coverFrom_X5_go : GoodIn wsX5_coverFrom (wsV RX5 109 RX5 yX5_go wsX5_go) := goodIn_app (goodIn_of _ (by decide +kernel)) ggX5_coverFrom_X5_go
theorem dX5_coverFrom_0 : decode cX5_coverFrom 0 = .ok (.iload_n 1, 1) := by decide +kernel
theorem dX5_coverFrom_1 : decode cX5_coverFrom 1 = .ok (.istore_n 2, 1) := by decide +kernel
theorem dX5_coverFrom_2 : decode cX5_coverFrom 2 = .ok (.iconst 1, 1) := by decide +kernel
theorem dX5_coverFrom_3 : decode cX5_coverFrom 3 = .ok (.iload_n 2, 1) := by decide +kernel
theorem dX5_coverFrom_4 : decode cX5_coverFrom 4 = .ok (.ishl, 1) := by decide +kernel
theorem dX5_coverFrom_5 : decode cX5_coverFrom 5 = .ok (.istore_n 3, 1) := by decide +kernel
theorem dX5_coverFrom_6 : decode cX5_coverFrom 6 = .ok (.iconst 0, 1) := by decide +kernel
theorem dX5_coverFrom_7 : decode cX5_coverFrom 7 = .ok (.istore 4, 2) := by decide +kernel
theorem dX5_coverFrom_9 : decode cX5_coverFrom 9 = .ok (.iload_n 3, 1) := by decide +kernel
theorem dX5_coverFrom_10 : decode cX5_coverFrom 10 = .ok (.iconst 1, 1) := by decide +kernel
theorem dX5_coverFrom_11 : decode cX5_coverFrom 11 = .ok (.aload_n 0, 1) := by decide +kernel
theorem dX5_coverFrom_12 : decode cX5_coverFrom 12 = .ok (.getfield 82, 3) := by decide +kernel
theorem dX5_coverFrom_15 : decode cX5_coverFrom 15 = .ok (.ishl, 1) := by decide +kernel
theorem dX5_coverFrom_16 : decode cX5_coverFrom 16 = .ok (.iconst 1, 1) := by decide +kernel
theorem dX5_coverFrom_17 : decode cX5_coverFrom 17 = .ok (.isub, 1) := by decide +kernel
theorem dX5_coverFrom_18 : decode cX5_coverFrom 18 = .ok (.if_icmp .eq 25, 3) := by decide +kernel
theorem dX5_coverFrom_21 : decode cX5_coverFrom 21 = .ok (.aload_n 0, 1) := by decide +kernel
theorem dX5_coverFrom_22 : decode cX5_coverFrom 22 = .ok (.iload_n 2, 1) := by decide +kernel
theorem dX5_coverFrom_23 : decode cX5_coverFrom 23 = .ok (.aload_n 0, 1) := by decide +kernel
theorem dX5_coverFrom_24 : decode cX5_coverFrom 24 = .ok (.getfield 31, 3) := by decide +kernel
theorem dX5_coverFrom_27 : decode cX5_coverFrom 27 = .ok (.invokevirtual 109, 3) := by decide +kernel
theorem dX5_coverFrom_30 : decode cX5_coverFrom 30 = .ok (.istore_n 2, 1) := by decide +kernel
theorem dX5_coverFrom_31 : decode cX5_coverFrom 31 = .ok (.iload_n 3, 1) := by decide +kernel
theorem dX5_coverFrom_32 : decode cX5_coverFrom 32 = .ok (.iconst 1, 1) := by decide +kernel
theorem dX5_coverFrom_33 : decode cX5_coverFrom 33 = .ok (.iload_n 2, 1) := by decide +kernel
theorem dX5_coverFrom_34 : decode cX5_coverFrom 34 = .ok (.ishl, 1) := by decide +kernel
theorem dX5_coverFrom_35 : decode cX5_coverFrom 35 = .ok (.ior, 1) := by decide +kernel
theorem dX5_coverFrom_36 : decode cX5_coverFrom 36 = .ok (.istore_n 3, 1) := by decide +kernel
theorem dX5_coverFrom_37 : decode cX5_coverFrom 37 = .ok (.iinc 4 1, 3) := by decide +kernel
theorem dX5_coverFrom_40 : decode cX5_coverFrom 40 = .ok (.goto (-31), 3) := by decide +kernel
theorem dX5_coverFrom_43 : decode cX5_coverFrom 43 = .ok (.iload 4, 2) := by decide +kernel
theorem dX5_coverFrom_45 : decode cX5_coverFrom 45 = .ok (.ireturn, 1) := by decide +kernel
set_option maxRecDepth 20000 in
theorem ggX5_coverOf_X5_copyRotors : GoodIn wsX5_coverOf wsX5_copyRotors := goodIn_r _ [8] rfl (by decide +kernel)
set_option maxRecDepth 20000 in
theorem gX5_coverOf_X5_copyRotors : GoodIn wsX5_coverOf (wsV RX5 121 RX5 yX5_copyRotors wsX5_copyRotors) := goodIn_app (goodIn_of _ (by decide +kernel)) ggX5_coverOf_X5_copyRotors
set_option maxRecDepth 20000 in
theorem ggX5_coverOf_X5_coverFrom : GoodIn wsX5_coverOf wsX5_coverFrom := goodIn_r _ [12, 13, 2, 14, 15, 16, 7, 17, 18, 19, 20, 21, 22, 23, 24, 25, 26, 27, 28, 29, 30, 31, 32, 33, 34, 35, 36, 37, 38, 39, 40, 41, 42] rfl (by decide +kernel)
set_option maxRecDepth 20000 in
theorem gX5_coverOf_X5_coverFrom : GoodIn wsX5_coverOf (wsV RX5 131 RX5 yX5_coverFrom wsX5_coverFrom) := goodIn_app (goodIn_of _ (by decide +kernel)) ggX5_coverOf_X5_coverFrom
theorem dX5_coverOf_0 : decode cX5_coverOf 0 = .ok (.aload_n 0, 1) := by decide +kernel
theorem dX5_coverOf_1 : decode cX5_coverOf 1 = .ok (.aload_n 0, 1) := by decide +kernel
theorem dX5_coverOf_2 : decode cX5_coverOf 2 = .ok (.getfield 19, 3) := by decide +kernel
theorem dX5_coverOf_5 : decode cX5_coverOf 5 = .ok (.aload_n 0, 1) := by decide +kernel
theorem dX5_coverOf_6 : decode cX5_coverOf 6 = .ok (.getfield 31, 3) := by decide +kernel
theorem dX5_coverOf_9 : decode cX5_coverOf 9 = .ok (.invokevirtual 121, 3) := by decide +kernel
theorem dX5_coverOf_12 : decode cX5_coverOf 12 = .ok (.aload_n 0, 1) := by decide +kernel
theorem dX5_coverOf_13 : decode cX5_coverOf 13 = .ok (.aload_n 0, 1) := by decide +kernel
theorem dX5_coverOf_14 : decode cX5_coverOf 14 = .ok (.getfield 22, 3) := by decide +kernel
theorem dX5_coverOf_17 : decode cX5_coverOf 17 = .ok (.iload_n 1, 1) := by decide +kernel
theorem dX5_coverOf_18 : decode cX5_coverOf 18 = .ok (.iaload, 1) := by decide +kernel
theorem dX5_coverOf_19 : decode cX5_coverOf 19 = .ok (.invokevirtual 131, 3) := by decide +kernel
theorem dX5_coverOf_22 : decode cX5_coverOf 22 = .ok (.ireturn, 1) := by decide +kernel
set_option maxRecDepth 20000 in
theorem ggX5_coverTime_X5_isWalker : GoodIn wsX5_coverTime wsX5_isWalker := goodIn_r _ [5, 6, 7, 8, 4, 9, 32, 33, 34, 35, 36, 37, 38, 39, 40, 41, 42, 43, 44, 45, 46, 47, 48, 49, 50, 51, 52, 53, 54] rfl (by decide +kernel)
set_option maxRecDepth 20000 in
theorem gX5_coverTime_X5_isWalker : GoodIn wsX5_coverTime (wsV RX5 106 RX5 yX5_isWalker wsX5_isWalker) := goodIn_app (goodIn_of _ (by decide +kernel)) ggX5_coverTime_X5_isWalker
set_option maxRecDepth 20000 in
theorem ggX5_coverTime_X5_coverOf : GoodIn wsX5_coverTime wsX5_coverOf := goodIn_r _ [13, 14, 15, 16, 17, 18, 19, 4, 20, 21, 22, 23, 24, 25, 26, 27, 28, 29, 30, 31, 32, 33, 34, 35, 36, 37, 38, 39, 40, 41, 42, 43, 44, 45, 46, 47, 48, 49, 50, 51, 52, 53, 54] rfl (by decide +kernel)
set_option maxRecDepth 20000 in
theorem gX5_coverTime_X5_coverOf : GoodIn wsX5_coverTime (wsV RX5 134 RX5 yX5_coverOf wsX5_coverOf) := goodIn_app (goodIn_of _ (by decide +kernel)) ggX5_coverTime_X5_coverOf
theorem dX5_coverTime_0 : decode cX5_coverTime 0 = .ok (.aload_n 0, 1) := by decide +kernel
theorem dX5_coverTime_1 : decode cX5_coverTime 1 = .ok (.iload_n 1, 1) := by decide +kernel
theorem dX5_coverTime_2 : decode cX5_coverTime 2 = .ok (.invokevirtual 106, 3) := by decide +kernel
theorem dX5_coverTime_5 : decode cX5_coverTime 5 = .ok (.ifCond .eq 11, 3) := by decide +kernel
theorem dX5_coverTime_8 : decode cX5_coverTime 8 = .ok (.aload_n 0, 1) := by decide +kernel
theorem dX5_coverTime_9 : decode cX5_coverTime 9 = .ok (.iload_n 1, 1) := by decide +kernel
theorem dX5_coverTime_10 : decode cX5_coverTime 10 = .ok (.invokevirtual 134, 3) := by decide +kernel
theorem dX5_coverTime_13 : decode cX5_coverTime 13 = .ok (.goto 5, 3) := by decide +kernel
theorem dX5_coverTime_16 : decode cX5_coverTime 16 = .ok (.bipush (-5), 2) := by decide +kernel
theorem dX5_coverTime_18 : decode cX5_coverTime 18 = .ok (.ireturn, 1) := by decide +kernel
theorem dX5_assignments_0 : decode cX5_assignments 0 = .ok (.iconst 1, 1) := by decide +kernel
theorem dX5_assignments_1 : decode cX5_assignments 1 = .ok (.istore_n 1, 1) := by decide +kernel
theorem dX5_assignments_2 : decode cX5_assignments 2 = .ok (.iconst 0, 1) := by decide +kernel
theorem dX5_assignments_3 : decode cX5_assignments 3 = .ok (.istore_n 2, 1) := by decide +kernel
theorem dX5_assignments_4 : decode cX5_assignments 4 = .ok (.iload_n 2, 1) := by decide +kernel
theorem dX5_assignments_5 : decode cX5_assignments 5 = .ok (.aload_n 0, 1) := by decide +kernel
theorem dX5_assignments_6 : decode cX5_assignments 6 = .ok (.getfield 82, 3) := by decide +kernel
theorem dX5_assignments_9 : decode cX5_assignments 9 = .ok (.if_icmp .ge 31, 3) := by decide +kernel
theorem dX5_assignments_12 : decode cX5_assignments 12 = .ok (.iload_n 1, 1) := by decide +kernel
theorem dX5_assignments_13 : decode cX5_assignments 13 = .ok (.aload_n 0, 1) := by decide +kernel
theorem dX5_assignments_14 : decode cX5_assignments 14 = .ok (.getfield 16, 3) := by decide +kernel
theorem dX5_assignments_17 : decode cX5_assignments 17 = .ok (.iload_n 2, 1) := by decide +kernel
theorem dX5_assignments_18 : decode cX5_assignments 18 = .ok (.iaload, 1) := by decide +kernel
theorem dX5_assignments_19 : decode cX5_assignments 19 = .ok (.ifCond .ne 7, 3) := by decide +kernel
theorem dX5_assignments_22 : decode cX5_assignments 22 = .ok (.iconst 1, 1) := by decide +kernel
theorem dX5_assignments_23 : decode cX5_assignments 23 = .ok (.goto 9, 3) := by decide +kernel
theorem dX5_assignments_26 : decode cX5_assignments 26 = .ok (.aload_n 0, 1) := by decide +kernel
theorem dX5_assignments_27 : decode cX5_assignments 27 = .ok (.getfield 16, 3) := by decide +kernel
theorem dX5_assignments_30 : decode cX5_assignments 30 = .ok (.iload_n 2, 1) := by decide +kernel
theorem dX5_assignments_31 : decode cX5_assignments 31 = .ok (.iaload, 1) := by decide +kernel
theorem dX5_assignments_32 : decode cX5_assignments 32 = .ok (.imul, 1) := by decide +kernel
theorem dX5_assignments_33 : decode cX5_assignments 33 = .ok (.istore_n 1, 1) := by decide +kernel
theorem dX5_assignments_34 : decode cX5_assignments 34 = .ok (.iinc 2 1, 3) := by decide +kernel
theorem dX5_assignments_37 : decode cX5_assignments 37 = .ok (.goto (-33), 3) := by decide +kernel
theorem dX5_assignments_40 : decode cX5_assignments 40 = .ok (.iload_n 1, 1) := by decide +kernel
theorem dX5_assignments_41 : decode cX5_assignments 41 = .ok (.ireturn, 1) := by decide +kernel
theorem dX5_layAssignment_0 : decode cX5_layAssignment 0 = .ok (.iload_n 1, 1) := by decide +kernel
theorem dX5_layAssignment_1 : decode cX5_layAssignment 1 = .ok (.istore_n 2, 1) := by decide +kernel
theorem dX5_layAssignment_2 : decode cX5_layAssignment 2 = .ok (.aload_n 0, 1) := by decide +kernel
theorem dX5_layAssignment_3 : decode cX5_layAssignment 3 = .ok (.getfield 82, 3) := by decide +kernel
theorem dX5_layAssignment_6 : decode cX5_layAssignment 6 = .ok (.iconst 1, 1) := by decide +kernel
theorem dX5_layAssignment_7 : decode cX5_layAssignment 7 = .ok (.isub, 1) := by decide +kernel
theorem dX5_layAssignment_8 : decode cX5_layAssignment 8 = .ok (.istore_n 3, 1) := by decide +kernel
theorem dX5_layAssignment_9 : decode cX5_layAssignment 9 = .ok (.iload_n 3, 1) := by decide +kernel
theorem dX5_layAssignment_10 : decode cX5_layAssignment 10 = .ok (.ifCond .lt 32, 3) := by decide +kernel
theorem dX5_layAssignment_13 : decode cX5_layAssignment 13 = .ok (.aload_n 0, 1) := by decide +kernel
theorem dX5_layAssignment_14 : decode cX5_layAssignment 14 = .ok (.getfield 31, 3) := by decide +kernel
theorem dX5_layAssignment_17 : decode cX5_layAssignment 17 = .ok (.iload_n 3, 1) := by decide +kernel
theorem dX5_layAssignment_18 : decode cX5_layAssignment 18 = .ok (.iload_n 2, 1) := by decide +kernel
theorem dX5_layAssignment_19 : decode cX5_layAssignment 19 = .ok (.aload_n 0, 1) := by decide +kernel
theorem dX5_layAssignment_20 : decode cX5_layAssignment 20 = .ok (.getfield 16, 3) := by decide +kernel
theorem dX5_layAssignment_23 : decode cX5_layAssignment 23 = .ok (.iload_n 3, 1) := by decide +kernel
theorem dX5_layAssignment_24 : decode cX5_layAssignment 24 = .ok (.iaload, 1) := by decide +kernel
theorem dX5_layAssignment_25 : decode cX5_layAssignment 25 = .ok (.irem, 1) := by decide +kernel
theorem dX5_layAssignment_26 : decode cX5_layAssignment 26 = .ok (.iastore, 1) := by decide +kernel
theorem dX5_layAssignment_27 : decode cX5_layAssignment 27 = .ok (.iload_n 2, 1) := by decide +kernel
theorem dX5_layAssignment_28 : decode cX5_layAssignment 28 = .ok (.aload_n 0, 1) := by decide +kernel
theorem dX5_layAssignment_29 : decode cX5_layAssignment 29 = .ok (.getfield 16, 3) := by decide +kernel
theorem dX5_layAssignment_32 : decode cX5_layAssignment 32 = .ok (.iload_n 3, 1) := by decide +kernel
theorem dX5_layAssignment_33 : decode cX5_layAssignment 33 = .ok (.iaload, 1) := by decide +kernel
theorem dX5_layAssignment_34 : decode cX5_layAssignment 34 = .ok (.idiv, 1) := by decide +kernel
theorem dX5_layAssignment_35 : decode cX5_layAssignment 35 = .ok (.istore_n 2, 1) := by decide +kernel
theorem dX5_layAssignment_36 : decode cX5_layAssignment 36 = .ok (.iinc 3 (-1), 3) := by decide +kernel
theorem dX5_layAssignment_39 : decode cX5_layAssignment 39 = .ok (.goto (-30), 3) := by decide +kernel
theorem dX5_layAssignment_42 : decode cX5_layAssignment 42 = .ok (.return_, 1) := by decide +kernel
set_option maxRecDepth 20000 in
theorem ggX5_leastFrom_X5_assignments : GoodIn wsX5_leastFrom wsX5_assignments := goodIn_r _ [7, 8, 9, 24, 25, 26, 27, 28, 29, 30, 31, 32, 33, 34, 35, 36, 37, 38, 39, 40, 41, 42, 43, 44, 45, 46] rfl (by decide +kernel)
set_option maxRecDepth 20000 in
theorem gX5_leastFrom_X5_assignments : GoodIn wsX5_leastFrom (wsV RX5 137 RX5 yX5_assignments wsX5_assignments) := goodIn_app (goodIn_of _ (by decide +kernel)) ggX5_leastFrom_X5_assignments
set_option maxRecDepth 20000 in
theorem ggX5_leastFrom_X5_layAssignment : GoodIn wsX5_leastFrom wsX5_layAssignment := goodIn_r _ [13, 8, 14, 9, 24, 25, 26, 27, 28, 29, 30, 31, 32, 33, 34, 35, 36, 37, 38, 39, 40, 41, 42, 43, 44, 45, 46] rfl (by decide +kernel)
set_option maxRecDepth 20000 in
theorem gX5_leastFrom_X5_layAssignment : GoodIn wsX5_leastFrom (wsV RX5 141 RX5 yX5_layAssignment wsX5_layAssignment) := goodIn_app (goodIn_of _ (by decide +kernel)) ggX5_leastFrom_X5_layAssignment
set_option maxRecDepth 20000 in
theorem ggX5_leastFrom_X5_coverFrom : GoodIn wsX5_leastFrom wsX5_coverFrom := goodIn_r _ [18, 8, 14, 19, 20, 21, 6, 22, 23, 9, 24, 25, 26, 27, 28, 29, 30, 31, 32, 33, 34, 35, 36, 37, 38, 39, 40, 41, 42, 43, 44, 45, 46] rfl (by decide +kernel)
set_option maxRecDepth 20000 in
theorem gX5_leastFrom_X5_coverFrom : GoodIn wsX5_leastFrom (wsV RX5 131 RX5 yX5_coverFrom wsX5_coverFrom) := goodIn_app (goodIn_of _ (by decide +kernel)) ggX5_leastFrom_X5_coverFrom
theorem dX5_leastFrom_0 : decode cX5_leastFrom 0 = .ok (.aload_n 0, 1) := by decide +kernel
theorem dX5_leastFrom_1 : decode cX5_leastFrom 1 = .ok (.invokevirtual 137, 3) := by decide +kernel
theorem dX5_leastFrom_4 : decode cX5_leastFrom 4 = .ok (.istore_n 2, 1) := by decide +kernel
theorem dX5_leastFrom_5 : decode cX5_leastFrom 5 = .ok (.ldc 140, 2) := by decide +kernel
theorem dX5_leastFrom_7 : decode cX5_leastFrom 7 = .ok (.istore_n 3, 1) := by decide +kernel
theorem dX5_leastFrom_8 : decode cX5_leastFrom 8 = .ok (.iconst 0, 1) := by decide +kernel
theorem dX5_leastFrom_9 : decode cX5_leastFrom 9 = .ok (.istore 4, 2) := by decide +kernel
theorem dX5_leastFrom_11 : decode cX5_leastFrom 11 = .ok (.iload 4, 2) := by decide +kernel
theorem dX5_leastFrom_13 : decode cX5_leastFrom 13 = .ok (.iload_n 2, 1) := by decide +kernel
theorem dX5_leastFrom_14 : decode cX5_leastFrom 14 = .ok (.if_icmp .ge 54, 3) := by decide +kernel
theorem dX5_leastFrom_17 : decode cX5_leastFrom 17 = .ok (.aload_n 0, 1) := by decide +kernel
theorem dX5_leastFrom_18 : decode cX5_leastFrom 18 = .ok (.iload 4, 2) := by decide +kernel
theorem dX5_leastFrom_20 : decode cX5_leastFrom 20 = .ok (.invokevirtual 141, 3) := by decide +kernel
theorem dX5_leastFrom_23 : decode cX5_leastFrom 23 = .ok (.aload_n 0, 1) := by decide +kernel
theorem dX5_leastFrom_24 : decode cX5_leastFrom 24 = .ok (.iload_n 1, 1) := by decide +kernel
theorem dX5_leastFrom_25 : decode cX5_leastFrom 25 = .ok (.invokevirtual 131, 3) := by decide +kernel
theorem dX5_leastFrom_28 : decode cX5_leastFrom 28 = .ok (.istore 5, 2) := by decide +kernel
theorem dX5_leastFrom_30 : decode cX5_leastFrom 30 = .ok (.aload_n 0, 1) := by decide +kernel
theorem dX5_leastFrom_31 : decode cX5_leastFrom 31 = .ok (.iload 5, 2) := by decide +kernel
theorem dX5_leastFrom_33 : decode cX5_leastFrom 33 = .ok (.iload_n 3, 1) := by decide +kernel
theorem dX5_leastFrom_34 : decode cX5_leastFrom 34 = .ok (.if_icmp .ge 8, 3) := by decide +kernel
theorem dX5_leastFrom_37 : decode cX5_leastFrom 37 = .ok (.iload 4, 2) := by decide +kernel
theorem dX5_leastFrom_39 : decode cX5_leastFrom 39 = .ok (.goto 7, 3) := by decide +kernel
theorem dX5_leastFrom_42 : decode cX5_leastFrom 42 = .ok (.aload_n 0, 1) := by decide +kernel
theorem dX5_leastFrom_43 : decode cX5_leastFrom 43 = .ok (.getfield 144, 3) := by decide +kernel
theorem dX5_leastFrom_46 : decode cX5_leastFrom 46 = .ok (.putfield 144, 3) := by decide +kernel
theorem dX5_leastFrom_49 : decode cX5_leastFrom 49 = .ok (.iload 5, 2) := by decide +kernel
theorem dX5_leastFrom_51 : decode cX5_leastFrom 51 = .ok (.iload_n 3, 1) := by decide +kernel
theorem dX5_leastFrom_52 : decode cX5_leastFrom 52 = .ok (.if_icmp .ge 8, 3) := by decide +kernel
theorem dX5_leastFrom_55 : decode cX5_leastFrom 55 = .ok (.iload 5, 2) := by decide +kernel
theorem dX5_leastFrom_57 : decode cX5_leastFrom 57 = .ok (.goto 4, 3) := by decide +kernel
theorem dX5_leastFrom_60 : decode cX5_leastFrom 60 = .ok (.iload_n 3, 1) := by decide +kernel
theorem dX5_leastFrom_61 : decode cX5_leastFrom 61 = .ok (.istore_n 3, 1) := by decide +kernel
theorem dX5_leastFrom_62 : decode cX5_leastFrom 62 = .ok (.iinc 4 1, 3) := by decide +kernel
theorem dX5_leastFrom_65 : decode cX5_leastFrom 65 = .ok (.goto (-54), 3) := by decide +kernel
theorem dX5_leastFrom_68 : decode cX5_leastFrom 68 = .ok (.iload_n 3, 1) := by decide +kernel
theorem dX5_leastFrom_69 : decode cX5_leastFrom 69 = .ok (.ireturn, 1) := by decide +kernel
set_option maxRecDepth 20000 in
theorem ggX5_leastCoverTime_X5_isNode : GoodIn wsX5_leastCoverTime wsX5_isNode := goodIn_r _ [5, 6, 7, 8, 4, 9, 35, 36, 37, 38, 39, 40, 41, 42, 43, 44, 45, 46, 47, 48, 49, 50, 51, 52, 53, 54, 55, 56, 57] rfl (by decide +kernel)
set_option maxRecDepth 20000 in
theorem gX5_leastCoverTime_X5_isNode : GoodIn wsX5_leastCoverTime (wsV RX5 99 RX5 yX5_isNode wsX5_isNode) := goodIn_app (goodIn_of _ (by decide +kernel)) ggX5_leastCoverTime_X5_isNode
set_option maxRecDepth 20000 in
theorem ggX5_leastCoverTime_X5_assignments : GoodIn wsX5_leastCoverTime wsX5_assignments := goodIn_r _ [13, 6, 14, 35, 36, 37, 38, 39, 40, 41, 42, 43, 44, 45, 46, 47, 48, 49, 50, 51, 52, 53, 54, 55, 56, 57] rfl (by decide +kernel)
set_option maxRecDepth 20000 in
theorem gX5_leastCoverTime_X5_assignments : GoodIn wsX5_leastCoverTime (wsV RX5 137 RX5 yX5_assignments wsX5_assignments) := goodIn_app (goodIn_of _ (by decide +kernel)) ggX5_leastCoverTime_X5_assignments
set_option maxRecDepth 20000 in
theorem ggX5_leastCoverTime_X5_leastFrom : GoodIn wsX5_leastCoverTime wsX5_leastFrom := goodIn_r _ [18, 19, 20, 10, 11, 12, 4, 13, 6, 14, 21, 22, 23, 24, 25, 26, 27, 28, 29, 30, 31, 32, 33, 34, 35, 36, 37, 38, 39, 40, 41, 42, 43, 44, 45, 46, 47, 48, 49, 50, 51, 52, 53, 54, 55, 56, 57] rfl (by decide +kernel)
set_option maxRecDepth 20000 in
theorem gX5_leastCoverTime_X5_leastFrom : GoodIn wsX5_leastCoverTime (wsV RX5 147 RX5 yX5_leastFrom wsX5_leastFrom) := goodIn_app (goodIn_of _ (by decide +kernel)) ggX5_leastCoverTime_X5_leastFrom
theorem dX5_leastCoverTime_0 : decode cX5_leastCoverTime 0 = .ok (.aload_n 0, 1) := by decide +kernel
theorem dX5_leastCoverTime_1 : decode cX5_leastCoverTime 1 = .ok (.iload_n 1, 1) := by decide +kernel
theorem dX5_leastCoverTime_2 : decode cX5_leastCoverTime 2 = .ok (.invokevirtual 99, 3) := by decide +kernel
theorem dX5_leastCoverTime_5 : decode cX5_leastCoverTime 5 = .ok (.ifCond .ne 6, 3) := by decide +kernel
theorem dX5_leastCoverTime_8 : decode cX5_leastCoverTime 8 = .ok (.bipush (-4), 2) := by decide +kernel
theorem dX5_leastCoverTime_10 : decode cX5_leastCoverTime 10 = .ok (.ireturn, 1) := by decide +kernel
theorem dX5_leastCoverTime_11 : decode cX5_leastCoverTime 11 = .ok (.aload_n 0, 1) := by decide +kernel
theorem dX5_leastCoverTime_12 : decode cX5_leastCoverTime 12 = .ok (.invokevirtual 137, 3) := by decide +kernel
theorem dX5_leastCoverTime_15 : decode cX5_leastCoverTime 15 = .ok (.sipush 2000, 3) := by decide +kernel
theorem dX5_leastCoverTime_18 : decode cX5_leastCoverTime 18 = .ok (.if_icmp .le 8, 3) := by decide +kernel
theorem dX5_leastCoverTime_21 : decode cX5_leastCoverTime 21 = .ok (.bipush (-8), 2) := by decide +kernel
theorem dX5_leastCoverTime_23 : decode cX5_leastCoverTime 23 = .ok (.goto 8, 3) := by decide +kernel
theorem dX5_leastCoverTime_26 : decode cX5_leastCoverTime 26 = .ok (.aload_n 0, 1) := by decide +kernel
theorem dX5_leastCoverTime_27 : decode cX5_leastCoverTime 27 = .ok (.iload_n 1, 1) := by decide +kernel
theorem dX5_leastCoverTime_28 : decode cX5_leastCoverTime 28 = .ok (.invokevirtual 147, 3) := by decide +kernel
theorem dX5_leastCoverTime_31 : decode cX5_leastCoverTime 31 = .ok (.ireturn, 1) := by decide +kernel
set_option maxRecDepth 20000 in
theorem ggX5_bestRotor_X5_isNode : GoodIn wsX5_bestRotor wsX5_isNode := goodIn_r _ [7, 8, 9, 10, 6, 11, 35, 36, 37, 38, 39, 40, 41, 42, 43, 44, 45, 46, 47, 48, 49, 50, 51, 52, 53, 54, 55, 56, 57] rfl (by decide +kernel)
set_option maxRecDepth 20000 in
theorem gX5_bestRotor_X5_isNode : GoodIn wsX5_bestRotor (wsV RX5 99 RX5 yX5_isNode wsX5_isNode) := goodIn_app (goodIn_of _ (by decide +kernel)) ggX5_bestRotor_X5_isNode
set_option maxRecDepth 20000 in
theorem ggX5_bestRotor_X5_assignments : GoodIn wsX5_bestRotor wsX5_assignments := goodIn_r _ [15, 8, 16, 35, 36, 37, 38, 39, 40, 41, 42, 43, 44, 45, 46, 47, 48, 49, 50, 51, 52, 53, 54, 55, 56, 57] rfl (by decide +kernel)
set_option maxRecDepth 20000 in
theorem gX5_bestRotor_X5_assignments : GoodIn wsX5_bestRotor (wsV RX5 137 RX5 yX5_assignments wsX5_assignments) := goodIn_app (goodIn_of _ (by decide +kernel)) ggX5_bestRotor_X5_assignments
set_option maxRecDepth 20000 in
theorem ggX5_bestRotor_X5_leastFrom : GoodIn wsX5_bestRotor wsX5_leastFrom := goodIn_r _ [20, 21, 1, 12, 13, 14, 6, 15, 8, 16, 22, 23, 24, 25, 2, 26, 27, 28, 29, 30, 31, 32, 33, 34, 35, 36, 37, 38, 39, 40, 41, 42, 43, 44, 45, 46, 47, 48, 49, 50, 51, 52, 53, 54, 55, 56, 57] rfl (by decide +kernel)
set_option maxRecDepth 20000 in
theorem gX5_bestRotor_X5_leastFrom : GoodIn wsX5_bestRotor (wsV RX5 147 RX5 yX5_leastFrom wsX5_leastFrom) := goodIn_app (goodIn_of _ (by decide +kernel)) ggX5_bestRotor_X5_leastFrom
set_option maxRecDepth 20000 in
theorem ggX5_bestRotor_X5_layAssignment : GoodIn wsX5_bestRotor wsX5_layAssignment := goodIn_r _ [25, 8, 2, 16, 35, 36, 37, 38, 39, 40, 41, 42, 43, 44, 45, 46, 47, 48, 49, 50, 51, 52, 53, 54, 55, 56, 57] rfl (by decide +kernel)
set_option maxRecDepth 20000 in
theorem gX5_bestRotor_X5_layAssignment : GoodIn wsX5_bestRotor (wsV RX5 141 RX5 yX5_layAssignment wsX5_layAssignment) := goodIn_app (goodIn_of _ (by decide +kernel)) ggX5_bestRotor_X5_layAssignment
theorem dX5_bestRotor_0 : decode cX5_bestRotor 0 = .ok (.aload_n 0, 1) := by decide +kernel
theorem dX5_bestRotor_1 : decode cX5_bestRotor 1 = .ok (.iload_n 1, 1) := by decide +kernel
theorem dX5_bestRotor_2 : decode cX5_bestRotor 2 = .ok (.invokevirtual 99, 3) := by decide +kernel
theorem dX5_bestRotor_5 : decode cX5_bestRotor 5 = .ok (.ifCond .eq 11, 3) := by decide +kernel
theorem dX5_bestRotor_8 : decode cX5_bestRotor 8 = .ok (.aload_n 0, 1) := by decide +kernel
theorem dX5_bestRotor_9 : decode cX5_bestRotor 9 = .ok (.iload_n 2, 1) := by decide +kernel
theorem dX5_bestRotor_10 : decode cX5_bestRotor 10 = .ok (.invokevirtual 99, 3) := by decide +kernel
theorem dX5_bestRotor_13 : decode cX5_bestRotor 13 = .ok (.ifCond .ne 6, 3) := by decide +kernel
theorem dX5_bestRotor_16 : decode cX5_bestRotor 16 = .ok (.bipush (-4), 2) := by decide +kernel
theorem dX5_bestRotor_18 : decode cX5_bestRotor 18 = .ok (.ireturn, 1) := by decide +kernel
theorem dX5_bestRotor_19 : decode cX5_bestRotor 19 = .ok (.aload_n 0, 1) := by decide +kernel
theorem dX5_bestRotor_20 : decode cX5_bestRotor 20 = .ok (.invokevirtual 137, 3) := by decide +kernel
theorem dX5_bestRotor_23 : decode cX5_bestRotor 23 = .ok (.sipush 2000, 3) := by decide +kernel
theorem dX5_bestRotor_26 : decode cX5_bestRotor 26 = .ok (.if_icmp .le 6, 3) := by decide +kernel
theorem dX5_bestRotor_29 : decode cX5_bestRotor 29 = .ok (.bipush (-8), 2) := by decide +kernel
theorem dX5_bestRotor_31 : decode cX5_bestRotor 31 = .ok (.ireturn, 1) := by decide +kernel
theorem dX5_bestRotor_32 : decode cX5_bestRotor 32 = .ok (.aload_n 0, 1) := by decide +kernel
theorem dX5_bestRotor_33 : decode cX5_bestRotor 33 = .ok (.iload_n 1, 1) := by decide +kernel
theorem dX5_bestRotor_34 : decode cX5_bestRotor 34 = .ok (.invokevirtual 147, 3) := by decide +kernel
theorem dX5_bestRotor_37 : decode cX5_bestRotor 37 = .ok (.istore_n 3, 1) := by decide +kernel
theorem dX5_bestRotor_38 : decode cX5_bestRotor 38 = .ok (.aload_n 0, 1) := by decide +kernel
theorem dX5_bestRotor_39 : decode cX5_bestRotor 39 = .ok (.aload_n 0, 1) := by decide +kernel
theorem dX5_bestRotor_40 : decode cX5_bestRotor 40 = .ok (.getfield 144, 3) := by decide +kernel
theorem dX5_bestRotor_43 : decode cX5_bestRotor 43 = .ok (.invokevirtual 141, 3) := by decide +kernel
theorem dX5_bestRotor_46 : decode cX5_bestRotor 46 = .ok (.aload_n 0, 1) := by decide +kernel
theorem dX5_bestRotor_47 : decode cX5_bestRotor 47 = .ok (.getfield 31, 3) := by decide +kernel
theorem dX5_bestRotor_50 : decode cX5_bestRotor 50 = .ok (.iload_n 2, 1) := by decide +kernel
theorem dX5_bestRotor_51 : decode cX5_bestRotor 51 = .ok (.iaload, 1) := by decide +kernel
theorem dX5_bestRotor_52 : decode cX5_bestRotor 52 = .ok (.ireturn, 1) := by decide +kernel
theorem dX5_spread_0 : decode cX5_spread 0 = .ok (.iconst 0, 1) := by decide +kernel
theorem dX5_spread_1 : decode cX5_spread 1 = .ok (.istore_n 1, 1) := by decide +kernel
theorem dX5_spread_2 : decode cX5_spread 2 = .ok (.iload_n 1, 1) := by decide +kernel
theorem dX5_spread_3 : decode cX5_spread 3 = .ok (.bipush 8, 2) := by decide +kernel
theorem dX5_spread_5 : decode cX5_spread 5 = .ok (.if_icmp .ge 16, 3) := by decide +kernel
theorem dX5_spread_8 : decode cX5_spread 8 = .ok (.aload_n 0, 1) := by decide +kernel
theorem dX5_spread_9 : decode cX5_spread 9 = .ok (.getfield 41, 3) := by decide +kernel
theorem dX5_spread_12 : decode cX5_spread 12 = .ok (.iload_n 1, 1) := by decide +kernel
theorem dX5_spread_13 : decode cX5_spread 13 = .ok (.dconst 0, 1) := by decide +kernel
theorem dX5_spread_14 : decode cX5_spread 14 = .ok (.dastore, 1) := by decide +kernel
theorem dX5_spread_15 : decode cX5_spread 15 = .ok (.iinc 1 1, 3) := by decide +kernel
theorem dX5_spread_18 : decode cX5_spread 18 = .ok (.goto (-16), 3) := by decide +kernel
theorem dX5_spread_21 : decode cX5_spread 21 = .ok (.iconst 0, 1) := by decide +kernel
theorem dX5_spread_22 : decode cX5_spread 22 = .ok (.istore_n 1, 1) := by decide +kernel
theorem dX5_spread_23 : decode cX5_spread 23 = .ok (.iload_n 1, 1) := by decide +kernel
theorem dX5_spread_24 : decode cX5_spread 24 = .ok (.aload_n 0, 1) := by decide +kernel
theorem dX5_spread_25 : decode cX5_spread 25 = .ok (.getfield 82, 3) := by decide +kernel
theorem dX5_spread_28 : decode cX5_spread 28 = .ok (.if_icmp .ge 60, 3) := by decide +kernel
theorem dX5_spread_31 : decode cX5_spread 31 = .ok (.iconst 0, 1) := by decide +kernel
theorem dX5_spread_32 : decode cX5_spread 32 = .ok (.istore_n 2, 1) := by decide +kernel
theorem dX5_spread_33 : decode cX5_spread 33 = .ok (.iload_n 2, 1) := by decide +kernel
theorem dX5_spread_34 : decode cX5_spread 34 = .ok (.aload_n 0, 1) := by decide +kernel
theorem dX5_spread_35 : decode cX5_spread 35 = .ok (.getfield 16, 3) := by decide +kernel
theorem dX5_spread_38 : decode cX5_spread 38 = .ok (.iload_n 1, 1) := by decide +kernel
theorem dX5_spread_39 : decode cX5_spread 39 = .ok (.iaload, 1) := by decide +kernel
theorem dX5_spread_40 : decode cX5_spread 40 = .ok (.if_icmp .ge 42, 3) := by decide +kernel
theorem dX5_spread_43 : decode cX5_spread 43 = .ok (.aload_n 0, 1) := by decide +kernel
theorem dX5_spread_44 : decode cX5_spread 44 = .ok (.getfield 41, 3) := by decide +kernel
theorem dX5_spread_47 : decode cX5_spread 47 = .ok (.aload_n 0, 1) := by decide +kernel
theorem dX5_spread_48 : decode cX5_spread 48 = .ok (.getfield 13, 3) := by decide +kernel
theorem dX5_spread_51 : decode cX5_spread 51 = .ok (.bipush 8, 2) := by decide +kernel
theorem dX5_spread_53 : decode cX5_spread 53 = .ok (.iload_n 1, 1) := by decide +kernel
theorem dX5_spread_54 : decode cX5_spread 54 = .ok (.imul, 1) := by decide +kernel
theorem dX5_spread_55 : decode cX5_spread 55 = .ok (.iload_n 2, 1) := by decide +kernel
theorem dX5_spread_56 : decode cX5_spread 56 = .ok (.iadd, 1) := by decide +kernel
theorem dX5_spread_57 : decode cX5_spread 57 = .ok (.iaload, 1) := by decide +kernel
theorem dX5_spread_58 : decode cX5_spread 58 = .ok (.dup2, 1) := by decide +kernel
theorem dX5_spread_59 : decode cX5_spread 59 = .ok (.daload, 1) := by decide +kernel
theorem dX5_spread_60 : decode cX5_spread 60 = .ok (.aload_n 0, 1) := by decide +kernel
theorem dX5_spread_61 : decode cX5_spread 61 = .ok (.getfield 37, 3) := by decide +kernel
theorem dX5_spread_64 : decode cX5_spread 64 = .ok (.iload_n 1, 1) := by decide +kernel
theorem dX5_spread_65 : decode cX5_spread 65 = .ok (.daload, 1) := by decide +kernel
theorem dX5_spread_66 : decode cX5_spread 66 = .ok (.aload_n 0, 1) := by decide +kernel
theorem dX5_spread_67 : decode cX5_spread 67 = .ok (.getfield 16, 3) := by decide +kernel
theorem dX5_spread_70 : decode cX5_spread 70 = .ok (.iload_n 1, 1) := by decide +kernel
theorem dX5_spread_71 : decode cX5_spread 71 = .ok (.iaload, 1) := by decide +kernel
theorem dX5_spread_72 : decode cX5_spread 72 = .ok (.i2d, 1) := by decide +kernel
theorem dX5_spread_73 : decode cX5_spread 73 = .ok (.ddiv, 1) := by decide +kernel
theorem dX5_spread_74 : decode cX5_spread 74 = .ok (.dadd, 1) := by decide +kernel
theorem dX5_spread_75 : decode cX5_spread 75 = .ok (.dastore, 1) := by decide +kernel
theorem dX5_spread_76 : decode cX5_spread 76 = .ok (.iinc 2 1, 3) := by decide +kernel
theorem dX5_spread_79 : decode cX5_spread 79 = .ok (.goto (-46), 3) := by decide +kernel
theorem dX5_spread_82 : decode cX5_spread 82 = .ok (.iinc 1 1, 3) := by decide +kernel
theorem dX5_spread_85 : decode cX5_spread 85 = .ok (.goto (-62), 3) := by decide +kernel
theorem dX5_spread_88 : decode cX5_spread 88 = .ok (.iconst 0, 1) := by decide +kernel
theorem dX5_spread_89 : decode cX5_spread 89 = .ok (.istore_n 1, 1) := by decide +kernel
theorem dX5_spread_90 : decode cX5_spread 90 = .ok (.iload_n 1, 1) := by decide +kernel
theorem dX5_spread_91 : decode cX5_spread 91 = .ok (.bipush 8, 2) := by decide +kernel
theorem dX5_spread_93 : decode cX5_spread 93 = .ok (.if_icmp .ge 21, 3) := by decide +kernel
theorem dX5_spread_96 : decode cX5_spread 96 = .ok (.aload_n 0, 1) := by decide +kernel
theorem dX5_spread_97 : decode cX5_spread 97 = .ok (.getfield 37, 3) := by decide +kernel
theorem dX5_spread_100 : decode cX5_spread 100 = .ok (.iload_n 1, 1) := by decide +kernel
theorem dX5_spread_101 : decode cX5_spread 101 = .ok (.aload_n 0, 1) := by decide +kernel
theorem dX5_spread_102 : decode cX5_spread 102 = .ok (.getfield 41, 3) := by decide +kernel
theorem dX5_spread_105 : decode cX5_spread 105 = .ok (.iload_n 1, 1) := by decide +kernel
theorem dX5_spread_106 : decode cX5_spread 106 = .ok (.daload, 1) := by decide +kernel
theorem dX5_spread_107 : decode cX5_spread 107 = .ok (.dastore, 1) := by decide +kernel
theorem dX5_spread_108 : decode cX5_spread 108 = .ok (.iinc 1 1, 3) := by decide +kernel
theorem dX5_spread_111 : decode cX5_spread 111 = .ok (.goto (-21), 3) := by decide +kernel
theorem dX5_spread_114 : decode cX5_spread 114 = .ok (.return_, 1) := by decide +kernel
set_option maxRecDepth 20000 in
theorem ggX5_expected_X5_spread : GoodIn wsX5_expected wsX5_spread := goodIn_r _ [6, 7, 8, 9, 10, 1, 23, 24, 25, 26, 27, 28, 29, 30, 31, 32, 33, 34, 35, 36, 37, 38, 39, 40, 41, 42, 43, 44, 45] rfl (by decide +kernel)
set_option maxRecDepth 20000 in
theorem gX5_expected_X5_spread : GoodIn wsX5_expected (wsV RX5 150 RX5 yX5_spread wsX5_spread) := goodIn_app (goodIn_of _ (by decide +kernel)) ggX5_expected_X5_spread
set_option maxRecDepth 20000 in
theorem ggX5_expected_Jxe99ae_doubleToLongBits_ccdee : GoodIn wsX5_expected wsJxe99ae_doubleToLongBits_ccdee := goodIn_r _ [14, 15, 16, 17, 18, 19, 20, 21, 13, 22] rfl (by decide +kernel)
set_option maxRecDepth 20000 in
theorem gX5_expected_Jxe99ae_doubleToLongBits_ccdee : GoodIn wsX5_expected (va_wsS RX5 153 yJxe99ae_doubleToLongBits_ccdee wsJxe99ae_doubleToLongBits_ccdee) := goodIn_app (goodIn_of _ (by decide +kernel)) ggX5_expected_Jxe99ae_doubleToLongBits_ccdee
theorem dX5_expected_0 : decode cX5_expected 0 = .ok (.iconst 0, 1) := by decide +kernel
theorem dX5_expected_1 : decode cX5_expected 1 = .ok (.istore 4, 2) := by decide +kernel
theorem dX5_expected_3 : decode cX5_expected 3 = .ok (.iload 4, 2) := by decide +kernel
theorem dX5_expected_5 : decode cX5_expected 5 = .ok (.bipush 8, 2) := by decide +kernel
theorem dX5_expected_7 : decode cX5_expected 7 = .ok (.if_icmp .ge 27, 3) := by decide +kernel
theorem dX5_expected_10 : decode cX5_expected 10 = .ok (.aload_n 0, 1) := by decide +kernel
theorem dX5_expected_11 : decode cX5_expected 11 = .ok (.getfield 37, 3) := by decide +kernel
theorem dX5_expected_14 : decode cX5_expected 14 = .ok (.iload 4, 2) := by decide +kernel
theorem dX5_expected_16 : decode cX5_expected 16 = .ok (.iload 4, 2) := by decide +kernel
theorem dX5_expected_18 : decode cX5_expected 18 = .ok (.iload_n 1, 1) := by decide +kernel
theorem dX5_expected_19 : decode cX5_expected 19 = .ok (.if_icmp .ne 7, 3) := by decide +kernel
theorem dX5_expected_22 : decode cX5_expected 22 = .ok (.dconst 1, 1) := by decide +kernel
theorem dX5_expected_23 : decode cX5_expected 23 = .ok (.goto 4, 3) := by decide +kernel
theorem dX5_expected_26 : decode cX5_expected 26 = .ok (.dconst 0, 1) := by decide +kernel
theorem dX5_expected_27 : decode cX5_expected 27 = .ok (.dastore, 1) := by decide +kernel
theorem dX5_expected_28 : decode cX5_expected 28 = .ok (.iinc 4 1, 3) := by decide +kernel
theorem dX5_expected_31 : decode cX5_expected 31 = .ok (.goto (-28), 3) := by decide +kernel
theorem dX5_expected_34 : decode cX5_expected 34 = .ok (.dconst 0, 1) := by decide +kernel
theorem dX5_expected_35 : decode cX5_expected 35 = .ok (.dstore 4, 2) := by decide +kernel
theorem dX5_expected_37 : decode cX5_expected 37 = .ok (.iconst 0, 1) := by decide +kernel
theorem dX5_expected_38 : decode cX5_expected 38 = .ok (.istore 6, 2) := by decide +kernel
theorem dX5_expected_40 : decode cX5_expected 40 = .ok (.iload 6, 2) := by decide +kernel
theorem dX5_expected_42 : decode cX5_expected 42 = .ok (.iload_n 2, 1) := by decide +kernel
theorem dX5_expected_43 : decode cX5_expected 43 = .ok (.if_icmp .ge 24, 3) := by decide +kernel
theorem dX5_expected_46 : decode cX5_expected 46 = .ok (.aload_n 0, 1) := by decide +kernel
theorem dX5_expected_47 : decode cX5_expected 47 = .ok (.invokevirtual 150, 3) := by decide +kernel
theorem dX5_expected_50 : decode cX5_expected 50 = .ok (.dload 4, 2) := by decide +kernel
theorem dX5_expected_52 : decode cX5_expected 52 = .ok (.aload_n 0, 1) := by decide +kernel
theorem dX5_expected_53 : decode cX5_expected 53 = .ok (.getfield 37, 3) := by decide +kernel
theorem dX5_expected_56 : decode cX5_expected 56 = .ok (.iload_n 3, 1) := by decide +kernel
theorem dX5_expected_57 : decode cX5_expected 57 = .ok (.daload, 1) := by decide +kernel
theorem dX5_expected_58 : decode cX5_expected 58 = .ok (.dadd, 1) := by decide +kernel
theorem dX5_expected_59 : decode cX5_expected 59 = .ok (.dstore 4, 2) := by decide +kernel
theorem dX5_expected_61 : decode cX5_expected 61 = .ok (.iinc 6 1, 3) := by decide +kernel
theorem dX5_expected_64 : decode cX5_expected 64 = .ok (.goto (-24), 3) := by decide +kernel
theorem dX5_expected_67 : decode cX5_expected 67 = .ok (.dload 4, 2) := by decide +kernel
theorem dX5_expected_69 : decode cX5_expected 69 = .ok (.invokestatic 153, 3) := by decide +kernel
theorem dX5_expected_72 : decode cX5_expected 72 = .ok (.lreturn, 1) := by decide +kernel
set_option maxRecDepth 20000 in
theorem ggX5_expectedArrivals_X5_isNode : GoodIn wsX5_expectedArrivals wsX5_isNode := goodIn_r _ [7, 8, 9, 10, 6, 11, 36, 37, 38, 39, 40, 41, 42, 43, 44, 45, 46, 47, 48, 49, 50, 51, 52, 53, 54, 55, 56, 57, 58] rfl (by decide +kernel)
set_option maxRecDepth 20000 in
theorem gX5_expectedArrivals_X5_isNode : GoodIn wsX5_expectedArrivals (wsV RX5 99 RX5 yX5_isNode wsX5_isNode) := goodIn_app (goodIn_of _ (by decide +kernel)) ggX5_expectedArrivals_X5_isNode
set_option maxRecDepth 20000 in
theorem ggX5_expectedArrivals_X5_within : GoodIn wsX5_expectedArrivals wsX5_within := goodIn_r _ [11] rfl (by decide +kernel)
set_option maxRecDepth 20000 in
theorem gX5_expectedArrivals_X5_within : GoodIn wsX5_expectedArrivals (va_wsS RX5 56 yX5_within wsX5_within) := goodIn_app (goodIn_of _ (by decide +kernel)) ggX5_expectedArrivals_X5_within
set_option maxRecDepth 20000 in
theorem ggX5_expectedArrivals_X5_expected : GoodIn wsX5_expectedArrivals wsX5_expected := goodIn_r _ [15, 16, 17, 18, 19, 6, 20, 21, 8, 22, 23, 24, 25, 26, 27, 28, 29, 30, 31, 32, 33, 34, 35, 36, 37, 38, 39, 40, 41, 42, 43, 44, 45, 46, 47, 48, 49, 50, 51, 52, 53, 54, 55, 56, 57, 58] rfl (by decide +kernel)
set_option maxRecDepth 20000 in
theorem gX5_expectedArrivals_X5_expected : GoodIn wsX5_expectedArrivals (wsV RX5 161 RX5 yX5_expected wsX5_expected) := goodIn_app (goodIn_of _ (by decide +kernel)) ggX5_expectedArrivals_X5_expected
theorem dX5_expectedArrivals_0 : decode cX5_expectedArrivals 0 = .ok (.aload_n 0, 1) := by decide +kernel
theorem dX5_expectedArrivals_1 : decode cX5_expectedArrivals 1 = .ok (.iload_n 1, 1) := by decide +kernel
theorem dX5_expectedArrivals_2 : decode cX5_expectedArrivals 2 = .ok (.invokevirtual 99, 3) := by decide +kernel
theorem dX5_expectedArrivals_5 : decode cX5_expectedArrivals 5 = .ok (.ifCond .eq 11, 3) := by decide +kernel
theorem dX5_expectedArrivals_8 : decode cX5_expectedArrivals 8 = .ok (.aload_n 0, 1) := by decide +kernel
theorem dX5_expectedArrivals_9 : decode cX5_expectedArrivals 9 = .ok (.iload_n 3, 1) := by decide +kernel
theorem dX5_expectedArrivals_10 : decode cX5_expectedArrivals 10 = .ok (.invokevirtual 99, 3) := by decide +kernel
theorem dX5_expectedArrivals_13 : decode cX5_expectedArrivals 13 = .ok (.ifCond .ne 7, 3) := by decide +kernel
theorem dX5_expectedArrivals_16 : decode cX5_expectedArrivals 16 = .ok (.ldc2_w 159, 3) := by decide +kernel
theorem dX5_expectedArrivals_19 : decode cX5_expectedArrivals 19 = .ok (.lreturn, 1) := by decide +kernel
theorem dX5_expectedArrivals_20 : decode cX5_expectedArrivals 20 = .ok (.iload_n 2, 1) := by decide +kernel
theorem dX5_expectedArrivals_21 : decode cX5_expectedArrivals 21 = .ok (.iconst 0, 1) := by decide +kernel
theorem dX5_expectedArrivals_22 : decode cX5_expectedArrivals 22 = .ok (.bipush 50, 2) := by decide +kernel
theorem dX5_expectedArrivals_24 : decode cX5_expectedArrivals 24 = .ok (.invokestatic 56, 3) := by decide +kernel
theorem dX5_expectedArrivals_27 : decode cX5_expectedArrivals 27 = .ok (.ifCond .eq 13, 3) := by decide +kernel
theorem dX5_expectedArrivals_30 : decode cX5_expectedArrivals 30 = .ok (.aload_n 0, 1) := by decide +kernel
theorem dX5_expectedArrivals_31 : decode cX5_expectedArrivals 31 = .ok (.iload_n 1, 1) := by decide +kernel
theorem dX5_expectedArrivals_32 : decode cX5_expectedArrivals 32 = .ok (.iload_n 2, 1) := by decide +kernel
theorem dX5_expectedArrivals_33 : decode cX5_expectedArrivals 33 = .ok (.iload_n 3, 1) := by decide +kernel
theorem dX5_expectedArrivals_34 : decode cX5_expectedArrivals 34 = .ok (.invokevirtual 161, 3) := by decide +kernel
theorem dX5_expectedArrivals_37 : decode cX5_expectedArrivals 37 = .ok (.goto 6, 3) := by decide +kernel
theorem dX5_expectedArrivals_40 : decode cX5_expectedArrivals 40 = .ok (.ldc2_w 165, 3) := by decide +kernel
theorem dX5_expectedArrivals_43 : decode cX5_expectedArrivals 43 = .ok (.lreturn, 1) := by decide +kernel
set_option maxRecDepth 20000 in
theorem ggX5_snapshot_X5_copyRotors : GoodIn wsX5_snapshot wsX5_copyRotors := goodIn_r _ [17] rfl (by decide +kernel)
set_option maxRecDepth 20000 in
theorem gX5_snapshot_X5_copyRotors : GoodIn wsX5_snapshot (wsV RX5 121 RX5 yX5_copyRotors wsX5_copyRotors) := goodIn_app (goodIn_of _ (by decide +kernel)) ggX5_snapshot_X5_copyRotors
theorem dX5_snapshot_0 : decode cX5_snapshot 0 = .ok (.aload_n 0, 1) := by decide +kernel
theorem dX5_snapshot_1 : decode cX5_snapshot 1 = .ok (.getfield 82, 3) := by decide +kernel
theorem dX5_snapshot_4 : decode cX5_snapshot 4 = .ok (.ifCond .ne 6, 3) := by decide +kernel
theorem dX5_snapshot_7 : decode cX5_snapshot 7 = .ok (.bipush (-9), 2) := by decide +kernel
theorem dX5_snapshot_9 : decode cX5_snapshot 9 = .ok (.ireturn, 1) := by decide +kernel
theorem dX5_snapshot_10 : decode cX5_snapshot 10 = .ok (.aload_n 0, 1) := by decide +kernel
theorem dX5_snapshot_11 : decode cX5_snapshot 11 = .ok (.iconst 1, 1) := by decide +kernel
theorem dX5_snapshot_12 : decode cX5_snapshot 12 = .ok (.putfield 95, 3) := by decide +kernel
theorem dX5_snapshot_15 : decode cX5_snapshot 15 = .ok (.aload_n 0, 1) := by decide +kernel
theorem dX5_snapshot_16 : decode cX5_snapshot 16 = .ok (.aload_n 0, 1) := by decide +kernel
theorem dX5_snapshot_17 : decode cX5_snapshot 17 = .ok (.getfield 92, 3) := by decide +kernel
theorem dX5_snapshot_20 : decode cX5_snapshot 20 = .ok (.putfield 167, 3) := by decide +kernel
theorem dX5_snapshot_23 : decode cX5_snapshot 23 = .ok (.aload_n 0, 1) := by decide +kernel
theorem dX5_snapshot_24 : decode cX5_snapshot 24 = .ok (.aload_n 0, 1) := by decide +kernel
theorem dX5_snapshot_25 : decode cX5_snapshot 25 = .ok (.getfield 19, 3) := by decide +kernel
theorem dX5_snapshot_28 : decode cX5_snapshot 28 = .ok (.aload_n 0, 1) := by decide +kernel
theorem dX5_snapshot_29 : decode cX5_snapshot 29 = .ok (.getfield 44, 3) := by decide +kernel
theorem dX5_snapshot_32 : decode cX5_snapshot 32 = .ok (.invokevirtual 121, 3) := by decide +kernel
theorem dX5_snapshot_35 : decode cX5_snapshot 35 = .ok (.aload_n 0, 1) := by decide +kernel
theorem dX5_snapshot_36 : decode cX5_snapshot 36 = .ok (.aload_n 0, 1) := by decide +kernel
theorem dX5_snapshot_37 : decode cX5_snapshot 37 = .ok (.getfield 25, 3) := by decide +kernel
theorem dX5_snapshot_40 : decode cX5_snapshot 40 = .ok (.aload_n 0, 1) := by decide +kernel
theorem dX5_snapshot_41 : decode cX5_snapshot 41 = .ok (.getfield 50, 3) := by decide +kernel
theorem dX5_snapshot_44 : decode cX5_snapshot 44 = .ok (.invokevirtual 121, 3) := by decide +kernel
theorem dX5_snapshot_47 : decode cX5_snapshot 47 = .ok (.iconst 0, 1) := by decide +kernel
theorem dX5_snapshot_48 : decode cX5_snapshot 48 = .ok (.istore_n 1, 1) := by decide +kernel
theorem dX5_snapshot_49 : decode cX5_snapshot 49 = .ok (.iload_n 1, 1) := by decide +kernel
theorem dX5_snapshot_50 : decode cX5_snapshot 50 = .ok (.iconst 4, 1) := by decide +kernel
theorem dX5_snapshot_51 : decode cX5_snapshot 51 = .ok (.if_icmp .ge 21, 3) := by decide +kernel
theorem dX5_snapshot_54 : decode cX5_snapshot 54 = .ok (.aload_n 0, 1) := by decide +kernel
theorem dX5_snapshot_55 : decode cX5_snapshot 55 = .ok (.getfield 47, 3) := by decide +kernel
theorem dX5_snapshot_58 : decode cX5_snapshot 58 = .ok (.iload_n 1, 1) := by decide +kernel
theorem dX5_snapshot_59 : decode cX5_snapshot 59 = .ok (.aload_n 0, 1) := by decide +kernel
theorem dX5_snapshot_60 : decode cX5_snapshot 60 = .ok (.getfield 22, 3) := by decide +kernel
theorem dX5_snapshot_63 : decode cX5_snapshot 63 = .ok (.iload_n 1, 1) := by decide +kernel
theorem dX5_snapshot_64 : decode cX5_snapshot 64 = .ok (.iaload, 1) := by decide +kernel
theorem dX5_snapshot_65 : decode cX5_snapshot 65 = .ok (.iastore, 1) := by decide +kernel
theorem dX5_snapshot_66 : decode cX5_snapshot 66 = .ok (.iinc 1 1, 3) := by decide +kernel
theorem dX5_snapshot_69 : decode cX5_snapshot 69 = .ok (.goto (-20), 3) := by decide +kernel
theorem dX5_snapshot_72 : decode cX5_snapshot 72 = .ok (.iconst 0, 1) := by decide +kernel
theorem dX5_snapshot_73 : decode cX5_snapshot 73 = .ok (.istore_n 1, 1) := by decide +kernel
theorem dX5_snapshot_74 : decode cX5_snapshot 74 = .ok (.iload_n 1, 1) := by decide +kernel
theorem dX5_snapshot_75 : decode cX5_snapshot 75 = .ok (.bipush 64, 2) := by decide +kernel
theorem dX5_snapshot_77 : decode cX5_snapshot 77 = .ok (.if_icmp .ge 21, 3) := by decide +kernel
theorem dX5_snapshot_80 : decode cX5_snapshot 80 = .ok (.aload_n 0, 1) := by decide +kernel
theorem dX5_snapshot_81 : decode cX5_snapshot 81 = .ok (.getfield 53, 3) := by decide +kernel
theorem dX5_snapshot_84 : decode cX5_snapshot 84 = .ok (.iload_n 1, 1) := by decide +kernel
theorem dX5_snapshot_85 : decode cX5_snapshot 85 = .ok (.aload_n 0, 1) := by decide +kernel
theorem dX5_snapshot_86 : decode cX5_snapshot 86 = .ok (.getfield 28, 3) := by decide +kernel
theorem dX5_snapshot_89 : decode cX5_snapshot 89 = .ok (.iload_n 1, 1) := by decide +kernel
theorem dX5_snapshot_90 : decode cX5_snapshot 90 = .ok (.iaload, 1) := by decide +kernel
theorem dX5_snapshot_91 : decode cX5_snapshot 91 = .ok (.iastore, 1) := by decide +kernel
theorem dX5_snapshot_92 : decode cX5_snapshot 92 = .ok (.iinc 1 1, 3) := by decide +kernel
theorem dX5_snapshot_95 : decode cX5_snapshot 95 = .ok (.goto (-21), 3) := by decide +kernel
theorem dX5_snapshot_98 : decode cX5_snapshot 98 = .ok (.aload_n 0, 1) := by decide +kernel
theorem dX5_snapshot_99 : decode cX5_snapshot 99 = .ok (.getfield 92, 3) := by decide +kernel
theorem dX5_snapshot_102 : decode cX5_snapshot 102 = .ok (.ireturn, 1) := by decide +kernel
set_option maxRecDepth 20000 in
theorem ggX5_restore_X5_copyRotors : GoodIn wsX5_restore wsX5_copyRotors := goodIn_r _ [16] rfl (by decide +kernel)
set_option maxRecDepth 20000 in
theorem gX5_restore_X5_copyRotors : GoodIn wsX5_restore (wsV RX5 121 RX5 yX5_copyRotors wsX5_copyRotors) := goodIn_app (goodIn_of _ (by decide +kernel)) ggX5_restore_X5_copyRotors
theorem dX5_restore_0 : decode cX5_restore 0 = .ok (.aload_n 0, 1) := by decide +kernel
theorem dX5_restore_1 : decode cX5_restore 1 = .ok (.getfield 95, 3) := by decide +kernel
theorem dX5_restore_4 : decode cX5_restore 4 = .ok (.ifCond .ne 6, 3) := by decide +kernel
theorem dX5_restore_7 : decode cX5_restore 7 = .ok (.bipush (-9), 2) := by decide +kernel
theorem dX5_restore_9 : decode cX5_restore 9 = .ok (.ireturn, 1) := by decide +kernel
theorem dX5_restore_10 : decode cX5_restore 10 = .ok (.aload_n 0, 1) := by decide +kernel
theorem dX5_restore_11 : decode cX5_restore 11 = .ok (.aload_n 0, 1) := by decide +kernel
theorem dX5_restore_12 : decode cX5_restore 12 = .ok (.getfield 167, 3) := by decide +kernel
theorem dX5_restore_15 : decode cX5_restore 15 = .ok (.putfield 92, 3) := by decide +kernel
theorem dX5_restore_18 : decode cX5_restore 18 = .ok (.aload_n 0, 1) := by decide +kernel
theorem dX5_restore_19 : decode cX5_restore 19 = .ok (.aload_n 0, 1) := by decide +kernel
theorem dX5_restore_20 : decode cX5_restore 20 = .ok (.getfield 44, 3) := by decide +kernel
theorem dX5_restore_23 : decode cX5_restore 23 = .ok (.aload_n 0, 1) := by decide +kernel
theorem dX5_restore_24 : decode cX5_restore 24 = .ok (.getfield 19, 3) := by decide +kernel
theorem dX5_restore_27 : decode cX5_restore 27 = .ok (.invokevirtual 121, 3) := by decide +kernel
theorem dX5_restore_30 : decode cX5_restore 30 = .ok (.aload_n 0, 1) := by decide +kernel
theorem dX5_restore_31 : decode cX5_restore 31 = .ok (.aload_n 0, 1) := by decide +kernel
theorem dX5_restore_32 : decode cX5_restore 32 = .ok (.getfield 50, 3) := by decide +kernel
theorem dX5_restore_35 : decode cX5_restore 35 = .ok (.aload_n 0, 1) := by decide +kernel
theorem dX5_restore_36 : decode cX5_restore 36 = .ok (.getfield 25, 3) := by decide +kernel
theorem dX5_restore_39 : decode cX5_restore 39 = .ok (.invokevirtual 121, 3) := by decide +kernel
theorem dX5_restore_42 : decode cX5_restore 42 = .ok (.iconst 0, 1) := by decide +kernel
theorem dX5_restore_43 : decode cX5_restore 43 = .ok (.istore_n 1, 1) := by decide +kernel
theorem dX5_restore_44 : decode cX5_restore 44 = .ok (.iload_n 1, 1) := by decide +kernel
theorem dX5_restore_45 : decode cX5_restore 45 = .ok (.iconst 4, 1) := by decide +kernel
theorem dX5_restore_46 : decode cX5_restore 46 = .ok (.if_icmp .ge 21, 3) := by decide +kernel
theorem dX5_restore_49 : decode cX5_restore 49 = .ok (.aload_n 0, 1) := by decide +kernel
theorem dX5_restore_50 : decode cX5_restore 50 = .ok (.getfield 22, 3) := by decide +kernel
theorem dX5_restore_53 : decode cX5_restore 53 = .ok (.iload_n 1, 1) := by decide +kernel
theorem dX5_restore_54 : decode cX5_restore 54 = .ok (.aload_n 0, 1) := by decide +kernel
theorem dX5_restore_55 : decode cX5_restore 55 = .ok (.getfield 47, 3) := by decide +kernel
theorem dX5_restore_58 : decode cX5_restore 58 = .ok (.iload_n 1, 1) := by decide +kernel
theorem dX5_restore_59 : decode cX5_restore 59 = .ok (.iaload, 1) := by decide +kernel
theorem dX5_restore_60 : decode cX5_restore 60 = .ok (.iastore, 1) := by decide +kernel
theorem dX5_restore_61 : decode cX5_restore 61 = .ok (.iinc 1 1, 3) := by decide +kernel
theorem dX5_restore_64 : decode cX5_restore 64 = .ok (.goto (-20), 3) := by decide +kernel
theorem dX5_restore_67 : decode cX5_restore 67 = .ok (.iconst 0, 1) := by decide +kernel
theorem dX5_restore_68 : decode cX5_restore 68 = .ok (.istore_n 1, 1) := by decide +kernel
theorem dX5_restore_69 : decode cX5_restore 69 = .ok (.iload_n 1, 1) := by decide +kernel
theorem dX5_restore_70 : decode cX5_restore 70 = .ok (.bipush 64, 2) := by decide +kernel
theorem dX5_restore_72 : decode cX5_restore 72 = .ok (.if_icmp .ge 21, 3) := by decide +kernel
theorem dX5_restore_75 : decode cX5_restore 75 = .ok (.aload_n 0, 1) := by decide +kernel
theorem dX5_restore_76 : decode cX5_restore 76 = .ok (.getfield 28, 3) := by decide +kernel
theorem dX5_restore_79 : decode cX5_restore 79 = .ok (.iload_n 1, 1) := by decide +kernel
theorem dX5_restore_80 : decode cX5_restore 80 = .ok (.aload_n 0, 1) := by decide +kernel
theorem dX5_restore_81 : decode cX5_restore 81 = .ok (.getfield 53, 3) := by decide +kernel
theorem dX5_restore_84 : decode cX5_restore 84 = .ok (.iload_n 1, 1) := by decide +kernel
theorem dX5_restore_85 : decode cX5_restore 85 = .ok (.iaload, 1) := by decide +kernel
theorem dX5_restore_86 : decode cX5_restore 86 = .ok (.iastore, 1) := by decide +kernel
theorem dX5_restore_87 : decode cX5_restore 87 = .ok (.iinc 1 1, 3) := by decide +kernel
theorem dX5_restore_90 : decode cX5_restore 90 = .ok (.goto (-21), 3) := by decide +kernel
theorem dX5_restore_93 : decode cX5_restore 93 = .ok (.aload_n 0, 1) := by decide +kernel
theorem dX5_restore_94 : decode cX5_restore 94 = .ok (.getfield 92, 3) := by decide +kernel
theorem dX5_restore_97 : decode cX5_restore 97 = .ok (.ireturn, 1) := by decide +kernel
theorem dX5_walkerCount_0 : decode cX5_walkerCount 0 = .ok (.aload_n 0, 1) := by decide +kernel
theorem dX5_walkerCount_1 : decode cX5_walkerCount 1 = .ok (.getfield 92, 3) := by decide +kernel
theorem dX5_walkerCount_4 : decode cX5_walkerCount 4 = .ok (.ireturn, 1) := by decide +kernel
theorem dX5_linkCount_0 : decode cX5_linkCount 0 = .ok (.aload_n 0, 1) := by decide +kernel
theorem dX5_linkCount_1 : decode cX5_linkCount 1 = .ok (.getfield 85, 3) := by decide +kernel
theorem dX5_linkCount_4 : decode cX5_linkCount 4 = .ok (.ireturn, 1) := by decide +kernel
theorem dX5_mix_0 : decode cX5_mix 0 = .ok (.aload_n 0, 1) := by decide +kernel
theorem dX5_mix_1 : decode cX5_mix 1 = .ok (.ldc2_w 170, 3) := by decide +kernel
theorem dX5_mix_4 : decode cX5_mix 4 = .ok (.aload_n 0, 1) := by decide +kernel
theorem dX5_mix_5 : decode cX5_mix 5 = .ok (.getfield 172, 3) := by decide +kernel
theorem dX5_mix_8 : decode cX5_mix 8 = .ok (.lmul, 1) := by decide +kernel
theorem dX5_mix_9 : decode cX5_mix 9 = .ok (.lload_n 1, 1) := by decide +kernel
theorem dX5_mix_10 : decode cX5_mix 10 = .ok (.ladd, 1) := by decide +kernel
theorem dX5_mix_11 : decode cX5_mix 11 = .ok (.putfield 172, 3) := by decide +kernel
theorem dX5_mix_14 : decode cX5_mix 14 = .ok (.return_, 1) := by decide +kernel
set_option maxRecDepth 20000 in
theorem ggX5_mixNode_X5_mix : GoodIn wsX5_mixNode wsX5_mix := goodIn_r _ [10, 11, 12, 13, 14, 15, 16, 17, 18, 19, 20, 21, 22, 23, 24, 25, 26, 27, 28, 29, 30, 31, 32, 33, 34, 35] rfl (by decide +kernel)
set_option maxRecDepth 20000 in
theorem gX5_mixNode_X5_mix : GoodIn wsX5_mixNode (wsV RX5 176 RX5 yX5_mix wsX5_mix) := goodIn_app (goodIn_of _ (by decide +kernel)) ggX5_mixNode_X5_mix
theorem dX5_mixNode_0 : decode cX5_mixNode 0 = .ok (.aload_n 0, 1) := by decide +kernel
theorem dX5_mixNode_1 : decode cX5_mixNode 1 = .ok (.aload_n 0, 1) := by decide +kernel
theorem dX5_mixNode_2 : decode cX5_mixNode 2 = .ok (.getfield 16, 3) := by decide +kernel
theorem dX5_mixNode_5 : decode cX5_mixNode 5 = .ok (.iload_n 1, 1) := by decide +kernel
theorem dX5_mixNode_6 : decode cX5_mixNode 6 = .ok (.iaload, 1) := by decide +kernel
theorem dX5_mixNode_7 : decode cX5_mixNode 7 = .ok (.i2l, 1) := by decide +kernel
theorem dX5_mixNode_8 : decode cX5_mixNode 8 = .ok (.invokevirtual 176, 3) := by decide +kernel
theorem dX5_mixNode_11 : decode cX5_mixNode 11 = .ok (.aload_n 0, 1) := by decide +kernel
theorem dX5_mixNode_12 : decode cX5_mixNode 12 = .ok (.aload_n 0, 1) := by decide +kernel
theorem dX5_mixNode_13 : decode cX5_mixNode 13 = .ok (.getfield 19, 3) := by decide +kernel
theorem dX5_mixNode_16 : decode cX5_mixNode 16 = .ok (.iload_n 1, 1) := by decide +kernel
theorem dX5_mixNode_17 : decode cX5_mixNode 17 = .ok (.iaload, 1) := by decide +kernel
theorem dX5_mixNode_18 : decode cX5_mixNode 18 = .ok (.i2l, 1) := by decide +kernel
theorem dX5_mixNode_19 : decode cX5_mixNode 19 = .ok (.invokevirtual 176, 3) := by decide +kernel
theorem dX5_mixNode_22 : decode cX5_mixNode 22 = .ok (.aload_n 0, 1) := by decide +kernel
theorem dX5_mixNode_23 : decode cX5_mixNode 23 = .ok (.aload_n 0, 1) := by decide +kernel
theorem dX5_mixNode_24 : decode cX5_mixNode 24 = .ok (.getfield 25, 3) := by decide +kernel
theorem dX5_mixNode_27 : decode cX5_mixNode 27 = .ok (.iload_n 1, 1) := by decide +kernel
theorem dX5_mixNode_28 : decode cX5_mixNode 28 = .ok (.iaload, 1) := by decide +kernel
theorem dX5_mixNode_29 : decode cX5_mixNode 29 = .ok (.i2l, 1) := by decide +kernel
theorem dX5_mixNode_30 : decode cX5_mixNode 30 = .ok (.invokevirtual 176, 3) := by decide +kernel
theorem dX5_mixNode_33 : decode cX5_mixNode 33 = .ok (.iconst 0, 1) := by decide +kernel
theorem dX5_mixNode_34 : decode cX5_mixNode 34 = .ok (.istore_n 2, 1) := by decide +kernel
theorem dX5_mixNode_35 : decode cX5_mixNode 35 = .ok (.iload_n 2, 1) := by decide +kernel
theorem dX5_mixNode_36 : decode cX5_mixNode 36 = .ok (.aload_n 0, 1) := by decide +kernel
theorem dX5_mixNode_37 : decode cX5_mixNode 37 = .ok (.getfield 16, 3) := by decide +kernel
theorem dX5_mixNode_40 : decode cX5_mixNode 40 = .ok (.iload_n 1, 1) := by decide +kernel
theorem dX5_mixNode_41 : decode cX5_mixNode 41 = .ok (.iaload, 1) := by decide +kernel
theorem dX5_mixNode_42 : decode cX5_mixNode 42 = .ok (.if_icmp .ge 41, 3) := by decide +kernel
theorem dX5_mixNode_45 : decode cX5_mixNode 45 = .ok (.aload_n 0, 1) := by decide +kernel
theorem dX5_mixNode_46 : decode cX5_mixNode 46 = .ok (.aload_n 0, 1) := by decide +kernel
theorem dX5_mixNode_47 : decode cX5_mixNode 47 = .ok (.getfield 13, 3) := by decide +kernel
theorem dX5_mixNode_50 : decode cX5_mixNode 50 = .ok (.bipush 8, 2) := by decide +kernel
theorem dX5_mixNode_52 : decode cX5_mixNode 52 = .ok (.iload_n 1, 1) := by decide +kernel
theorem dX5_mixNode_53 : decode cX5_mixNode 53 = .ok (.imul, 1) := by decide +kernel
theorem dX5_mixNode_54 : decode cX5_mixNode 54 = .ok (.iload_n 2, 1) := by decide +kernel
theorem dX5_mixNode_55 : decode cX5_mixNode 55 = .ok (.iadd, 1) := by decide +kernel
theorem dX5_mixNode_56 : decode cX5_mixNode 56 = .ok (.iaload, 1) := by decide +kernel
theorem dX5_mixNode_57 : decode cX5_mixNode 57 = .ok (.i2l, 1) := by decide +kernel
theorem dX5_mixNode_58 : decode cX5_mixNode 58 = .ok (.invokevirtual 176, 3) := by decide +kernel
theorem dX5_mixNode_61 : decode cX5_mixNode 61 = .ok (.aload_n 0, 1) := by decide +kernel
theorem dX5_mixNode_62 : decode cX5_mixNode 62 = .ok (.aload_n 0, 1) := by decide +kernel
theorem dX5_mixNode_63 : decode cX5_mixNode 63 = .ok (.getfield 28, 3) := by decide +kernel
theorem dX5_mixNode_66 : decode cX5_mixNode 66 = .ok (.bipush 8, 2) := by decide +kernel
theorem dX5_mixNode_68 : decode cX5_mixNode 68 = .ok (.iload_n 1, 1) := by decide +kernel
theorem dX5_mixNode_69 : decode cX5_mixNode 69 = .ok (.imul, 1) := by decide +kernel
theorem dX5_mixNode_70 : decode cX5_mixNode 70 = .ok (.iload_n 2, 1) := by decide +kernel
theorem dX5_mixNode_71 : decode cX5_mixNode 71 = .ok (.iadd, 1) := by decide +kernel
theorem dX5_mixNode_72 : decode cX5_mixNode 72 = .ok (.iaload, 1) := by decide +kernel
theorem dX5_mixNode_73 : decode cX5_mixNode 73 = .ok (.i2l, 1) := by decide +kernel
theorem dX5_mixNode_74 : decode cX5_mixNode 74 = .ok (.invokevirtual 176, 3) := by decide +kernel
theorem dX5_mixNode_77 : decode cX5_mixNode 77 = .ok (.iinc 2 1, 3) := by decide +kernel
theorem dX5_mixNode_80 : decode cX5_mixNode 80 = .ok (.goto (-45), 3) := by decide +kernel
theorem dX5_mixNode_83 : decode cX5_mixNode 83 = .ok (.return_, 1) := by decide +kernel
set_option maxRecDepth 20000 in
theorem ggX5_digest_X5_mix : GoodIn wsX5_digest wsX5_mix := goodIn_r _ [13, 14, 2, 86, 87, 88, 89, 90, 91, 92, 93, 94, 95, 96, 97, 98, 99, 100, 101, 102, 103, 104, 105, 106, 107, 108] rfl (by decide +kernel)
set_option maxRecDepth 20000 in
theorem gX5_digest_X5_mix : GoodIn wsX5_digest (wsV RX5 176 RX5 yX5_mix wsX5_mix) := goodIn_app (goodIn_of _ (by decide +kernel)) ggX5_digest_X5_mix
set_option maxRecDepth 20000 in
theorem ggX5_digest_X5_mixNode : GoodIn wsX5_digest wsX5_mixNode := goodIn_r _ [18, 19, 20, 21, 22, 23, 9, 10, 11, 12, 13, 14, 2, 86, 87, 88, 89, 90, 91, 92, 93, 94, 95, 96, 97, 98, 99, 100, 101, 102, 103, 104, 105, 106, 107, 108] rfl (by decide +kernel)
set_option maxRecDepth 20000 in
theorem gX5_digest_X5_mixNode : GoodIn wsX5_digest (wsV RX5 182 RX5 yX5_mixNode wsX5_mixNode) := goodIn_app (goodIn_of _ (by decide +kernel)) ggX5_digest_X5_mixNode
set_option maxRecDepth 20000 in
theorem ggX5_digest_X5_cycleOf : GoodIn wsX5_digest wsX5_cycleOf := goodIn_r _ [27, 20, 28, 29, 6, 4, 30, 31, 32, 12, 33, 34, 35, 36, 37, 22, 19, 38, 39, 40, 41, 3, 86, 87, 88, 89, 90, 91, 92, 93, 94, 95, 96, 97, 98, 99, 100, 101, 102, 103, 104, 105, 106, 107, 108] rfl (by decide +kernel)
set_option maxRecDepth 20000 in
theorem gX5_digest_X5_cycleOf : GoodIn wsX5_digest (wsV RX5 128 RX5 yX5_cycleOf wsX5_cycleOf) := goodIn_app (goodIn_of _ (by decide +kernel)) ggX5_digest_X5_cycleOf
set_option maxRecDepth 20000 in
theorem ggX5_digest_X5_coverOf : GoodIn wsX5_digest wsX5_coverOf := goodIn_r _ [45, 20, 28, 6, 30, 31, 32, 12, 33, 46, 47, 48, 49, 3, 34, 35, 36, 37, 22, 19, 86, 87, 88, 89, 90, 91, 92, 93, 94, 95, 96, 97, 98, 99, 100, 101, 102, 103, 104, 105, 106, 107, 108] rfl (by decide +kernel)
set_option maxRecDepth 20000 in
theorem gX5_digest_X5_coverOf : GoodIn wsX5_digest (wsV RX5 134 RX5 yX5_coverOf wsX5_coverOf) := goodIn_app (goodIn_of _ (by decide +kernel)) ggX5_digest_X5_coverOf
set_option maxRecDepth 20000 in
theorem ggX5_digest_X5_assignments : GoodIn wsX5_digest wsX5_assignments := goodIn_r _ [53, 3, 19, 86, 87, 88, 89, 90, 91, 92, 93, 94, 95, 96, 97, 98, 99, 100, 101, 102, 103, 104, 105, 106, 107, 108] rfl (by decide +kernel)
set_option maxRecDepth 20000 in
theorem gX5_digest_X5_assignments : GoodIn wsX5_digest (wsV RX5 137 RX5 yX5_assignments wsX5_assignments) := goodIn_app (goodIn_of _ (by decide +kernel)) ggX5_digest_X5_assignments
set_option maxRecDepth 20000 in
theorem ggX5_digest_X5_leastFrom : GoodIn wsX5_digest wsX5_leastFrom := goodIn_r _ [57, 58, 59, 50, 51, 52, 12, 53, 3, 19, 60, 61, 62, 63, 28, 46, 47, 48, 49, 34, 35, 36, 37, 22, 86, 87, 88, 89, 90, 91, 92, 93, 94, 95, 96, 97, 98, 99, 100, 101, 102, 103, 104, 105, 106, 107, 108] rfl (by decide +kernel)
set_option maxRecDepth 20000 in
theorem gX5_digest_X5_leastFrom : GoodIn wsX5_digest (wsV RX5 147 RX5 yX5_leastFrom wsX5_leastFrom) := goodIn_app (goodIn_of _ (by decide +kernel)) ggX5_digest_X5_leastFrom
set_option maxRecDepth 20000 in
theorem ggX5_digest_X5_expected : GoodIn wsX5_digest wsX5_expected := goodIn_r _ [67, 68, 69, 70, 71, 12, 72, 73, 3, 19, 22, 74, 75, 76, 77, 78, 79, 80, 81, 82, 83, 84, 85, 86, 87, 88, 89, 90, 91, 92, 93, 94, 95, 96, 97, 98, 99, 100, 101, 102, 103, 104, 105, 106, 107, 108] rfl (by decide +kernel)
set_option maxRecDepth 20000 in
theorem gX5_digest_X5_expected : GoodIn wsX5_digest (wsV RX5 161 RX5 yX5_expected wsX5_expected) := goodIn_app (goodIn_of _ (by decide +kernel)) ggX5_digest_X5_expected
theorem dX5_digest_0 : decode cX5_digest 0 = .ok (.aload_n 0, 1) := by decide +kernel
theorem dX5_digest_1 : decode cX5_digest 1 = .ok (.ldc2_w 180, 3) := by decide +kernel
theorem dX5_digest_4 : decode cX5_digest 4 = .ok (.putfield 172, 3) := by decide +kernel
theorem dX5_digest_7 : decode cX5_digest 7 = .ok (.aload_n 0, 1) := by decide +kernel
theorem dX5_digest_8 : decode cX5_digest 8 = .ok (.aload_n 0, 1) := by decide +kernel
theorem dX5_digest_9 : decode cX5_digest 9 = .ok (.getfield 82, 3) := by decide +kernel
theorem dX5_digest_12 : decode cX5_digest 12 = .ok (.i2l, 1) := by decide +kernel
theorem dX5_digest_13 : decode cX5_digest 13 = .ok (.invokevirtual 176, 3) := by decide +kernel
theorem dX5_digest_16 : decode cX5_digest 16 = .ok (.aload_n 0, 1) := by decide +kernel
theorem dX5_digest_17 : decode cX5_digest 17 = .ok (.aload_n 0, 1) := by decide +kernel
theorem dX5_digest_18 : decode cX5_digest 18 = .ok (.getfield 85, 3) := by decide +kernel
theorem dX5_digest_21 : decode cX5_digest 21 = .ok (.i2l, 1) := by decide +kernel
theorem dX5_digest_22 : decode cX5_digest 22 = .ok (.invokevirtual 176, 3) := by decide +kernel
theorem dX5_digest_25 : decode cX5_digest 25 = .ok (.iconst 0, 1) := by decide +kernel
theorem dX5_digest_26 : decode cX5_digest 26 = .ok (.istore_n 1, 1) := by decide +kernel
theorem dX5_digest_27 : decode cX5_digest 27 = .ok (.iload_n 1, 1) := by decide +kernel
theorem dX5_digest_28 : decode cX5_digest 28 = .ok (.aload_n 0, 1) := by decide +kernel
theorem dX5_digest_29 : decode cX5_digest 29 = .ok (.getfield 82, 3) := by decide +kernel
theorem dX5_digest_32 : decode cX5_digest 32 = .ok (.if_icmp .ge 14, 3) := by decide +kernel
theorem dX5_digest_35 : decode cX5_digest 35 = .ok (.aload_n 0, 1) := by decide +kernel
theorem dX5_digest_36 : decode cX5_digest 36 = .ok (.iload_n 1, 1) := by decide +kernel
theorem dX5_digest_37 : decode cX5_digest 37 = .ok (.invokevirtual 182, 3) := by decide +kernel
theorem dX5_digest_40 : decode cX5_digest 40 = .ok (.iinc 1 1, 3) := by decide +kernel
theorem dX5_digest_43 : decode cX5_digest 43 = .ok (.goto (-16), 3) := by decide +kernel
theorem dX5_digest_46 : decode cX5_digest 46 = .ok (.aload_n 0, 1) := by decide +kernel
theorem dX5_digest_47 : decode cX5_digest 47 = .ok (.aload_n 0, 1) := by decide +kernel
theorem dX5_digest_48 : decode cX5_digest 48 = .ok (.getfield 92, 3) := by decide +kernel
theorem dX5_digest_51 : decode cX5_digest 51 = .ok (.i2l, 1) := by decide +kernel
theorem dX5_digest_52 : decode cX5_digest 52 = .ok (.invokevirtual 176, 3) := by decide +kernel
theorem dX5_digest_55 : decode cX5_digest 55 = .ok (.iconst 0, 1) := by decide +kernel
theorem dX5_digest_56 : decode cX5_digest 56 = .ok (.istore_n 1, 1) := by decide +kernel
theorem dX5_digest_57 : decode cX5_digest 57 = .ok (.iload_n 1, 1) := by decide +kernel
theorem dX5_digest_58 : decode cX5_digest 58 = .ok (.aload_n 0, 1) := by decide +kernel
theorem dX5_digest_59 : decode cX5_digest 59 = .ok (.getfield 92, 3) := by decide +kernel
theorem dX5_digest_62 : decode cX5_digest 62 = .ok (.if_icmp .ge 40, 3) := by decide +kernel
theorem dX5_digest_65 : decode cX5_digest 65 = .ok (.aload_n 0, 1) := by decide +kernel
theorem dX5_digest_66 : decode cX5_digest 66 = .ok (.aload_n 0, 1) := by decide +kernel
theorem dX5_digest_67 : decode cX5_digest 67 = .ok (.getfield 22, 3) := by decide +kernel
theorem dX5_digest_70 : decode cX5_digest 70 = .ok (.iload_n 1, 1) := by decide +kernel
theorem dX5_digest_71 : decode cX5_digest 71 = .ok (.iaload, 1) := by decide +kernel
theorem dX5_digest_72 : decode cX5_digest 72 = .ok (.i2l, 1) := by decide +kernel
theorem dX5_digest_73 : decode cX5_digest 73 = .ok (.invokevirtual 176, 3) := by decide +kernel
theorem dX5_digest_76 : decode cX5_digest 76 = .ok (.aload_n 0, 1) := by decide +kernel
theorem dX5_digest_77 : decode cX5_digest 77 = .ok (.aload_n 0, 1) := by decide +kernel
theorem dX5_digest_78 : decode cX5_digest 78 = .ok (.iload_n 1, 1) := by decide +kernel
theorem dX5_digest_79 : decode cX5_digest 79 = .ok (.invokevirtual 128, 3) := by decide +kernel
theorem dX5_digest_82 : decode cX5_digest 82 = .ok (.i2l, 1) := by decide +kernel
theorem dX5_digest_83 : decode cX5_digest 83 = .ok (.invokevirtual 176, 3) := by decide +kernel
theorem dX5_digest_86 : decode cX5_digest 86 = .ok (.aload_n 0, 1) := by decide +kernel
theorem dX5_digest_87 : decode cX5_digest 87 = .ok (.aload_n 0, 1) := by decide +kernel
theorem dX5_digest_88 : decode cX5_digest 88 = .ok (.iload_n 1, 1) := by decide +kernel
theorem dX5_digest_89 : decode cX5_digest 89 = .ok (.invokevirtual 134, 3) := by decide +kernel
theorem dX5_digest_92 : decode cX5_digest 92 = .ok (.i2l, 1) := by decide +kernel
theorem dX5_digest_93 : decode cX5_digest 93 = .ok (.invokevirtual 176, 3) := by decide +kernel
theorem dX5_digest_96 : decode cX5_digest 96 = .ok (.iinc 1 1, 3) := by decide +kernel
theorem dX5_digest_99 : decode cX5_digest 99 = .ok (.goto (-42), 3) := by decide +kernel
theorem dX5_digest_102 : decode cX5_digest 102 = .ok (.aload_n 0, 1) := by decide +kernel
theorem dX5_digest_103 : decode cX5_digest 103 = .ok (.getfield 82, 3) := by decide +kernel
theorem dX5_digest_106 : decode cX5_digest 106 = .ok (.ifCond .le 23, 3) := by decide +kernel
theorem dX5_digest_109 : decode cX5_digest 109 = .ok (.aload_n 0, 1) := by decide +kernel
theorem dX5_digest_110 : decode cX5_digest 110 = .ok (.invokevirtual 137, 3) := by decide +kernel
theorem dX5_digest_113 : decode cX5_digest 113 = .ok (.sipush 2000, 3) := by decide +kernel
theorem dX5_digest_116 : decode cX5_digest 116 = .ok (.if_icmp .gt 13, 3) := by decide +kernel
theorem dX5_digest_119 : decode cX5_digest 119 = .ok (.aload_n 0, 1) := by decide +kernel
theorem dX5_digest_120 : decode cX5_digest 120 = .ok (.aload_n 0, 1) := by decide +kernel
theorem dX5_digest_121 : decode cX5_digest 121 = .ok (.iconst 0, 1) := by decide +kernel
theorem dX5_digest_122 : decode cX5_digest 122 = .ok (.invokevirtual 147, 3) := by decide +kernel
theorem dX5_digest_125 : decode cX5_digest 125 = .ok (.i2l, 1) := by decide +kernel
theorem dX5_digest_126 : decode cX5_digest 126 = .ok (.invokevirtual 176, 3) := by decide +kernel
theorem dX5_digest_129 : decode cX5_digest 129 = .ok (.aload_n 0, 1) := by decide +kernel
theorem dX5_digest_130 : decode cX5_digest 130 = .ok (.getfield 82, 3) := by decide +kernel
theorem dX5_digest_133 : decode cX5_digest 133 = .ok (.ifCond .le 15, 3) := by decide +kernel
theorem dX5_digest_136 : decode cX5_digest 136 = .ok (.aload_n 0, 1) := by decide +kernel
theorem dX5_digest_137 : decode cX5_digest 137 = .ok (.aload_n 0, 1) := by decide +kernel
theorem dX5_digest_138 : decode cX5_digest 138 = .ok (.iconst 0, 1) := by decide +kernel
theorem dX5_digest_139 : decode cX5_digest 139 = .ok (.bipush 7, 2) := by decide +kernel
theorem dX5_digest_141 : decode cX5_digest 141 = .ok (.iconst 1, 1) := by decide +kernel
theorem dX5_digest_142 : decode cX5_digest 142 = .ok (.invokevirtual 161, 3) := by decide +kernel
theorem dX5_digest_145 : decode cX5_digest 145 = .ok (.invokevirtual 176, 3) := by decide +kernel
theorem dX5_digest_148 : decode cX5_digest 148 = .ok (.aload_n 0, 1) := by decide +kernel
theorem dX5_digest_149 : decode cX5_digest 149 = .ok (.aload_n 0, 1) := by decide +kernel
theorem dX5_digest_150 : decode cX5_digest 150 = .ok (.getfield 60, 3) := by decide +kernel
theorem dX5_digest_153 : decode cX5_digest 153 = .ok (.i2l, 1) := by decide +kernel
theorem dX5_digest_154 : decode cX5_digest 154 = .ok (.invokevirtual 176, 3) := by decide +kernel
theorem dX5_digest_157 : decode cX5_digest 157 = .ok (.iconst 0, 1) := by decide +kernel
theorem dX5_digest_158 : decode cX5_digest 158 = .ok (.istore_n 1, 1) := by decide +kernel
theorem dX5_digest_159 : decode cX5_digest 159 = .ok (.iload_n 1, 1) := by decide +kernel
theorem dX5_digest_160 : decode cX5_digest 160 = .ok (.aload_n 0, 1) := by decide +kernel
theorem dX5_digest_161 : decode cX5_digest 161 = .ok (.getfield 60, 3) := by decide +kernel
theorem dX5_digest_164 : decode cX5_digest 164 = .ok (.if_icmp .ge 20, 3) := by decide +kernel
theorem dX5_digest_167 : decode cX5_digest 167 = .ok (.aload_n 0, 1) := by decide +kernel
theorem dX5_digest_168 : decode cX5_digest 168 = .ok (.aload_n 0, 1) := by decide +kernel
theorem dX5_digest_169 : decode cX5_digest 169 = .ok (.getfield 7, 3) := by decide +kernel
theorem dX5_digest_172 : decode cX5_digest 172 = .ok (.iload_n 1, 1) := by decide +kernel
theorem dX5_digest_173 : decode cX5_digest 173 = .ok (.iaload, 1) := by decide +kernel
theorem dX5_digest_174 : decode cX5_digest 174 = .ok (.i2l, 1) := by decide +kernel
theorem dX5_digest_175 : decode cX5_digest 175 = .ok (.invokevirtual 176, 3) := by decide +kernel
theorem dX5_digest_178 : decode cX5_digest 178 = .ok (.iinc 1 1, 3) := by decide +kernel
theorem dX5_digest_181 : decode cX5_digest 181 = .ok (.goto (-22), 3) := by decide +kernel
theorem dX5_digest_184 : decode cX5_digest 184 = .ok (.aload_n 0, 1) := by decide +kernel
theorem dX5_digest_185 : decode cX5_digest 185 = .ok (.getfield 172, 3) := by decide +kernel
theorem dX5_digest_188 : decode cX5_digest 188 = .ok (.lreturn, 1) := by decide +kernel
theorem dJxe99ae_isNaN_b9ae7_0 : decode cJxe99ae_isNaN_b9ae7 0 = .ok (.dload_n 0, 1) := by decide +kernel
theorem dJxe99ae_isNaN_b9ae7_1 : decode cJxe99ae_isNaN_b9ae7 1 = .ok (.dload_n 0, 1) := by decide +kernel
theorem dJxe99ae_isNaN_b9ae7_2 : decode cJxe99ae_isNaN_b9ae7 2 = .ok (.dcmp .l, 1) := by decide +kernel
theorem dJxe99ae_isNaN_b9ae7_3 : decode cJxe99ae_isNaN_b9ae7 3 = .ok (.ifCond .eq 7, 3) := by decide +kernel
theorem dJxe99ae_isNaN_b9ae7_6 : decode cJxe99ae_isNaN_b9ae7 6 = .ok (.iconst 1, 1) := by decide +kernel
theorem dJxe99ae_isNaN_b9ae7_7 : decode cJxe99ae_isNaN_b9ae7 7 = .ok (.goto 4, 3) := by decide +kernel
theorem dJxe99ae_isNaN_b9ae7_10 : decode cJxe99ae_isNaN_b9ae7 10 = .ok (.iconst 0, 1) := by decide +kernel
theorem dJxe99ae_isNaN_b9ae7_11 : decode cJxe99ae_isNaN_b9ae7 11 = .ok (.ireturn, 1) := by decide +kernel
set_option maxRecDepth 20000 in
theorem ggJxe99ae_doubleToLongBits_ccdee_Jxe99ae_isNaN_b9ae7 : GoodIn wsJxe99ae_doubleToLongBits_ccdee wsJxe99ae_isNaN_b9ae7 := goodIn_r _ [9] rfl (by decide +kernel)
set_option maxRecDepth 20000 in
theorem gJxe99ae_doubleToLongBits_ccdee_Jxe99ae_isNaN_b9ae7 : GoodIn wsJxe99ae_doubleToLongBits_ccdee (va_wsS RJxe99ae 122 yJxe99ae_isNaN_b9ae7 wsJxe99ae_isNaN_b9ae7) := goodIn_app (goodIn_of _ (by decide +kernel)) ggJxe99ae_doubleToLongBits_ccdee_Jxe99ae_isNaN_b9ae7
theorem dJxe99ae_doubleToLongBits_ccdee_0 : decode cJxe99ae_doubleToLongBits_ccdee 0 = .ok (.dload_n 0, 1) := by decide +kernel
theorem dJxe99ae_doubleToLongBits_ccdee_1 : decode cJxe99ae_doubleToLongBits_ccdee 1 = .ok (.invokestatic 122, 3) := by decide +kernel
theorem dJxe99ae_doubleToLongBits_ccdee_4 : decode cJxe99ae_doubleToLongBits_ccdee 4 = .ok (.ifCond .ne 8, 3) := by decide +kernel
theorem dJxe99ae_doubleToLongBits_ccdee_7 : decode cJxe99ae_doubleToLongBits_ccdee 7 = .ok (.dload_n 0, 1) := by decide +kernel
theorem dJxe99ae_doubleToLongBits_ccdee_8 : decode cJxe99ae_doubleToLongBits_ccdee 8 = .ok (.invokestatic 134, 3) := by decide +kernel
theorem dJxe99ae_doubleToLongBits_ccdee_11 : decode cJxe99ae_doubleToLongBits_ccdee 11 = .ok (.lreturn, 1) := by decide +kernel
theorem dJxe99ae_doubleToLongBits_ccdee_12 : decode cJxe99ae_doubleToLongBits_ccdee 12 = .ok (.ldc2_w 137, 3) := by decide +kernel
theorem dJxe99ae_doubleToLongBits_ccdee_15 : decode cJxe99ae_doubleToLongBits_ccdee 15 = .ok (.lreturn, 1) := by decide +kernel
end
section
theorem wd_fm {ws w : va_W} {is : List Nat} (h : is.map (fun i => ws[i]?) = w.map some) : is.filterMap (fun i => ws[i]?) = w := by
  have e : is.filterMap (fun i => ws[i]?) = (is.map (fun i => ws[i]?)).filterMap id := by
    induction is with
    | nil => rfl
    | cons a l ih => simp [List.filterMap_cons, List.filterMap_map]
  rw [e, h, List.filterMap_map]
  simp
section WDL
variable {p : Program} {l : Launch} {e : Env} {R : Room} {s : State} {m : MethodId} {args : Array Value} {below : List Frame} {meth : Method} {c : Code} {cc : ByteArray} {nL : Nat} {Ts : List Cond} {own : String} {D : va_G} {tys : List (ClassId × FieldType)} {A : Nat → Prop} {k n : Nat} {Q : State → Prop} {pc j : Nat} {lv lv' : List (Nat × Value)} {rest : List Value} {ws ws' : va_W}
/-- what a walk of a method knows all the way -/
def wd_C (p : Program) (m : MethodId) (c : Code) (cc : ByteArray) (nL : Nat) (s : State) (args : Array Value) (Ts : List Cond) (own : String) (D : va_G) (tys : List (ClassId × FieldType)) (A : Nat → Prop) : Prop := CallFix p m c cc nL s args Ts own ∧ va_K D vwCl tys s ∧ ∀ q : Nat, s.heap.size ≤ q → A q
/-- from the frame at pc with these locals, this stack and this world the machine comes to Q -/
def Wd (p : Program) (l : Launch) (e : Env) (R : Room) (s : State) (m : MethodId) (args : Array Value) (below : List Frame) (meth : Method) (c : Code) (nL : Nat) (D : va_G) (A : Nat → Prop) (k n : Nat) (Q : State → Prop) (pc : Nat) (lv : List (Nat × Value)) (st : List Value) (ws : va_W) : Prop :=
  ∀ (H : Heap) (locs : List Loc) (ls : Array Slot), va_P D vwCl ws H → va_D A ws → va_S A s.heap H locs → lv_has ls nL lv → W p l e R s m args below meth c H locs k n Q (F0 m pc ls st)

theorem wd_iadd (C : wd_C p m c cc nL s args Ts own D tys A) {x y : Int32} (hd : decode cc pc = .ok (.iadd, 1))  (hj : pc + 1 = j) (kk : Wd p l e R s m args below meth c nL D A k n Q j lv (.int (x + y) :: rest) ws) : Wd p l e R s m args below meth c nL D A k n Q pc lv (.int y :: .int x :: rest) ws := by
  subst hj
  intro H locs ls hP hD hS hl
  exact lv_iadd C.1.1 C.1.2.1 hd (kk H locs ls hP hD hS hl)
theorem wd_isub (C : wd_C p m c cc nL s args Ts own D tys A) {x y : Int32} (hd : decode cc pc = .ok (.isub, 1))  (hj : pc + 1 = j) (kk : Wd p l e R s m args below meth c nL D A k n Q j lv (.int (x - y) :: rest) ws) : Wd p l e R s m args below meth c nL D A k n Q pc lv (.int y :: .int x :: rest) ws := by
  subst hj
  intro H locs ls hP hD hS hl
  exact lv_isub C.1.1 C.1.2.1 hd (kk H locs ls hP hD hS hl)
theorem wd_imul (C : wd_C p m c cc nL s args Ts own D tys A) {x y : Int32} (hd : decode cc pc = .ok (.imul, 1))  (hj : pc + 1 = j) (kk : Wd p l e R s m args below meth c nL D A k n Q j lv (.int (x * y) :: rest) ws) : Wd p l e R s m args below meth c nL D A k n Q pc lv (.int y :: .int x :: rest) ws := by
  subst hj
  intro H locs ls hP hD hS hl
  exact lv_imul C.1.1 C.1.2.1 hd (kk H locs ls hP hD hS hl)
theorem wd_iand (C : wd_C p m c cc nL s args Ts own D tys A) {x y : Int32} (hd : decode cc pc = .ok (.iand, 1))  (hj : pc + 1 = j) (kk : Wd p l e R s m args below meth c nL D A k n Q j lv (.int (x &&& y) :: rest) ws) : Wd p l e R s m args below meth c nL D A k n Q pc lv (.int y :: .int x :: rest) ws := by
  subst hj
  intro H locs ls hP hD hS hl
  exact lv_iand C.1.1 C.1.2.1 hd (kk H locs ls hP hD hS hl)
theorem wd_ior (C : wd_C p m c cc nL s args Ts own D tys A) {x y : Int32} (hd : decode cc pc = .ok (.ior, 1))  (hj : pc + 1 = j) (kk : Wd p l e R s m args below meth c nL D A k n Q j lv (.int (x ||| y) :: rest) ws) : Wd p l e R s m args below meth c nL D A k n Q pc lv (.int y :: .int x :: rest) ws := by
  subst hj
  intro H locs ls hP hD hS hl
  exact lv_ior C.1.1 C.1.2.1 hd (kk H locs ls hP hD hS hl)
theorem wd_ishl (C : wd_C p m c cc nL s args Ts own D tys A) {x y : Int32} (hd : decode cc pc = .ok (.ishl, 1))  (hj : pc + 1 = j) (kk : Wd p l e R s m args below meth c nL D A k n Q j lv (.int (x <<< (y &&& 31)) :: rest) ws) : Wd p l e R s m args below meth c nL D A k n Q pc lv (.int y :: .int x :: rest) ws := by
  subst hj
  intro H locs ls hP hD hS hl
  exact lv_ishl C.1.1 C.1.2.1 hd (kk H locs ls hP hD hS hl)
theorem wd_ladd (C : wd_C p m c cc nL s args Ts own D tys A) {x y : Int64} (hd : decode cc pc = .ok (.ladd, 1))  (hj : pc + 1 = j) (kk : Wd p l e R s m args below meth c nL D A k n Q j lv (.long (x + y) :: rest) ws) : Wd p l e R s m args below meth c nL D A k n Q pc lv (.long y :: .long x :: rest) ws := by
  subst hj
  intro H locs ls hP hD hS hl
  exact lv_ladd C.1.1 C.1.2.1 hd (kk H locs ls hP hD hS hl)
theorem wd_lmul (C : wd_C p m c cc nL s args Ts own D tys A) {x y : Int64} (hd : decode cc pc = .ok (.lmul, 1))  (hj : pc + 1 = j) (kk : Wd p l e R s m args below meth c nL D A k n Q j lv (.long (x * y) :: rest) ws) : Wd p l e R s m args below meth c nL D A k n Q pc lv (.long y :: .long x :: rest) ws := by
  subst hj
  intro H locs ls hP hD hS hl
  exact lv_lmul C.1.1 C.1.2.1 hd (kk H locs ls hP hD hS hl)
theorem wd_lsub (C : wd_C p m c cc nL s args Ts own D tys A) {x y : Int64} (hd : decode cc pc = .ok (.lsub, 1))  (hj : pc + 1 = j) (kk : Wd p l e R s m args below meth c nL D A k n Q j lv (.long (x - y) :: rest) ws) : Wd p l e R s m args below meth c nL D A k n Q pc lv (.long y :: .long x :: rest) ws := by
  subst hj
  intro H locs ls hP hD hS hl
  exact lv_lsub C.1.1 C.1.2.1 hd (kk H locs ls hP hD hS hl)
theorem wd_lcmp (C : wd_C p m c cc nL s args Ts own D tys A) {x y : Int64} (hd : decode cc pc = .ok (.lcmp, 1))  (hj : pc + 1 = j) (kk : Wd p l e R s m args below meth c nL D A k n Q j lv (.int (lg_cmp x y) :: rest) ws) : Wd p l e R s m args below meth c nL D A k n Q pc lv (.long y :: .long x :: rest) ws := by
  subst hj
  intro H locs ls hP hD hS hl
  exact W.lcmp C.1.1 C.1.2.1 hd (kk H locs ls hP hD hS hl)
theorem wd_idiv (C : wd_C p m c cc nL s args Ts own D tys A) {x y : Int32} (hd : decode cc pc = .ok (.idiv, 1)) (hne : ¬ y = 0) (hj : pc + 1 = j) (kk : Wd p l e R s m args below meth c nL D A k n Q j lv (.int (x / y) :: rest) ws) : Wd p l e R s m args below meth c nL D A k n Q pc lv (.int y :: .int x :: rest) ws := by
  subst hj
  intro H locs ls hP hD hS hl
  exact lv_idiv C.1.1 C.1.2.1 hd hne (kk H locs ls hP hD hS hl)
theorem wd_irem (C : wd_C p m c cc nL s args Ts own D tys A) {x y : Int32} (hd : decode cc pc = .ok (.irem, 1)) (hne : ¬ y = 0) (hj : pc + 1 = j) (kk : Wd p l e R s m args below meth c nL D A k n Q j lv (.int (x - x / y * y) :: rest) ws) : Wd p l e R s m args below meth c nL D A k n Q pc lv (.int y :: .int x :: rest) ws := by
  subst hj
  intro H locs ls hP hD hS hl
  exact lv_irem C.1.1 C.1.2.1 hd hne (kk H locs ls hP hD hS hl)
theorem wd_dadd (C : wd_C p m c cc nL s args Ts own D tys A) {x y : UInt64} (hd : decode cc pc = .ok (.dadd, 1)) (hne : vf_n64 (FP.dadd x y)) (hj : pc + 1 = j) (kk : Wd p l e R s m args below meth c nL D A k n Q j lv (.double (FP.dadd x y) :: rest) ws) : Wd p l e R s m args below meth c nL D A k n Q pc lv (.double y :: .double x :: rest) ws := by
  subst hj
  intro H locs ls hP hD hS hl
  exact lv_dadd C.1.1 C.1.2.1 hd hne (kk H locs ls hP hD hS hl)
theorem wd_dsub (C : wd_C p m c cc nL s args Ts own D tys A) {x y : UInt64} (hd : decode cc pc = .ok (.dsub, 1)) (hne : vf_n64 (FP.dsub x y)) (hj : pc + 1 = j) (kk : Wd p l e R s m args below meth c nL D A k n Q j lv (.double (FP.dsub x y) :: rest) ws) : Wd p l e R s m args below meth c nL D A k n Q pc lv (.double y :: .double x :: rest) ws := by
  subst hj
  intro H locs ls hP hD hS hl
  exact lv_dsub C.1.1 C.1.2.1 hd hne (kk H locs ls hP hD hS hl)
theorem wd_dmul (C : wd_C p m c cc nL s args Ts own D tys A) {x y : UInt64} (hd : decode cc pc = .ok (.dmul, 1)) (hne : vf_n64 (FP.dmul x y)) (hj : pc + 1 = j) (kk : Wd p l e R s m args below meth c nL D A k n Q j lv (.double (FP.dmul x y) :: rest) ws) : Wd p l e R s m args below meth c nL D A k n Q pc lv (.double y :: .double x :: rest) ws := by
  subst hj
  intro H locs ls hP hD hS hl
  exact lv_dmul C.1.1 C.1.2.1 hd hne (kk H locs ls hP hD hS hl)
theorem wd_ddiv (C : wd_C p m c cc nL s args Ts own D tys A) {x y : UInt64} (hd : decode cc pc = .ok (.ddiv, 1)) (hne : vf_n64 (FP.ddiv x y)) (hj : pc + 1 = j) (kk : Wd p l e R s m args below meth c nL D A k n Q j lv (.double (FP.ddiv x y) :: rest) ws) : Wd p l e R s m args below meth c nL D A k n Q pc lv (.double y :: .double x :: rest) ws := by
  subst hj
  intro H locs ls hP hD hS hl
  exact lv_ddiv C.1.1 C.1.2.1 hd hne (kk H locs ls hP hD hS hl)
theorem wd_dcmp (C : wd_C p m c cc nL s args Ts own D tys A) {x y : UInt64} {op : CmpOp} (hd : decode cc pc = .ok (.dcmp op, 1))  (hj : pc + 1 = j) (kk : Wd p l e R s m args below meth c nL D A k n Q j lv (.int (Op.cmpValue (FP.dcmp x y) op) :: rest) ws) : Wd p l e R s m args below meth c nL D A k n Q pc lv (.double y :: .double x :: rest) ws := by
  subst hj
  intro H locs ls hP hD hS hl
  exact lv_dcmp C.1.1 C.1.2.1 hd (kk H locs ls hP hD hS hl)
theorem wd_i2l (C : wd_C p m c cc nL s args Ts own D tys A) {x : Int32} (hd : decode cc pc = .ok (.i2l, 1))  (hj : pc + 1 = j) (kk : Wd p l e R s m args below meth c nL D A k n Q j lv (.long x.toInt64 :: rest) ws) : Wd p l e R s m args below meth c nL D A k n Q pc lv (.int x :: rest) ws := by
  subst hj
  intro H locs ls hP hD hS hl
  exact lv_i2l C.1.1 C.1.2.1 hd rfl (kk H locs ls hP hD hS hl)
theorem wd_i2d (C : wd_C p m c cc nL s args Ts own D tys A) {x : Int32} (hd : decode cc pc = .ok (.i2d, 1))  (hj : pc + 1 = j) (kk : Wd p l e R s m args below meth c nL D A k n Q j lv (.double (FP.i2d x) :: rest) ws) : Wd p l e R s m args below meth c nL D A k n Q pc lv (.int x :: rest) ws := by
  subst hj
  intro H locs ls hP hD hS hl
  exact lv_i2d C.1.1 C.1.2.1 hd (kk H locs ls hP hD hS hl)
theorem wd_d2l (C : wd_C p m c cc nL s args Ts own D tys A) {x : UInt64} (hd : decode cc pc = .ok (.d2l, 1))  (hj : pc + 1 = j) (kk : Wd p l e R s m args below meth c nL D A k n Q j lv (.long (FP.d2l x) :: rest) ws) : Wd p l e R s m args below meth c nL D A k n Q pc lv (.double x :: rest) ws := by
  subst hj
  intro H locs ls hP hD hS hl
  exact lv_d2l C.1.1 C.1.2.1 hd (kk H locs ls hP hD hS hl)
theorem wd_dup (C : wd_C p m c cc nL s args Ts own D tys A) {va : Value} (hd : decode cc pc = .ok (.dup, 1)) (hva : va.category = 1) (hj : pc + 1 = j) (kk : Wd p l e R s m args below meth c nL D A k n Q j lv (va :: va :: rest) ws) : Wd p l e R s m args below meth c nL D A k n Q pc lv (va :: rest) ws := by
  subst hj
  intro H locs ls hP hD hS hl
  exact lv_dup C.1.1 C.1.2.1 hd hva (kk H locs ls hP hD hS hl)
theorem wd_dup2 (C : wd_C p m c cc nL s args Ts own D tys A) {va vb : Value} (hd : decode cc pc = .ok (.dup2, 1)) (hva : va.category = 1) (hvb : vb.category = 1) (hj : pc + 1 = j) (kk : Wd p l e R s m args below meth c nL D A k n Q j lv (va :: vb :: va :: vb :: rest) ws) : Wd p l e R s m args below meth c nL D A k n Q pc lv (va :: vb :: rest) ws := by
  subst hj
  intro H locs ls hP hD hS hl
  exact lv_dup2_11 C.1.1 C.1.2.1 hd hva hvb (kk H locs ls hP hD hS hl)
theorem wd_pop (C : wd_C p m c cc nL s args Ts own D tys A) {va : Value} (hd : decode cc pc = .ok (.pop, 1)) (hva : va.category = 1) (hj : pc + 1 = j) (kk : Wd p l e R s m args below meth c nL D A k n Q j lv (rest) ws) : Wd p l e R s m args below meth c nL D A k n Q pc lv (va :: rest) ws := by
  subst hj
  intro H locs ls hP hD hS hl
  exact lv_pop C.1.1 C.1.2.1 hd hva (kk H locs ls hP hD hS hl)
theorem wd_iconst (C : wd_C p m c cc nL s args Ts own D tys A) {i : Int} {v : Int32} (hd : decode cc pc = .ok (.iconst i, 1)) (hv : Int32.ofInt i = v) (hj : pc + 1 = j) (kk : Wd p l e R s m args below meth c nL D A k n Q j lv (.int v :: rest) ws) : Wd p l e R s m args below meth c nL D A k n Q pc lv (rest) ws := by
  subst hj
  intro H locs ls hP hD hS hl
  exact lv_iconst C.1.1 C.1.2.1 hd hv (kk H locs ls hP hD hS hl)
theorem wd_bipush (C : wd_C p m c cc nL s args Ts own D tys A) {i : Int} {v : Int32} (hd : decode cc pc = .ok (.bipush i, 2)) (hv : (Int8.ofInt i).toInt32 = v) (hj : pc + 2 = j) (kk : Wd p l e R s m args below meth c nL D A k n Q j lv (.int v :: rest) ws) : Wd p l e R s m args below meth c nL D A k n Q pc lv (rest) ws := by
  subst hj
  intro H locs ls hP hD hS hl
  exact lv_bipush C.1.1 C.1.2.1 hd hv (kk H locs ls hP hD hS hl)
theorem wd_sipush (C : wd_C p m c cc nL s args Ts own D tys A) {i : Int} {v : Int32} (hd : decode cc pc = .ok (.sipush i, 3)) (hv : (Int16.ofInt i).toInt32 = v) (hj : pc + 3 = j) (kk : Wd p l e R s m args below meth c nL D A k n Q j lv (.int v :: rest) ws) : Wd p l e R s m args below meth c nL D A k n Q pc lv (rest) ws := by
  subst hj
  intro H locs ls hP hD hS hl
  exact lv_sipush C.1.1 C.1.2.1 hd hv (kk H locs ls hP hD hS hl)
theorem wd_lconst (C : wd_C p m c cc nL s args Ts own D tys A) {i : Fin 2} {v : Int64} (hd : decode cc pc = .ok (.lconst i, 1)) (hv : Int64.ofNat (i : Nat) = v) (hj : pc + 1 = j) (kk : Wd p l e R s m args below meth c nL D A k n Q j lv (.long v :: rest) ws) : Wd p l e R s m args below meth c nL D A k n Q pc lv (rest) ws := by
  subst hj
  intro H locs ls hP hD hS hl
  exact lv_lconst C.1.1 C.1.2.1 hd hv (kk H locs ls hP hD hS hl)
theorem wd_dconst0 (C : wd_C p m c cc nL s args Ts own D tys A)  (hd : decode cc pc = .ok (.dconst 0, 1))  (hj : pc + 1 = j) (kk : Wd p l e R s m args below meth c nL D A k n Q j lv (.double FP.dconst0 :: rest) ws) : Wd p l e R s m args below meth c nL D A k n Q pc lv (rest) ws := by
  subst hj
  intro H locs ls hP hD hS hl
  exact lv_dconst0 C.1.1 C.1.2.1 hd (kk H locs ls hP hD hS hl)
theorem wd_dconst1 (C : wd_C p m c cc nL s args Ts own D tys A)  (hd : decode cc pc = .ok (.dconst 1, 1))  (hj : pc + 1 = j) (kk : Wd p l e R s m args below meth c nL D A k n Q j lv (.double FP.dconst1 :: rest) ws) : Wd p l e R s m args below meth c nL D A k n Q pc lv (rest) ws := by
  subst hj
  intro H locs ls hP hD hS hl
  exact lv_dconst1 C.1.1 C.1.2.1 hd (kk H locs ls hP hD hS hl)
theorem wd_ldc (C : wd_C p m c cc nL s args Ts own D tys A) {ix : Nat} {v : Int32} (hd : decode cc pc = .ok (.ldc ix, 2)) (hc : Cond.constant own ix v ∈ Ts) (hj : pc + 2 = j) (kk : Wd p l e R s m args below meth c nL D A k n Q j lv (.int v :: rest) ws) : Wd p l e R s m args below meth c nL D A k n Q pc lv (rest) ws := by
  subst hj
  intro H locs ls hP hD hS hl
  exact lv_ldc C.1.1 C.1.2.1 C.1.2.2.2.1 (C.1.2.2.2.2 _ hc) hd (kk H locs ls hP hD hS hl)
theorem wd_ldc2 (C : wd_C p m c cc nL s args Ts own D tys A) {ix : Nat} {v : Int64} (hd : decode cc pc = .ok (.ldc2_w ix, 3)) (hc : Cond.constantLong own ix v ∈ Ts) (hj : pc + 3 = j) (kk : Wd p l e R s m args below meth c nL D A k n Q j lv (.long v :: rest) ws) : Wd p l e R s m args below meth c nL D A k n Q pc lv (rest) ws := by
  subst hj
  intro H locs ls hP hD hS hl
  exact lv_ldc2 C.1.1 C.1.2.1 C.1.2.2.2.1 (C.1.2.2.2.2 _ hc) hd (kk H locs ls hP hD hS hl)
theorem wd_ldc2d (C : wd_C p m c cc nL s args Ts own D tys A) {ix : Nat} {v : UInt64} (hd : decode cc pc = .ok (.ldc2_w ix, 3)) (hc : Cond.constantDouble own ix v ∈ Ts) (hj : pc + 3 = j) (kk : Wd p l e R s m args below meth c nL D A k n Q j lv (.double v :: rest) ws) : Wd p l e R s m args below meth c nL D A k n Q pc lv (rest) ws := by
  subst hj
  intro H locs ls hP hD hS hl
  exact lv_ldc2d C.1.1 C.1.2.1 C.1.2.2.2.1 (C.1.2.2.2.2 _ hc) hd (kk H locs ls hP hD hS hl)
theorem wd_iload_n (C : wd_C p m c cc nL s args Ts own D tys A) {f4 : Fin 4} {i : Nat} {x : Int32} (kx : Nat) (hd : decode cc pc = .ok (.iload_n f4, 1)) (hi : (f4 : Nat) = i) (hx : lv[kx]? = some (i, .int x)) (hj : pc + 1 = j) (kk : Wd p l e R s m args below meth c nL D A k n Q j lv (.int x :: rest) ws) : Wd p l e R s m args below meth c nL D A k n Q pc lv (rest) ws := by
  subst hj
  intro H locs ls hP hD hS hl
  exact lv_iload_n C.1.1 C.1.2.1 hd hi (lv_at hl kx hx) (kk H locs ls hP hD hS hl)
theorem wd_iload (C : wd_C p m c cc nL s args Ts own D tys A) {i : Nat} {x : Int32} (kx : Nat) (hd : decode cc pc = .ok (.iload i, 2)) (hx : lv[kx]? = some (i, .int x)) (hj : pc + 2 = j) (kk : Wd p l e R s m args below meth c nL D A k n Q j lv (.int x :: rest) ws) : Wd p l e R s m args below meth c nL D A k n Q pc lv (rest) ws := by
  subst hj
  intro H locs ls hP hD hS hl
  exact lv_iload C.1.1 C.1.2.1 hd (lv_at hl kx hx) (kk H locs ls hP hD hS hl)
theorem wd_lload_n (C : wd_C p m c cc nL s args Ts own D tys A) {f4 : Fin 4} {i : Nat} {x : Int64} (kx : Nat) (hd : decode cc pc = .ok (.lload_n f4, 1)) (hi : (f4 : Nat) = i) (hx : lv[kx]? = some (i, .long x)) (hj : pc + 1 = j) (kk : Wd p l e R s m args below meth c nL D A k n Q j lv (.long x :: rest) ws) : Wd p l e R s m args below meth c nL D A k n Q pc lv (rest) ws := by
  subst hj
  intro H locs ls hP hD hS hl
  exact lv_lload_n C.1.1 C.1.2.1 hd hi (lv_at hl kx hx) (kk H locs ls hP hD hS hl)
theorem wd_lload (C : wd_C p m c cc nL s args Ts own D tys A) {i : Nat} {x : Int64} (kx : Nat) (hd : decode cc pc = .ok (.lload i, 2)) (hx : lv[kx]? = some (i, .long x)) (hj : pc + 2 = j) (kk : Wd p l e R s m args below meth c nL D A k n Q j lv (.long x :: rest) ws) : Wd p l e R s m args below meth c nL D A k n Q pc lv (rest) ws := by
  subst hj
  intro H locs ls hP hD hS hl
  exact lv_lload C.1.1 C.1.2.1 hd (lv_at hl kx hx) (kk H locs ls hP hD hS hl)
theorem wd_dload_n (C : wd_C p m c cc nL s args Ts own D tys A) {f4 : Fin 4} {i : Nat} {x : UInt64} (kx : Nat) (hd : decode cc pc = .ok (.dload_n f4, 1)) (hi : (f4 : Nat) = i) (hx : lv[kx]? = some (i, .double x)) (hj : pc + 1 = j) (kk : Wd p l e R s m args below meth c nL D A k n Q j lv (.double x :: rest) ws) : Wd p l e R s m args below meth c nL D A k n Q pc lv (rest) ws := by
  subst hj
  intro H locs ls hP hD hS hl
  exact lv_dload_n C.1.1 C.1.2.1 hd hi (lv_at hl kx hx) (kk H locs ls hP hD hS hl)
theorem wd_dload (C : wd_C p m c cc nL s args Ts own D tys A) {i : Nat} {x : UInt64} (kx : Nat) (hd : decode cc pc = .ok (.dload i, 2)) (hx : lv[kx]? = some (i, .double x)) (hj : pc + 2 = j) (kk : Wd p l e R s m args below meth c nL D A k n Q j lv (.double x :: rest) ws) : Wd p l e R s m args below meth c nL D A k n Q pc lv (rest) ws := by
  subst hj
  intro H locs ls hP hD hS hl
  exact lv_dload C.1.1 C.1.2.1 hd (lv_at hl kx hx) (kk H locs ls hP hD hS hl)
theorem wd_aload_n (C : wd_C p m c cc nL s args Ts own D tys A) {f4 : Fin 4} {i : Nat} {x : Nat} (kx : Nat) (hd : decode cc pc = .ok (.aload_n f4, 1)) (hi : (f4 : Nat) = i) (hx : lv[kx]? = some (i, .ref x)) (hj : pc + 1 = j) (kk : Wd p l e R s m args below meth c nL D A k n Q j lv (.ref x :: rest) ws) : Wd p l e R s m args below meth c nL D A k n Q pc lv (rest) ws := by
  subst hj
  intro H locs ls hP hD hS hl
  exact lv_aload_n C.1.1 C.1.2.1 hd hi (lv_at hl kx hx) (kk H locs ls hP hD hS hl)
theorem wd_aload (C : wd_C p m c cc nL s args Ts own D tys A) {i : Nat} {x : Nat} (kx : Nat) (hd : decode cc pc = .ok (.aload i, 2)) (hx : lv[kx]? = some (i, .ref x)) (hj : pc + 2 = j) (kk : Wd p l e R s m args below meth c nL D A k n Q j lv (.ref x :: rest) ws) : Wd p l e R s m args below meth c nL D A k n Q pc lv (rest) ws := by
  subst hj
  intro H locs ls hP hD hS hl
  exact lv_aload C.1.1 C.1.2.1 hd (lv_at hl kx hx) (kk H locs ls hP hD hS hl)
theorem wd_istore_n (C : wd_C p m c cc nL s args Ts own D tys A) {f4 : Fin 4} {i : Nat} {x : Int32} (hd : decode cc pc = .ok (.istore_n f4, 1)) (hi : (f4 : Nat) = i) (hn : i < nL) (hv : (i, Value.int x) :: lv.filter (fun q => !(q.1 == i) && !(q.1 + 1 == i && q.2.category == 2)) = lv') (hj : pc + 1 = j) (kk : Wd p l e R s m args below meth c nL D A k n Q j lv' (rest) ws) : Wd p l e R s m args below meth c nL D A k n Q pc lv (.int x :: rest) ws := by
  subst hj
  intro H locs ls hP hD hS hl
  exact lv_istore_n C.1.1 C.1.2.1 hd hi hl hn hv (fun ls hl => kk H locs ls hP hD hS hl)
theorem wd_istore (C : wd_C p m c cc nL s args Ts own D tys A) {i : Nat} {x : Int32} (hd : decode cc pc = .ok (.istore i, 2)) (hn : i < nL) (hv : (i, Value.int x) :: lv.filter (fun q => !(q.1 == i) && !(q.1 + 1 == i && q.2.category == 2)) = lv') (hj : pc + 2 = j) (kk : Wd p l e R s m args below meth c nL D A k n Q j lv' (rest) ws) : Wd p l e R s m args below meth c nL D A k n Q pc lv (.int x :: rest) ws := by
  subst hj
  intro H locs ls hP hD hS hl
  exact lv_istore C.1.1 C.1.2.1 hd hl hn hv (fun ls hl => kk H locs ls hP hD hS hl)
theorem wd_lstore_n (C : wd_C p m c cc nL s args Ts own D tys A) {f4 : Fin 4} {i : Nat} {x : Int64} (hd : decode cc pc = .ok (.lstore_n f4, 1)) (hi : (f4 : Nat) = i) (hn : i + 1 < nL) (hv : (i, Value.long x) :: lv.filter (fun q => !(q.1 == i) && (!(q.1 == i + 1) && !(q.1 + 1 == i && q.2.category == 2))) = lv') (hj : pc + 1 = j) (kk : Wd p l e R s m args below meth c nL D A k n Q j lv' (rest) ws) : Wd p l e R s m args below meth c nL D A k n Q pc lv (.long x :: rest) ws := by
  subst hj
  intro H locs ls hP hD hS hl
  exact lv_lstore_n C.1.1 C.1.2.1 hd hi hl hn hv (fun ls hl => kk H locs ls hP hD hS hl)
theorem wd_lstore (C : wd_C p m c cc nL s args Ts own D tys A) {i : Nat} {x : Int64} (hd : decode cc pc = .ok (.lstore i, 2)) (hn : i + 1 < nL) (hv : (i, Value.long x) :: lv.filter (fun q => !(q.1 == i) && (!(q.1 == i + 1) && !(q.1 + 1 == i && q.2.category == 2))) = lv') (hj : pc + 2 = j) (kk : Wd p l e R s m args below meth c nL D A k n Q j lv' (rest) ws) : Wd p l e R s m args below meth c nL D A k n Q pc lv (.long x :: rest) ws := by
  subst hj
  intro H locs ls hP hD hS hl
  exact lv_lstore C.1.1 C.1.2.1 hd hl hn hv (fun ls hl => kk H locs ls hP hD hS hl)
theorem wd_dstore_n (C : wd_C p m c cc nL s args Ts own D tys A) {f4 : Fin 4} {i : Nat} {x : UInt64} (hd : decode cc pc = .ok (.dstore_n f4, 1)) (hi : (f4 : Nat) = i) (hn : i + 1 < nL) (hv : (i, Value.double x) :: lv.filter (fun q => !(q.1 == i) && (!(q.1 == i + 1) && !(q.1 + 1 == i && q.2.category == 2))) = lv') (hj : pc + 1 = j) (kk : Wd p l e R s m args below meth c nL D A k n Q j lv' (rest) ws) : Wd p l e R s m args below meth c nL D A k n Q pc lv (.double x :: rest) ws := by
  subst hj
  intro H locs ls hP hD hS hl
  exact lv_dstore_n C.1.1 C.1.2.1 hd hi hl hn hv (fun ls hl => kk H locs ls hP hD hS hl)
theorem wd_dstore (C : wd_C p m c cc nL s args Ts own D tys A) {i : Nat} {x : UInt64} (hd : decode cc pc = .ok (.dstore i, 2)) (hn : i + 1 < nL) (hv : (i, Value.double x) :: lv.filter (fun q => !(q.1 == i) && (!(q.1 == i + 1) && !(q.1 + 1 == i && q.2.category == 2))) = lv') (hj : pc + 2 = j) (kk : Wd p l e R s m args below meth c nL D A k n Q j lv' (rest) ws) : Wd p l e R s m args below meth c nL D A k n Q pc lv (.double x :: rest) ws := by
  subst hj
  intro H locs ls hP hD hS hl
  exact lv_dstore C.1.1 C.1.2.1 hd hl hn hv (fun ls hl => kk H locs ls hP hD hS hl)
theorem wd_astore_n (C : wd_C p m c cc nL s args Ts own D tys A) {f4 : Fin 4} {i : Nat} {x : Nat} (hd : decode cc pc = .ok (.astore_n f4, 1)) (hi : (f4 : Nat) = i) (hn : i < nL) (hv : (i, Value.ref x) :: lv.filter (fun q => !(q.1 == i) && !(q.1 + 1 == i && q.2.category == 2)) = lv') (hj : pc + 1 = j) (kk : Wd p l e R s m args below meth c nL D A k n Q j lv' (rest) ws) : Wd p l e R s m args below meth c nL D A k n Q pc lv (.ref x :: rest) ws := by
  subst hj
  intro H locs ls hP hD hS hl
  exact lv_astore_n C.1.1 C.1.2.1 hd hi hl hn hv (fun ls hl => kk H locs ls hP hD hS hl)
theorem wd_astore (C : wd_C p m c cc nL s args Ts own D tys A) {i : Nat} {x : Nat} (hd : decode cc pc = .ok (.astore i, 2)) (hn : i < nL) (hv : (i, Value.ref x) :: lv.filter (fun q => !(q.1 == i) && !(q.1 + 1 == i && q.2.category == 2)) = lv') (hj : pc + 2 = j) (kk : Wd p l e R s m args below meth c nL D A k n Q j lv' (rest) ws) : Wd p l e R s m args below meth c nL D A k n Q pc lv (.ref x :: rest) ws := by
  subst hj
  intro H locs ls hP hD hS hl
  exact lv_astore C.1.1 C.1.2.1 hd hl hn hv (fun ls hl => kk H locs ls hP hD hS hl)
theorem wd_iinc (C : wd_C p m c cc nL s args Ts own D tys A) {i : Nat} {d : Int} {x v : Int32} (kx : Nat) (hd : decode cc pc = .ok (.iinc i d, 3)) (hx : lv[kx]? = some (i, .int x)) (hxv : x + Int32.ofInt d = v) (hn : i < nL) (hv : (i, Value.int v) :: lv.filter (fun q => !(q.1 == i) && !(q.1 + 1 == i && q.2.category == 2)) = lv') (hj : pc + 3 = j) (kk : Wd p l e R s m args below meth c nL D A k n Q j lv' (rest) ws) : Wd p l e R s m args below meth c nL D A k n Q pc lv (rest) ws := by
  subst hj
  intro H locs ls hP hD hS hl
  exact lv_iinc C.1.1 C.1.2.1 hd hl hx hxv hn hv (fun ls hl => kk H locs ls hP hD hS hl)
theorem wd_if_eq (C : wd_C p m c cc nL s args Ts own D tys A) {x : Int32} {off : Int} {t : Nat} (hd : decode cc pc = .ok (.ifCond .eq off, 3)) (ht : (pc : Int) + off = (t : Int)) (hj : pc + 3 = j) (kt : x = 0 → Wd p l e R s m args below meth c nL D A k n Q t lv (rest) ws) (kf : ¬ x = 0 → Wd p l e R s m args below meth c nL D A k n Q j lv (rest) ws) : Wd p l e R s m args below meth c nL D A k n Q pc lv (.int x :: rest) ws := by
  subst hj
  intro H locs ls hP hD hS hl
  exact lv_if_eq C.1.1 C.1.2.1 hd ht (fun h => kt h H locs ls hP hD hS hl) (fun h => kf h H locs ls hP hD hS hl)
theorem wd_if_ne (C : wd_C p m c cc nL s args Ts own D tys A) {x : Int32} {off : Int} {t : Nat} (hd : decode cc pc = .ok (.ifCond .ne off, 3)) (ht : (pc : Int) + off = (t : Int)) (hj : pc + 3 = j) (kt : ¬ x = 0 → Wd p l e R s m args below meth c nL D A k n Q t lv (rest) ws) (kf : x = 0 → Wd p l e R s m args below meth c nL D A k n Q j lv (rest) ws) : Wd p l e R s m args below meth c nL D A k n Q pc lv (.int x :: rest) ws := by
  subst hj
  intro H locs ls hP hD hS hl
  exact lv_if_ne C.1.1 C.1.2.1 hd ht (fun h => kt h H locs ls hP hD hS hl) (fun h => kf h H locs ls hP hD hS hl)
theorem wd_if_lt (C : wd_C p m c cc nL s args Ts own D tys A) {x : Int32} {off : Int} {t : Nat} (hd : decode cc pc = .ok (.ifCond .lt off, 3)) (ht : (pc : Int) + off = (t : Int)) (hj : pc + 3 = j) (kt : x < 0 → Wd p l e R s m args below meth c nL D A k n Q t lv (rest) ws) (kf : ¬ x < 0 → Wd p l e R s m args below meth c nL D A k n Q j lv (rest) ws) : Wd p l e R s m args below meth c nL D A k n Q pc lv (.int x :: rest) ws := by
  subst hj
  intro H locs ls hP hD hS hl
  exact lv_if_lt C.1.1 C.1.2.1 hd ht (fun h => kt h H locs ls hP hD hS hl) (fun h => kf h H locs ls hP hD hS hl)
theorem wd_if_ge (C : wd_C p m c cc nL s args Ts own D tys A) {x : Int32} {off : Int} {t : Nat} (hd : decode cc pc = .ok (.ifCond .ge off, 3)) (ht : (pc : Int) + off = (t : Int)) (hj : pc + 3 = j) (kt : 0 ≤ x → Wd p l e R s m args below meth c nL D A k n Q t lv (rest) ws) (kf : ¬ 0 ≤ x → Wd p l e R s m args below meth c nL D A k n Q j lv (rest) ws) : Wd p l e R s m args below meth c nL D A k n Q pc lv (.int x :: rest) ws := by
  subst hj
  intro H locs ls hP hD hS hl
  exact lv_if_ge C.1.1 C.1.2.1 hd ht (fun h => kt h H locs ls hP hD hS hl) (fun h => kf h H locs ls hP hD hS hl)
theorem wd_if_gt (C : wd_C p m c cc nL s args Ts own D tys A) {x : Int32} {off : Int} {t : Nat} (hd : decode cc pc = .ok (.ifCond .gt off, 3)) (ht : (pc : Int) + off = (t : Int)) (hj : pc + 3 = j) (kt : 0 < x → Wd p l e R s m args below meth c nL D A k n Q t lv (rest) ws) (kf : ¬ 0 < x → Wd p l e R s m args below meth c nL D A k n Q j lv (rest) ws) : Wd p l e R s m args below meth c nL D A k n Q pc lv (.int x :: rest) ws := by
  subst hj
  intro H locs ls hP hD hS hl
  exact lv_if_gt C.1.1 C.1.2.1 hd ht (fun h => kt h H locs ls hP hD hS hl) (fun h => kf h H locs ls hP hD hS hl)
theorem wd_if_le (C : wd_C p m c cc nL s args Ts own D tys A) {x : Int32} {off : Int} {t : Nat} (hd : decode cc pc = .ok (.ifCond .le off, 3)) (ht : (pc : Int) + off = (t : Int)) (hj : pc + 3 = j) (kt : x ≤ 0 → Wd p l e R s m args below meth c nL D A k n Q t lv (rest) ws) (kf : ¬ x ≤ 0 → Wd p l e R s m args below meth c nL D A k n Q j lv (rest) ws) : Wd p l e R s m args below meth c nL D A k n Q pc lv (.int x :: rest) ws := by
  subst hj
  intro H locs ls hP hD hS hl
  exact lv_if_le C.1.1 C.1.2.1 hd ht (fun h => kt h H locs ls hP hD hS hl) (fun h => kf h H locs ls hP hD hS hl)
theorem wd_icmp_eq (C : wd_C p m c cc nL s args Ts own D tys A) {x y : Int32} {off : Int} {t : Nat} (hd : decode cc pc = .ok (.if_icmp .eq off, 3)) (ht : (pc : Int) + off = (t : Int)) (hj : pc + 3 = j) (kt : x = y → Wd p l e R s m args below meth c nL D A k n Q t lv (rest) ws) (kf : ¬ x = y → Wd p l e R s m args below meth c nL D A k n Q j lv (rest) ws) : Wd p l e R s m args below meth c nL D A k n Q pc lv (.int y :: .int x :: rest) ws := by
  subst hj
  intro H locs ls hP hD hS hl
  exact lv_icmp_eq C.1.1 C.1.2.1 hd ht (fun h => kt h H locs ls hP hD hS hl) (fun h => kf h H locs ls hP hD hS hl)
theorem wd_icmp_ne (C : wd_C p m c cc nL s args Ts own D tys A) {x y : Int32} {off : Int} {t : Nat} (hd : decode cc pc = .ok (.if_icmp .ne off, 3)) (ht : (pc : Int) + off = (t : Int)) (hj : pc + 3 = j) (kt : ¬ x = y → Wd p l e R s m args below meth c nL D A k n Q t lv (rest) ws) (kf : x = y → Wd p l e R s m args below meth c nL D A k n Q j lv (rest) ws) : Wd p l e R s m args below meth c nL D A k n Q pc lv (.int y :: .int x :: rest) ws := by
  subst hj
  intro H locs ls hP hD hS hl
  exact lv_icmp_ne C.1.1 C.1.2.1 hd ht (fun h => kt h H locs ls hP hD hS hl) (fun h => kf h H locs ls hP hD hS hl)
theorem wd_icmp_lt (C : wd_C p m c cc nL s args Ts own D tys A) {x y : Int32} {off : Int} {t : Nat} (hd : decode cc pc = .ok (.if_icmp .lt off, 3)) (ht : (pc : Int) + off = (t : Int)) (hj : pc + 3 = j) (kt : x < y → Wd p l e R s m args below meth c nL D A k n Q t lv (rest) ws) (kf : ¬ x < y → Wd p l e R s m args below meth c nL D A k n Q j lv (rest) ws) : Wd p l e R s m args below meth c nL D A k n Q pc lv (.int y :: .int x :: rest) ws := by
  subst hj
  intro H locs ls hP hD hS hl
  exact lv_icmp_lt C.1.1 C.1.2.1 hd ht (fun h => kt h H locs ls hP hD hS hl) (fun h => kf h H locs ls hP hD hS hl)
theorem wd_icmp_ge (C : wd_C p m c cc nL s args Ts own D tys A) {x y : Int32} {off : Int} {t : Nat} (hd : decode cc pc = .ok (.if_icmp .ge off, 3)) (ht : (pc : Int) + off = (t : Int)) (hj : pc + 3 = j) (kt : y ≤ x → Wd p l e R s m args below meth c nL D A k n Q t lv (rest) ws) (kf : ¬ y ≤ x → Wd p l e R s m args below meth c nL D A k n Q j lv (rest) ws) : Wd p l e R s m args below meth c nL D A k n Q pc lv (.int y :: .int x :: rest) ws := by
  subst hj
  intro H locs ls hP hD hS hl
  exact lv_icmp_ge C.1.1 C.1.2.1 hd ht (fun h => kt h H locs ls hP hD hS hl) (fun h => kf h H locs ls hP hD hS hl)
theorem wd_icmp_gt (C : wd_C p m c cc nL s args Ts own D tys A) {x y : Int32} {off : Int} {t : Nat} (hd : decode cc pc = .ok (.if_icmp .gt off, 3)) (ht : (pc : Int) + off = (t : Int)) (hj : pc + 3 = j) (kt : y < x → Wd p l e R s m args below meth c nL D A k n Q t lv (rest) ws) (kf : ¬ y < x → Wd p l e R s m args below meth c nL D A k n Q j lv (rest) ws) : Wd p l e R s m args below meth c nL D A k n Q pc lv (.int y :: .int x :: rest) ws := by
  subst hj
  intro H locs ls hP hD hS hl
  exact lv_icmp_gt C.1.1 C.1.2.1 hd ht (fun h => kt h H locs ls hP hD hS hl) (fun h => kf h H locs ls hP hD hS hl)
theorem wd_icmp_le (C : wd_C p m c cc nL s args Ts own D tys A) {x y : Int32} {off : Int} {t : Nat} (hd : decode cc pc = .ok (.if_icmp .le off, 3)) (ht : (pc : Int) + off = (t : Int)) (hj : pc + 3 = j) (kt : x ≤ y → Wd p l e R s m args below meth c nL D A k n Q t lv (rest) ws) (kf : ¬ x ≤ y → Wd p l e R s m args below meth c nL D A k n Q j lv (rest) ws) : Wd p l e R s m args below meth c nL D A k n Q pc lv (.int y :: .int x :: rest) ws := by
  subst hj
  intro H locs ls hP hD hS hl
  exact lv_icmp_le C.1.1 C.1.2.1 hd ht (fun h => kt h H locs ls hP hD hS hl) (fun h => kf h H locs ls hP hD hS hl)
theorem wd_goto (C : wd_C p m c cc nL s args Ts own D tys A) {off : Int} {t : Nat} (hd : decode cc pc = .ok (.goto off, 3)) (ht : (pc : Int) + off = (t : Int)) (kk : Wd p l e R s m args below meth c nL D A k n Q t lv (rest) ws) : Wd p l e R s m args below meth c nL D A k n Q pc lv (rest) ws := by
  intro H locs ls hP hD hS hl
  exact lv_goto C.1.1 C.1.2.1 hd ht (kk H locs ls hP hD hS hl)
theorem wd_lookup (C : wd_C p m c cc nL s args Ts own D tys A) {dflt : Int} {ps : Array (Int × Int)} {len : Nat} {x : Int32} {off : Int} {t : Nat} (hd : decode cc pc = .ok (.lookupswitch dflt ps, len)) (hp : (ps.toList.zip (ps.toList.drop 1)).all (fun (a, next) => a.1 < next.1) = true) (ho : Op.lookupswitch.offset ps.toList dflt x.toInt = off) (ht : (pc : Int) + off = (t : Int)) (kk : Wd p l e R s m args below meth c nL D A k n Q t lv (rest) ws) : Wd p l e R s m args below meth c nL D A k n Q pc lv (.int x :: rest) ws := by
  intro H locs ls hP hD hS hl
  exact lv_lookup C.1.1 C.1.2.1 hd hp ho ht (kk H locs ls hP hD hS hl)
theorem wd_lv (ks : List Nat) (hk : lv_pick lv ks = lv') (kk : Wd p l e R s m args below meth c nL D A k n Q pc lv' (rest) ws) : Wd p l e R s m args below meth c nL D A k n Q pc lv (rest) ws := fun H locs ls hP hD hS hl => kk H locs ls hP hD hS (lv_sub hl ks hk)
theorem wd_eq {pc' : Nat} {st st' : List Value} (h1 : pc' = pc) (h2 : lv' = lv) (h3 : st' = st) (h4 : ws' = ws) (kk : Wd p l e R s m args below meth c nL D A k n Q pc' lv' (st') ws') : Wd p l e R s m args below meth c nL D A k n Q pc lv (st) ws := by
  subst h1; subst h2; subst h3; subst h4
  exact kk
theorem wd_get (C : wd_C p m c cc nL s args Ts own D tys A) {Cn : String} {T : u_T} {N ci ix q0 f a : Nat} {fs : List Value} {v : Value} (hin : ∀ w ∈ u_ws Cn T N, w ∈ Ts) (hlk : Cond.fieldLink own ix (T f).1 (T f).2.1 (T f).2.2.1 ∈ Ts) (hc : vwCl[ci]? = some (Cn, T, N)) (hf : f < N) (he : ws[q0]? = some (a, .inr (ci, fs))) (hv : fs[f]? = some v) (hd : decode cc pc = .ok (.getfield ix, 3)) (hj : pc + 3 = j) (kk : Wd p l e R s m args below meth c nL D A k n Q j lv (v :: rest) ws) : Wd p l e R s m args below meth c nL D A k n Q pc lv (.ref a :: rest) ws := by
  subst hj
  intro H locs ls hP hD hS hl
  exact va_get (D := D) (ci := ci) (v := v) (C := Cn) (T := T) (N := N) C.1.1 C.1.2.1 C.1.2.2.2.2 hin C.1.2.2.2.1 C.2.1 hP q0 he hc f hf (C.1.2.2.2.2 _ hlk) (fun _ h9 => h9) hv hd (kk H locs ls hP hD hS hl)
theorem wd_put (C : wd_C p m c cc nL s args Ts own D tys A) {Cn : String} {T : u_T} {N ci ix q0 f a : Nat} {fs : List Value} {v : Value} (hin : ∀ w ∈ u_ws Cn T N, w ∈ Ts) (ty0 : Nat → FieldType) (hty : ∀ k, k < N → parseFieldDescriptor (T k).2.2.1 = some (ty0 k)) (hnm : ∀ a, a < N → ∀ b, b < N → a ≠ b → (T a).2.1 ≠ (T b).2.1) (hlk : Cond.fieldLink own ix (T f).1 (T f).2.1 (T f).2.2.1 ∈ Ts) (hc : vwCl[ci]? = some (Cn, T, N)) (hf : f < N) (he : ws[q0]? = some (a, .inr (ci, fs))) (hfin : (T f).2.2.2 = false) (hn : narrow (ty0 f) v = v) (hfit : fits (ty0 f) v = true) (hl0 : f < fs.length) (hws : ws.set q0 (a, .inr (ci, fs.set f v)) = ws') (hd : decode cc pc = .ok (.putfield ix, 3)) (hj : pc + 3 = j) (kk : Wd p l e R s m args below meth c nL D A k n Q j lv (rest) ws') : Wd p l e R s m args below meth c nL D A k n Q pc lv (v :: .ref a :: rest) ws := by
  subst hj; subst hws
  intro H locs ls hP hD hS hl
  exact va_put (D := D) (ci := ci) (v := v) (C := Cn) (T := T) (N := N) C.1.1 C.1.2.1 C.1.2.2.2.2 hin ty0 hty hnm C.1.2.2.2.1 C.2.1 hP hD hS q0 he hc f hf (C.1.2.2.2.2 _ hlk) (fun _ h9 => h9) hfin (hty f hf) hn hfit hl0 hd (fun H1 locs1 hP hD hS => kk H1 locs1 ls hP hD hS hl)
theorem wd_iald (C : wd_C p m c cc nL s args Ts own D tys A) {q0 t0 a : Nat} {cA : ClassId} {z : Nat} {f : Nat → Int32} {i : Int32} (ha : ws[q0]? = some (a, .inl (cA, z, .inl f))) (ht : tys[t0]? = some (cA, .int)) (hi : vp_in i z) (hd : decode cc pc = .ok (.iaload, 1)) (hj : pc + 1 = j) (kk : Wd p l e R s m args below meth c nL D A k n Q j lv (.int (f i.toNatClampNeg) :: rest) ws) : Wd p l e R s m args below meth c nL D A k n Q pc lv (.int i :: .ref a :: rest) ws := by
  subst hj
  intro H locs ls hP hD hS hl
  exact va_iald C.1.1 C.1.2.1 C.2.1 hP q0 t0 ha ht hi hd (kk H locs ls hP hD hS hl)
theorem wd_iast (C : wd_C p m c cc nL s args Ts own D tys A) {q0 t0 a : Nat} {cA : ClassId} {z : Nat} {f : Nat → Int32} {i : Int32} {x : Int32} (ha : ws[q0]? = some (a, .inl (cA, z, .inl f))) (ht : tys[t0]? = some (cA, .int)) (hi : vp_in i z) (hws : ws.set q0 (a, .inl (cA, z, .inl (upd f i.toNatClampNeg x))) = ws') (hd : decode cc pc = .ok (.iastore, 1)) (hj : pc + 1 = j) (kk : Wd p l e R s m args below meth c nL D A k n Q j lv (rest) ws') : Wd p l e R s m args below meth c nL D A k n Q pc lv (.int x :: .int i :: .ref a :: rest) ws := by
  subst hj; subst hws
  intro H locs ls hP hD hS hl
  exact va_iast C.1.1 C.1.2.1 C.2.1 hP hD hS q0 t0 ha ht hi hd (fun H1 locs1 hP hD hS => kk H1 locs1 ls hP hD hS hl)
theorem wd_dald (C : wd_C p m c cc nL s args Ts own D tys A) {q0 t0 a : Nat} {cA : ClassId} {z : Nat} {f : Nat → UInt64} {i : Int32} (ha : ws[q0]? = some (a, .inl (cA, z, .inr (.inr (.inr (.inl f)))))) (ht : tys[t0]? = some (cA, .double)) (hi : vp_in i z) (hd : decode cc pc = .ok (.daload, 1)) (hj : pc + 1 = j) (kk : Wd p l e R s m args below meth c nL D A k n Q j lv (.double (f i.toNatClampNeg) :: rest) ws) : Wd p l e R s m args below meth c nL D A k n Q pc lv (.int i :: .ref a :: rest) ws := by
  subst hj
  intro H locs ls hP hD hS hl
  exact va_dald C.1.1 C.1.2.1 C.2.1 hP q0 t0 ha ht hi hd (kk H locs ls hP hD hS hl)
theorem wd_dast (C : wd_C p m c cc nL s args Ts own D tys A) {q0 t0 a : Nat} {cA : ClassId} {z : Nat} {f : Nat → UInt64} {i : Int32} {x : UInt64} (ha : ws[q0]? = some (a, .inl (cA, z, .inr (.inr (.inr (.inl f)))))) (ht : tys[t0]? = some (cA, .double)) (hi : vp_in i z) (hws : ws.set q0 (a, .inl (cA, z, .inr (.inr (.inr (.inl (vf_upd f i.toNatClampNeg x)))))) = ws') (hd : decode cc pc = .ok (.dastore, 1)) (hj : pc + 1 = j) (kk : Wd p l e R s m args below meth c nL D A k n Q j lv (rest) ws') : Wd p l e R s m args below meth c nL D A k n Q pc lv (.double x :: .int i :: .ref a :: rest) ws := by
  subst hj; subst hws
  intro H locs ls hP hD hS hl
  exact va_dast C.1.1 C.1.2.1 C.2.1 hP hD hS q0 t0 ha ht hi hd (fun H1 locs1 hP hD hS => kk H1 locs1 ls hP hD hS hl)
theorem wd_copy (C : wd_C p m c cc nL s args Ts own D tys A) {ix q0 q1 t0 a0 a : Nat} {cA : ClassId} {z0 z1 : Nat} {f g : Nat → Int32} {sp dp w : Int32} {sp0 dp0 w0 : Nat} (hl1 : Cond.methodLink own ix arraycopyName ∈ Ts) (hl2 : Cond.native arraycopyName ∈ Ts) (hl3 : Cond.static arraycopyName ∈ Ts) (hl4 : Cond.initialized "java/lang/System" ∈ Ts) (ha0 : ws[q0]? = some (a0, .inl (cA, z0, .inl f))) (ha1 : ws[q1]? = some (a, .inl (cA, z1, .inl g))) (ht : tys[t0]? = some (cA, .int)) (h1 : ¬ sp < 0) (h2 : ¬ dp < 0) (h3 : ¬ w < 0) (e1 : sp.toNatClampNeg = sp0) (e2 : dp.toNatClampNeg = dp0) (e3 : w.toNatClampNeg = w0) (h4 : sp0 + w0 ≤ z0) (h5 : dp0 + w0 ≤ z1) (hfr : 1 ≤ R.frames) (hlo : (rest.map fun v => v.category).sum + (nativeFrameWords "java/lang/System" "arraycopy" 5 + 11) ≤ R.locals) (hws : ws.set q1 (a, .inl (cA, z1, .inl (va_cpy f g sp0 dp0 w0))) = ws') (hd : decode cc pc = .ok (.invokestatic ix, 3)) (hj : pc + 3 = j) (kk : Wd p l e R s m args below meth c nL D A k n Q j lv (rest) ws') : Wd p l e R s m args below meth c nL D A k n Q pc lv (.int w :: .int dp :: .ref a :: .int sp :: .ref a0 :: rest) ws := by
  subst hj; subst hws; subst e1; subst e2; subst e3
  intro H locs ls hP hD hS hl
  exact va_copyi C.1.1 C.1.2.1 (C.1.2.2.1.trans hl.1.symm) C.1.2.2.2.1 (C.1.2.2.2.2 _ hl1) (C.1.2.2.2.2 _ hl2) (C.1.2.2.2.2 _ hl3) (C.1.2.2.2.2 _ hl4) C.2.1 hP hD hS q0 q1 t0 t0 ha0 ha1 ht ht rfl h1 h2 h3 h4 h5 (fun _ _ => rfl) hfr hlo hd (fun H1 locs1 hP hD hS => kk H1 locs1 ls hP hD hS hl)
theorem wd_raw (C : wd_C p m c cc nL s args Ts own D tys A) {ix : Nat} {b : UInt64} (hl1 : Cond.methodLink own ix ⟨"java/lang/Double", "doubleToRawLongBits", "(D)J"⟩ ∈ Ts) (hl2 : Cond.native ⟨"java/lang/Double", "doubleToRawLongBits", "(D)J"⟩ ∈ Ts) (hl3 : Cond.static ⟨"java/lang/Double", "doubleToRawLongBits", "(D)J"⟩ ∈ Ts) (hl4 : Cond.initialized "java/lang/Double" ∈ Ts) (hfr : 1 ≤ R.frames) (hlo : (rest.map fun v => v.category).sum + 15 ≤ R.locals) (hd : decode cc pc = .ok (.invokestatic ix, 3)) (hj : pc + 3 = j) (kk : Wd p l e R s m args below meth c nL D A k n Q j lv (.long b.toInt64 :: rest) ws) : Wd p l e R s m args below meth c nL D A k n Q pc lv (.double b :: rest) ws := by
  subst hj
  intro H locs ls hP hD hS hl
  exact vn_d2l C.1.1 C.1.2.1 (C.1.2.2.1.trans hl.1.symm) C.1.2.2.2.1 (C.1.2.2.2.2 _ hl1) (C.1.2.2.2.2 _ hl2) (C.1.2.2.2.2 _ hl3) (C.1.2.2.2.2 _ hl4) hfr hlo hd (kk H locs ls hP hD hS hl)
/-- a method's start: its arguments, and its world -/
def wd_P (D : va_G) (tys : List (ClassId × FieldType)) (av : List Value) (ws : va_W) (sz : Nat) : Array Value → State → Prop := va_Pc av (fun U => U.heap.size = sz ∧ va_P D vwCl ws U.heap ∧ va_K D vwCl tys U ∧ va_D (fun _ => True) ws)
/-- the world behind it -/
def wd_B (D : va_G) (tys : List (ClassId × FieldType)) (w1 : va_W) (A : Nat → Prop) : Unit → State → Prop := fun _ t => va_P D vwCl w1 t.heap ∧ va_K D vwCl tys t ∧ va_D A w1
def MetI (l : Launch) (y : MethodName) (wc : List Cond) (rm : Room) (D : va_G) (tys : List (ClassId × FieldType)) (av : List Value) (w0 : va_W) (r : Int32) (w1 : va_W) : Prop := ∀ sz : Nat, Met l y wc rm (wd_P D tys av w0 sz) (va_Qi (fun (r' : Int32) (_ : Unit) => r' = r) (wd_B D tys w1 (va_A w0 sz)) (va_A w0 sz)) 0 0 (va_A w0 sz)
def MetL (l : Launch) (y : MethodName) (wc : List Cond) (rm : Room) (D : va_G) (tys : List (ClassId × FieldType)) (av : List Value) (w0 : va_W) (r : Int64) (w1 : va_W) : Prop := ∀ sz : Nat, Met l y wc rm (wd_P D tys av w0 sz) (va_Ql (fun (r' : Int64) (_ : Unit) => r' = r) (wd_B D tys w1 (va_A w0 sz)) (va_A w0 sz)) 0 0 (va_A w0 sz)
def MetV (l : Launch) (y : MethodName) (wc : List Cond) (rm : Room) (D : va_G) (tys : List (ClassId × FieldType)) (av : List Value) (w0 : va_W) (w1 : va_W) : Prop := ∀ sz : Nat, Met l y wc rm (wd_P D tys av w0 sz) (va_Qv (fun (_ : Unit) => True) (wd_B D tys w1 (va_A w0 sz)) (va_A w0 sz)) 0 0 (va_A w0 sz)
theorem wd_blind {D : va_G} {tys : List (ClassId × FieldType)} {av : List Value} {w : va_W} {sz : Nat} : FrameBlind (wd_P D tys av w sz) := by
  intro a U g mk q
  obtain ⟨q0, q1, qP, qK, qD⟩ := q
  exact ⟨q0, q1, qP, va_K.moved (u := U) (U := U.calling g mk a) (Vm.Alike.refl U.vm) qK, qD⟩
theorem MetI.of {y : MethodName} {wc ws' : List Cond} {rm : Room} {own : String} {cc : ByteArray} {nL : Nat} {ret : Option FieldType} {D : va_G} {tys : List (ClassId × FieldType)} {av : List Value} {lv : List (Nat × Value)} {w0 w1 : va_W} {r : Int32} (hy : plainName y.cls = true) (hyo : y.cls = own) (hw : wc = Cond.code y cc nL ret :: ws') (hle : (lg_sl av).length ≤ nL) (hlv : lv_args 0 av = lv)
    (body : ∀ (p : Program) (e : Env) (s : State) (m : MethodId) (args : Array Value) (below : List Frame) (meth : Method) (c : Code) (A : Nat → Prop), A = va_A w0 s.heap.size → wd_C p m c cc nL s args wc own D tys A → meth.sig.returnType = ret → meth.locks = false → Wd p l e rm s m args below meth c nL D A 0 0 (MQ below (va_Qi (fun (r' : Int32) (_ : Unit) => r' = r) (wd_B D tys w1 (va_A w0 s.heap.size)) (va_A w0 s.heap.size)) args s 0 0 (va_A w0 s.heap.size)) 0 lv [] w0) : MetI l y wc rm D tys av w0 r w1 := by
  intro sz
  refine Met.ofW (cc := cc) (maxL := nL) (ret := ret) hy hw ?_
  intro p e s m args below meth c s₁ B hml hv
  obtain ⟨rfl, hsz, hP, hK, hD0⟩ := hv
  subst hsz
  have hD := hD0.self (sz := s.heap.size)
  have hl := lv_entry av (n := nL) hle
  rw [lg_entry_eq]
  have hown : s.vm.findClass own = some m.cls := by rw [← hyo]; exact findClass_of_methodNamed B.named
  exact body p e s m av.toArray below meth c _ rfl ⟨⟨B.exec, B.bytes, hml, hown, atoms_spec (ws := wc) B.pre⟩, hK, fun q h => Or.inr h⟩ B.returns B.notSynchronized s.heap [] _ hP hD va_S.rf (hlv ▸ hl)
theorem wd_iret (C : wd_C p m c cc nL s args Ts own D tys A) {w0 w1 : va_W} {r v : Int32} {ty : FieldType} (hA : A = va_A w0 s.heap.size) (hr : meth.sig.returnType = some ty) (hlk : meth.locks = false) (hn : narrow ty (.int v) = .int v) (hv : v = r) (hw : ws = w1) (hd : decode cc pc = .ok (.ireturn, 1)) : Wd p l e R s m args below meth c nL D A 0 0 (MQ below (va_Qi (fun (r' : Int32) (_ : Unit) => r' = r) (wd_B D tys w1 (va_A w0 s.heap.size)) (va_A w0 s.heap.size)) args s 0 0 (va_A w0 s.heap.size)) pc lv [.int v] ws := by
  subst hv; subst hw; subst hA
  intro H locs ls hP hD hS hl
  exact W.zret C.1.1 C.1.2.1 hr hn (fun t ht hW => ⟨⟨v, (), rfl, rfl, by rw [ht]; exact hP, va_K.moved hW.alike C.2.1, hD⟩, hS.F ht⟩) hS.2.2 hd hlk
theorem wd_callVi (C : wd_C p m c cc nL s args Ts own D tys A) {y : MethodName} {bytes : ByteArray} {maxL ix na q0 ci b : Nat} {ret : Option FieldType} {wc : List Cond} {rm : Room} {Cn : String} {T : u_T} {N : Nat} {fs : List Value} {As : List Value} {w0 w1 : va_W} {r : Int32} (hM : MetI l y wc rm D tys (.ref b :: As) w0 r w1) (cw : CallW R s args own Cn ix y bytes maxL ret wc rm 0 0 na) (hc : vwCl[ci]? = some (Cn, T, N)) (he : w0[q0]? = some (b, .inr (ci, fs))) (isC isR : List Nat) (hC : isC.map (fun i => ws[i]?) = w0.map some) (hnC : va_nd isC = true) (hR : isR.map (fun i => ws[i]?) = (isR.filterMap (fun i => ws[i]?)).map some) (hnR0 : va_nd isR = true) (hdis : ∀ i ∈ isR, i ∉ isC) (bk : List Nat) (hbn : va_nd bk = true) (hbk : bk.map (fun i => (isR.filterMap (fun i => ws[i]?) ++ w1)[i]?) = ws'.map some) (hna : As.length = na) (hrm : (rest.map fun v => v.category).sum ≤ 8) (hkR : k + 0 ≤ R.cells) (hnR : n + 0 ≤ R.slots) (hd : decode cc pc = .ok (.invokevirtual ix, 3)) (hj : pc + 3 = j) (kk : Wd p l e R s m args below meth c nL D A k n Q j lv (.int r :: rest) ws') : Wd p l e R s m args below meth c nL D A k n Q pc lv (As.reverse ++ .ref b :: rest) ws := by
  subst hj
  intro H locs ls hP hD hS hl
  have hPc := hP.sub (ws' := w0) isC (wd_fm hC)
  have hDc := hD.sub (ws' := w0) isC hnC hC
  have hFc := va_free (wc := w0) hD hS C.2.2 isC hC
  refine va_calli (va_runV (As := As) (rest := rest) C.1 (hM H.size) cw ⟨wd_blind, va_recv C.2.1 hPc hc he, fun U hU hW => ⟨rfl, by rw [hU], by rw [hU]; exact hPc, va_K.moved hW.alike C.2.1, hDc.weaken (fun _ _ _ _ => trivial)⟩⟩ rfl hna hl.1 rfl (lv_room hrm) hd ⟨hkR, hnR⟩) hS (fun q _ h => hFc q h) hFc (fun r' u t H1 locs1 ht hvm hw hB hz1 hk1 hS => ?_)
  subst hw
  obtain ⟨hP1, hK1, hD1⟩ := hB
  rw [ht] at hP1
  obtain ⟨hP2, hD2⟩ := va_join (wr := isR.filterMap (fun i => ws[i]?)) (w1 := w1) hP hD isC isR hC hR hnR0 hdis hk1 hFc hP1 hD1
  exact kk H1 locs1 ls (hP2.sub bk (wd_fm hbk)) (hD2.sub bk hbn hbk) hS hl
theorem wd_callSi (C : wd_C p m c cc nL s args Ts own D tys A) {y : MethodName} {bytes : ByteArray} {maxL ix na : Nat} {ret : Option FieldType} {wc : List Cond} {rm : Room} {As : List Value} {w0 w1 : va_W} {r : Int32} (hM : MetI l y wc rm D tys As w0 r w1) (cw : CallB R s args own ix y bytes maxL ret wc rm 0 0 na ∧ (Cond.static y).before args s = true) (isC isR : List Nat) (hC : isC.map (fun i => ws[i]?) = w0.map some) (hnC : va_nd isC = true) (hR : isR.map (fun i => ws[i]?) = (isR.filterMap (fun i => ws[i]?)).map some) (hnR0 : va_nd isR = true) (hdis : ∀ i ∈ isR, i ∉ isC) (bk : List Nat) (hbn : va_nd bk = true) (hbk : bk.map (fun i => (isR.filterMap (fun i => ws[i]?) ++ w1)[i]?) = ws'.map some) (hna : As.length = na) (hrm : (rest.map fun v => v.category).sum ≤ 8) (hkR : k + 0 ≤ R.cells) (hnR : n + 0 ≤ R.slots) (hd : decode cc pc = .ok (.invokestatic ix, 3)) (hj : pc + 3 = j) (kk : Wd p l e R s m args below meth c nL D A k n Q j lv (.int r :: rest) ws') : Wd p l e R s m args below meth c nL D A k n Q pc lv (As.reverse ++ rest) ws := by
  subst hj
  intro H locs ls hP hD hS hl
  have hPc := hP.sub (ws' := w0) isC (wd_fm hC)
  have hDc := hD.sub (ws' := w0) isC hnC hC
  have hFc := va_free (wc := w0) hD hS C.2.2 isC hC
  refine va_calli (va_runS (As := As) (rest := rest) C.1 (hM H.size) cw ⟨wd_blind, fun U hU hW => ⟨rfl, by rw [hU], by rw [hU]; exact hPc, va_K.moved hW.alike C.2.1, hDc.weaken (fun _ _ _ _ => trivial)⟩⟩ rfl hna hl.1 rfl (lv_room hrm) hd ⟨hkR, hnR⟩) hS (fun q _ h => hFc q h) hFc (fun r' u t H1 locs1 ht hvm hw hB hz1 hk1 hS => ?_)
  subst hw
  obtain ⟨hP1, hK1, hD1⟩ := hB
  rw [ht] at hP1
  obtain ⟨hP2, hD2⟩ := va_join (wr := isR.filterMap (fun i => ws[i]?)) (w1 := w1) hP hD isC isR hC hR hnR0 hdis hk1 hFc hP1 hD1
  exact kk H1 locs1 ls (hP2.sub bk (wd_fm hbk)) (hD2.sub bk hbn hbk) hS hl
theorem MetL.of {y : MethodName} {wc ws' : List Cond} {rm : Room} {own : String} {cc : ByteArray} {nL : Nat} {ret : Option FieldType} {D : va_G} {tys : List (ClassId × FieldType)} {av : List Value} {lv : List (Nat × Value)} {w0 w1 : va_W} {r : Int64} (hy : plainName y.cls = true) (hyo : y.cls = own) (hw : wc = Cond.code y cc nL ret :: ws') (hle : (lg_sl av).length ≤ nL) (hlv : lv_args 0 av = lv)
    (body : ∀ (p : Program) (e : Env) (s : State) (m : MethodId) (args : Array Value) (below : List Frame) (meth : Method) (c : Code) (A : Nat → Prop), A = va_A w0 s.heap.size → wd_C p m c cc nL s args wc own D tys A → meth.sig.returnType = ret → meth.locks = false → Wd p l e rm s m args below meth c nL D A 0 0 (MQ below (va_Ql (fun (r' : Int64) (_ : Unit) => r' = r) (wd_B D tys w1 (va_A w0 s.heap.size)) (va_A w0 s.heap.size)) args s 0 0 (va_A w0 s.heap.size)) 0 lv [] w0) : MetL l y wc rm D tys av w0 r w1 := by
  intro sz
  refine Met.ofW (cc := cc) (maxL := nL) (ret := ret) hy hw ?_
  intro p e s m args below meth c s₁ B hml hv
  obtain ⟨rfl, hsz, hP, hK, hD0⟩ := hv
  subst hsz
  have hD := hD0.self (sz := s.heap.size)
  have hl := lv_entry av (n := nL) hle
  rw [lg_entry_eq]
  have hown : s.vm.findClass own = some m.cls := by rw [← hyo]; exact findClass_of_methodNamed B.named
  exact body p e s m av.toArray below meth c _ rfl ⟨⟨B.exec, B.bytes, hml, hown, atoms_spec (ws := wc) B.pre⟩, hK, fun q h => Or.inr h⟩ B.returns B.notSynchronized s.heap [] _ hP hD va_S.rf (hlv ▸ hl)
theorem wd_lret (C : wd_C p m c cc nL s args Ts own D tys A) {w0 w1 : va_W} {r v : Int64} (hA : A = va_A w0 s.heap.size) (hr : meth.sig.returnType = some .long) (hlk : meth.locks = false) (hv : v = r) (hw : ws = w1) (hd : decode cc pc = .ok (.lreturn, 1)) : Wd p l e R s m args below meth c nL D A 0 0 (MQ below (va_Ql (fun (r' : Int64) (_ : Unit) => r' = r) (wd_B D tys w1 (va_A w0 s.heap.size)) (va_A w0 s.heap.size)) args s 0 0 (va_A w0 s.heap.size)) pc lv [.long v] ws := by
  subst hv; subst hw; subst hA
  intro H locs ls hP hD hS hl
  exact W.lret C.1.1 C.1.2.1 hr (fun t ht hW => ⟨⟨v, (), rfl, rfl, by rw [ht]; exact hP, va_K.moved hW.alike C.2.1, hD⟩, hS.F ht⟩) hS.2.2 hd hlk
theorem wd_callVl (C : wd_C p m c cc nL s args Ts own D tys A) {y : MethodName} {bytes : ByteArray} {maxL ix na q0 ci b : Nat} {ret : Option FieldType} {wc : List Cond} {rm : Room} {Cn : String} {T : u_T} {N : Nat} {fs : List Value} {As : List Value} {w0 w1 : va_W} {r : Int64} (hM : MetL l y wc rm D tys (.ref b :: As) w0 r w1) (cw : CallW R s args own Cn ix y bytes maxL ret wc rm 0 0 na) (hc : vwCl[ci]? = some (Cn, T, N)) (he : w0[q0]? = some (b, .inr (ci, fs))) (isC isR : List Nat) (hC : isC.map (fun i => ws[i]?) = w0.map some) (hnC : va_nd isC = true) (hR : isR.map (fun i => ws[i]?) = (isR.filterMap (fun i => ws[i]?)).map some) (hnR0 : va_nd isR = true) (hdis : ∀ i ∈ isR, i ∉ isC) (bk : List Nat) (hbn : va_nd bk = true) (hbk : bk.map (fun i => (isR.filterMap (fun i => ws[i]?) ++ w1)[i]?) = ws'.map some) (hna : As.length = na) (hrm : (rest.map fun v => v.category).sum ≤ 8) (hkR : k + 0 ≤ R.cells) (hnR : n + 0 ≤ R.slots) (hd : decode cc pc = .ok (.invokevirtual ix, 3)) (hj : pc + 3 = j) (kk : Wd p l e R s m args below meth c nL D A k n Q j lv (.long r :: rest) ws') : Wd p l e R s m args below meth c nL D A k n Q pc lv (As.reverse ++ .ref b :: rest) ws := by
  subst hj
  intro H locs ls hP hD hS hl
  have hPc := hP.sub (ws' := w0) isC (wd_fm hC)
  have hDc := hD.sub (ws' := w0) isC hnC hC
  have hFc := va_free (wc := w0) hD hS C.2.2 isC hC
  refine va_calll (va_runV (As := As) (rest := rest) C.1 (hM H.size) cw ⟨wd_blind, va_recv C.2.1 hPc hc he, fun U hU hW => ⟨rfl, by rw [hU], by rw [hU]; exact hPc, va_K.moved hW.alike C.2.1, hDc.weaken (fun _ _ _ _ => trivial)⟩⟩ rfl hna hl.1 rfl (lv_room hrm) hd ⟨hkR, hnR⟩) hS (fun q _ h => hFc q h) hFc (fun r' u t H1 locs1 ht hvm hw hB hz1 hk1 hS => ?_)
  subst hw
  obtain ⟨hP1, hK1, hD1⟩ := hB
  rw [ht] at hP1
  obtain ⟨hP2, hD2⟩ := va_join (wr := isR.filterMap (fun i => ws[i]?)) (w1 := w1) hP hD isC isR hC hR hnR0 hdis hk1 hFc hP1 hD1
  exact kk H1 locs1 ls (hP2.sub bk (wd_fm hbk)) (hD2.sub bk hbn hbk) hS hl
theorem wd_callSl (C : wd_C p m c cc nL s args Ts own D tys A) {y : MethodName} {bytes : ByteArray} {maxL ix na : Nat} {ret : Option FieldType} {wc : List Cond} {rm : Room} {As : List Value} {w0 w1 : va_W} {r : Int64} (hM : MetL l y wc rm D tys As w0 r w1) (cw : CallB R s args own ix y bytes maxL ret wc rm 0 0 na ∧ (Cond.static y).before args s = true) (isC isR : List Nat) (hC : isC.map (fun i => ws[i]?) = w0.map some) (hnC : va_nd isC = true) (hR : isR.map (fun i => ws[i]?) = (isR.filterMap (fun i => ws[i]?)).map some) (hnR0 : va_nd isR = true) (hdis : ∀ i ∈ isR, i ∉ isC) (bk : List Nat) (hbn : va_nd bk = true) (hbk : bk.map (fun i => (isR.filterMap (fun i => ws[i]?) ++ w1)[i]?) = ws'.map some) (hna : As.length = na) (hrm : (rest.map fun v => v.category).sum ≤ 8) (hkR : k + 0 ≤ R.cells) (hnR : n + 0 ≤ R.slots) (hd : decode cc pc = .ok (.invokestatic ix, 3)) (hj : pc + 3 = j) (kk : Wd p l e R s m args below meth c nL D A k n Q j lv (.long r :: rest) ws') : Wd p l e R s m args below meth c nL D A k n Q pc lv (As.reverse ++ rest) ws := by
  subst hj
  intro H locs ls hP hD hS hl
  have hPc := hP.sub (ws' := w0) isC (wd_fm hC)
  have hDc := hD.sub (ws' := w0) isC hnC hC
  have hFc := va_free (wc := w0) hD hS C.2.2 isC hC
  refine va_calll (va_runS (As := As) (rest := rest) C.1 (hM H.size) cw ⟨wd_blind, fun U hU hW => ⟨rfl, by rw [hU], by rw [hU]; exact hPc, va_K.moved hW.alike C.2.1, hDc.weaken (fun _ _ _ _ => trivial)⟩⟩ rfl hna hl.1 rfl (lv_room hrm) hd ⟨hkR, hnR⟩) hS (fun q _ h => hFc q h) hFc (fun r' u t H1 locs1 ht hvm hw hB hz1 hk1 hS => ?_)
  subst hw
  obtain ⟨hP1, hK1, hD1⟩ := hB
  rw [ht] at hP1
  obtain ⟨hP2, hD2⟩ := va_join (wr := isR.filterMap (fun i => ws[i]?)) (w1 := w1) hP hD isC isR hC hR hnR0 hdis hk1 hFc hP1 hD1
  exact kk H1 locs1 ls (hP2.sub bk (wd_fm hbk)) (hD2.sub bk hbn hbk) hS hl
theorem MetV.of {y : MethodName} {wc ws' : List Cond} {rm : Room} {own : String} {cc : ByteArray} {nL : Nat} {ret : Option FieldType} {D : va_G} {tys : List (ClassId × FieldType)} {av : List Value} {lv : List (Nat × Value)} {w0 w1 : va_W} (hy : plainName y.cls = true) (hyo : y.cls = own) (hw : wc = Cond.code y cc nL ret :: ws') (hle : (lg_sl av).length ≤ nL) (hlv : lv_args 0 av = lv)
    (body : ∀ (p : Program) (e : Env) (s : State) (m : MethodId) (args : Array Value) (below : List Frame) (meth : Method) (c : Code) (A : Nat → Prop), A = va_A w0 s.heap.size → wd_C p m c cc nL s args wc own D tys A → meth.sig.returnType = ret → meth.locks = false → Wd p l e rm s m args below meth c nL D A 0 0 (MQ below (va_Qv (fun (_ : Unit) => True) (wd_B D tys w1 (va_A w0 s.heap.size)) (va_A w0 s.heap.size)) args s 0 0 (va_A w0 s.heap.size)) 0 lv [] w0) : MetV l y wc rm D tys av w0 w1 := by
  intro sz
  refine Met.ofW (cc := cc) (maxL := nL) (ret := ret) hy hw ?_
  intro p e s m args below meth c s₁ B hml hv
  obtain ⟨rfl, hsz, hP, hK, hD0⟩ := hv
  subst hsz
  have hD := hD0.self (sz := s.heap.size)
  have hl := lv_entry av (n := nL) hle
  rw [lg_entry_eq]
  have hown : s.vm.findClass own = some m.cls := by rw [← hyo]; exact findClass_of_methodNamed B.named
  exact body p e s m av.toArray below meth c _ rfl ⟨⟨B.exec, B.bytes, hml, hown, atoms_spec (ws := wc) B.pre⟩, hK, fun q h => Or.inr h⟩ B.returns B.notSynchronized s.heap [] _ hP hD va_S.rf (hlv ▸ hl)
theorem wd_vret (C : wd_C p m c cc nL s args Ts own D tys A) {w0 w1 : va_W} (hA : A = va_A w0 s.heap.size) (hr : meth.sig.returnType = none) (hlk : meth.locks = false) (hw : ws = w1) (hd : decode cc pc = .ok (.return_, 1)) : Wd p l e R s m args below meth c nL D A 0 0 (MQ below (va_Qv (fun (_ : Unit) => True) (wd_B D tys w1 (va_A w0 s.heap.size)) (va_A w0 s.heap.size)) args s 0 0 (va_A w0 s.heap.size)) pc lv [] ws := by
  subst hw; subst hA
  intro H locs ls hP hD hS hl
  exact W.vret C.1.1 C.1.2.1 hr (fun t ht hW => ⟨⟨(), rfl, trivial, by rw [ht]; exact hP, va_K.moved hW.alike C.2.1, hD⟩, hS.F ht⟩) hS.2.2 hd hlk
theorem wd_callVv (C : wd_C p m c cc nL s args Ts own D tys A) {y : MethodName} {bytes : ByteArray} {maxL ix na q0 ci b : Nat} {ret : Option FieldType} {wc : List Cond} {rm : Room} {Cn : String} {T : u_T} {N : Nat} {fs : List Value} {As : List Value} {w0 w1 : va_W} (hM : MetV l y wc rm D tys (.ref b :: As) w0 w1) (cw : CallW R s args own Cn ix y bytes maxL ret wc rm 0 0 na) (hc : vwCl[ci]? = some (Cn, T, N)) (he : w0[q0]? = some (b, .inr (ci, fs))) (isC isR : List Nat) (hC : isC.map (fun i => ws[i]?) = w0.map some) (hnC : va_nd isC = true) (hR : isR.map (fun i => ws[i]?) = (isR.filterMap (fun i => ws[i]?)).map some) (hnR0 : va_nd isR = true) (hdis : ∀ i ∈ isR, i ∉ isC) (bk : List Nat) (hbn : va_nd bk = true) (hbk : bk.map (fun i => (isR.filterMap (fun i => ws[i]?) ++ w1)[i]?) = ws'.map some) (hna : As.length = na) (hrm : (rest.map fun v => v.category).sum ≤ 8) (hkR : k + 0 ≤ R.cells) (hnR : n + 0 ≤ R.slots) (hd : decode cc pc = .ok (.invokevirtual ix, 3)) (hj : pc + 3 = j) (kk : Wd p l e R s m args below meth c nL D A k n Q j lv (rest) ws') : Wd p l e R s m args below meth c nL D A k n Q pc lv (As.reverse ++ .ref b :: rest) ws := by
  subst hj
  intro H locs ls hP hD hS hl
  have hPc := hP.sub (ws' := w0) isC (wd_fm hC)
  have hDc := hD.sub (ws' := w0) isC hnC hC
  have hFc := va_free (wc := w0) hD hS C.2.2 isC hC
  refine va_callv (va_runV (As := As) (rest := rest) C.1 (hM H.size) cw ⟨wd_blind, va_recv C.2.1 hPc hc he, fun U hU hW => ⟨rfl, by rw [hU], by rw [hU]; exact hPc, va_K.moved hW.alike C.2.1, hDc.weaken (fun _ _ _ _ => trivial)⟩⟩ rfl hna hl.1 rfl (lv_room hrm) hd ⟨hkR, hnR⟩) hS (fun q _ h => hFc q h) hFc (fun u t H1 locs1 ht hvm hw hB hz1 hk1 hS => ?_)
  obtain ⟨hP1, hK1, hD1⟩ := hB
  rw [ht] at hP1
  obtain ⟨hP2, hD2⟩ := va_join (wr := isR.filterMap (fun i => ws[i]?)) (w1 := w1) hP hD isC isR hC hR hnR0 hdis hk1 hFc hP1 hD1
  exact kk H1 locs1 ls (hP2.sub bk (wd_fm hbk)) (hD2.sub bk hbn hbk) hS hl
theorem wd_callSv (C : wd_C p m c cc nL s args Ts own D tys A) {y : MethodName} {bytes : ByteArray} {maxL ix na : Nat} {ret : Option FieldType} {wc : List Cond} {rm : Room} {As : List Value} {w0 w1 : va_W} (hM : MetV l y wc rm D tys As w0 w1) (cw : CallB R s args own ix y bytes maxL ret wc rm 0 0 na ∧ (Cond.static y).before args s = true) (isC isR : List Nat) (hC : isC.map (fun i => ws[i]?) = w0.map some) (hnC : va_nd isC = true) (hR : isR.map (fun i => ws[i]?) = (isR.filterMap (fun i => ws[i]?)).map some) (hnR0 : va_nd isR = true) (hdis : ∀ i ∈ isR, i ∉ isC) (bk : List Nat) (hbn : va_nd bk = true) (hbk : bk.map (fun i => (isR.filterMap (fun i => ws[i]?) ++ w1)[i]?) = ws'.map some) (hna : As.length = na) (hrm : (rest.map fun v => v.category).sum ≤ 8) (hkR : k + 0 ≤ R.cells) (hnR : n + 0 ≤ R.slots) (hd : decode cc pc = .ok (.invokestatic ix, 3)) (hj : pc + 3 = j) (kk : Wd p l e R s m args below meth c nL D A k n Q j lv (rest) ws') : Wd p l e R s m args below meth c nL D A k n Q pc lv (As.reverse ++ rest) ws := by
  subst hj
  intro H locs ls hP hD hS hl
  have hPc := hP.sub (ws' := w0) isC (wd_fm hC)
  have hDc := hD.sub (ws' := w0) isC hnC hC
  have hFc := va_free (wc := w0) hD hS C.2.2 isC hC
  refine va_callv (va_runS (As := As) (rest := rest) C.1 (hM H.size) cw ⟨wd_blind, fun U hU hW => ⟨rfl, by rw [hU], by rw [hU]; exact hPc, va_K.moved hW.alike C.2.1, hDc.weaken (fun _ _ _ _ => trivial)⟩⟩ rfl hna hl.1 rfl (lv_room hrm) hd ⟨hkR, hnR⟩) hS (fun q _ h => hFc q h) hFc (fun u t H1 locs1 ht hvm hw hB hz1 hk1 hS => ?_)
  obtain ⟨hP1, hK1, hD1⟩ := hB
  rw [ht] at hP1
  obtain ⟨hP2, hD2⟩ := va_join (wr := isR.filterMap (fun i => ws[i]?)) (w1 := w1) hP hD isC isR hC hR hnR0 hdis hk1 hFc hP1 hD1
  exact kk H1 locs1 ls (hP2.sub bk (wd_fm hbk)) (hD2.sub bk hbn hbk) hS hl
end WDL
def grd {α : Type} (c : Prop) [Decidable c] (x : Option α) : Option α := if c then x else none
theorem grd_some {α : Type} {c : Prop} [Decidable c] {x : Option α} {r : α} (h : grd c x = some r) : c ∧ x = some r := by
  unfold grd at h
  by_cases hc : c
  · rw [if_pos hc] at h; exact ⟨hc, h⟩
  · rw [if_neg hc] at h; cases h
theorem bnd_some {α β : Type} {x : Option α} {f : α → Option β} {r : β} (h : x.bind f = some r) : ∃ u, x = some u ∧ f u = some r := by
  cases x with
  | none => cases h
  | some u => exact ⟨u, rfl, h⟩
def inB (i : Int32) (z : Nat) : Bool := decide (¬ (i < 0 ∨ z ≤ i.toNatClampNeg))
theorem inB_in {i : Int32} {z : Nat} (h : inB i z = true) : vp_in i z := by
  have h2 : ¬ (i < 0 ∨ z ≤ i.toNatClampNeg) := of_decide_eq_true h
  exact h2
def nnB (x : UInt64) : Bool := decide (x &&& 0x7fffffffffffffff ≤ 0x7ff0000000000000)
theorem nnB_in {x : UInt64} (h : nnB x = true) : vf_n64 x := by
  have h2 : x &&& 0x7fffffffffffffff ≤ 0x7ff0000000000000 := of_decide_eq_true h
  exact h2
def z01 (x : Int32) : Bool := decide (x = 0) || decide (x = 1)
theorem z01_in {x : Int32} (h : z01 x = true) : narrow .boolean (.int x) = .int x := by
  unfold z01 at h
  rw [Bool.or_eq_true] at h
  rcases h with h | h
  · rw [of_decide_eq_true h]; rfl
  · rw [of_decide_eq_true h]; rfl
end
section
/-- a loop: 'body' makes one round: a new state, or the way out -/
def iter {σ ε : Type} (body : σ → Option (σ ⊕ ε)) : Nat → σ → Option ε
  | 0, _ => none
  | n + 1, s => match body s with
    | none => none
    | some (.inl s') => iter body n s'
    | some (.inr e) => some e
def iter_k {σ ε : Type} (body : σ → Option (σ ⊕ ε)) (n : Nat) (e : ε) : σ ⊕ ε → Prop
  | .inl s' => iter body n s' = some e
  | .inr e' => e' = e
theorem iter_step {σ ε : Type} {body : σ → Option (σ ⊕ ε)} {n : Nat} {s : σ} {e : ε} (h : iter body (n + 1) s = some e) : ∃ b, body s = some b ∧ iter_k body n e b := by
  unfold iter at h
  cases hb : body s with
  | none => rw [hb] at h; cases h
  | some b =>
    rw [hb] at h
    cases b with
    | inl s' => exact ⟨_, rfl, h⟩
    | inr e' => exact ⟨_, rfl, Option.some.inj h⟩
theorem lv_osh {x k : Int32} {a o d : Int} {r : List (Int × Int)} (h : x = k) (hk : k.toInt = a) : Op.lookupswitch.offset ((a, o) :: r) d x.toInt = o := by
  rw [Op.lookupswitch.offset_cons, if_pos]
  rw [h, hk]
def f_X0_slot (p0 : Int32) (p1 : Int32) : Option (Int32) :=
  some ((p0 * (7 : Int32)) + p1)
def f_X1_nodes (codes : Nat → Int32) : Option (Int32) :=
  some ((codes 0) - (48 : Int32))
def f_X1_links (len : Int32) : Option (Int32) :=
  some ((len - (1 : Int32)) / (3 : Int32))
def f_X1_firstNode (codes : Nat → Int32) (p1 : Int32) : Option (Int32) :=
  grd (inB ((2 : Int32) + ((3 : Int32) * p1)) 40 = true) <| some ((codes ((2 : Int32) + ((3 : Int32) * p1)).toNatClampNeg) - (48 : Int32))
def f_X1_secondNode (codes : Nat → Int32) (p1 : Int32) : Option (Int32) :=
  grd (inB (((2 : Int32) + ((3 : Int32) * p1)) + (1 : Int32)) 40 = true) <| some ((codes (((2 : Int32) + ((3 : Int32) * p1)) + (1 : Int32)).toNatClampNeg) - (48 : Int32))
def f_X0_addNeighbor (deg : Nat → Int32) (nbr : Nat → Int32) (p1 : Int32) (p2 : Int32) : Option ((Nat → Int32) × (Nat → Int32)) :=
  grd (inB p1 8 = true) <| (f_X0_slot p1 (deg p1.toNatClampNeg)).bind fun u2 => grd (inB u2 56 = true) <| grd (inB p1 8 = true) <| grd (inB p1 8 = true) <| some ((upd deg p1.toNatClampNeg ((deg p1.toNatClampNeg) + (1 : Int32))), (upd nbr u2.toNatClampNeg p2))
def b_X0_build_18  (st : Int32 × (Nat → Int32)) : Option ((Int32 × (Nat → Int32)) ⊕ ((Nat → Int32))) :=
  (if (8 : Int32) ≤ st.1 then some (.inr st.2) else grd (inB st.1 8 = true) <| some (.inl ((st.1 + 1), (upd st.2 st.1.toNatClampNeg (0 : Int32)))))
def b_X0_build_39 (links : Int32) (codes : Nat → Int32) (st : Int32 × (Nat → Int32) × (Nat → Int32)) : Option ((Int32 × (Nat → Int32) × (Nat → Int32)) ⊕ ((Nat → Int32) × (Nat → Int32))) :=
  (if links ≤ st.1 then some (.inr (st.2.1, st.2.2)) else (f_X1_firstNode codes st.1).bind fun u4 => (f_X1_secondNode codes st.1).bind fun u5 => (f_X0_addNeighbor st.2.1 st.2.2 u4 u5).bind fun u6 => (f_X0_addNeighbor u6.1 u6.2 u5 u4).bind fun u7 => some (.inl ((st.1 + 1), u7.1, u7.2)))
def f_X0_build (N : Nat) (nodes : Int32) (links : Int32) (deg : Nat → Int32) (nbr : Nat → Int32) (len : Int32) (codes : Nat → Int32) : Option (Int32 × Int32 × (Nat → Int32) × (Nat → Int32)) :=
  (f_X1_nodes codes).bind fun u8 => (f_X1_links len).bind fun u9 => ((iter (b_X0_build_18) N ((0 : Int32), deg)).bind fun u10 => ((iter (b_X0_build_39 u9 codes) N ((0 : Int32), u10, nbr)).bind fun u11 => some (u8, u9, u11.1, u11.2)))
def f_X0_hasNode (nodes : Int32) (p1 : Int32) : Option (Int32) :=
  (if p1 < 0 then some (0 : Int32) else (if nodes ≤ p1 then some (0 : Int32) else some (1 : Int32)))
def f_X0_neighborError (nodes : Int32) (deg : Nat → Int32) (p1 : Int32) (p2 : Int32) : Option (Int32) :=
  (f_X0_hasNode nodes p1).bind fun u1 => (if u1 = 0 then some (-4 : Int32) else (if p2 < 0 then some (-6 : Int32) else grd (inB p1 8 = true) <| (if (deg p1.toNatClampNeg) ≤ p2 then some (-6 : Int32) else some (0 : Int32))))
def f_X0_rotorAfter (deg : Nat → Int32) (p1 : Int32) (p2 : Int32) : Option (Int32) :=
  grd (inB p1 8 = true) <| (if (p2 + (1 : Int32)) = (deg p1.toNatClampNeg) then some (0 : Int32) else some (p2 + (1 : Int32)))
def b_X0_assignments_4 (nodes : Int32) (deg : Nat → Int32) (st : Int32 × Int32) : Option ((Int32 × Int32) ⊕ (Int32)) :=
  (if nodes ≤ st.2 then some (.inr st.1) else grd (inB st.2 8 = true) <| some (.inl ((st.1 * (deg st.2.toNatClampNeg)), (st.2 + 1))))
def f_X0_assignments (N : Nat) (nodes : Int32) (deg : Nat → Int32) : Option (Int32) :=
  ((iter (b_X0_assignments_4 nodes deg) N ((1 : Int32), (0 : Int32))).bind fun u3 => some u3)
def f_X1_placeInGroup (p0 : Int32) : Option (Int32) :=
  some ((p0 - (2 : Int32)) - (p0 - (2 : Int32)) / (3 : Int32) * (3 : Int32))
def f_X1_isNode (codes : Nat → Int32) (p1 : Int32) : Option (Int32) :=
  (if p1 < (48 : Int32) then some (0 : Int32) else (if (codes 0) ≤ p1 then some (0 : Int32) else some (1 : Int32)))
def b_X1_isNewLink_19 (codes : Nat → Int32) (p1 : Int32) (p2 : Int32) (p3 : Int32) (st : Int32) : Option ((Int32) ⊕ ((Unit) ⊕ (Unit))) :=
  (if (p1 - (1 : Int32)) ≤ st then some (.inr (.inl ())) else grd (inB st 40 = true) <| (if (codes st.toNatClampNeg) = p2 then grd (inB (st + (1 : Int32)) 40 = true) <| (if (codes (st + (1 : Int32)).toNatClampNeg) = p3 then grd (inB st 40 = true) <| (if (codes st.toNatClampNeg) = p3 then grd (inB (st + (1 : Int32)) 40 = true) <| (if (codes (st + (1 : Int32)).toNatClampNeg) = p2 then some (.inr (.inr ())) else some (.inr (.inr ()))) else some (.inr (.inr ()))) else grd (inB st 40 = true) <| (if (codes st.toNatClampNeg) = p3 then grd (inB (st + (1 : Int32)) 40 = true) <| (if (codes (st + (1 : Int32)).toNatClampNeg) = p2 then some (.inr (.inr ())) else some (.inl (st + 3))) else some (.inl (st + 3)))) else grd (inB st 40 = true) <| (if (codes st.toNatClampNeg) = p3 then grd (inB (st + (1 : Int32)) 40 = true) <| (if (codes (st + (1 : Int32)).toNatClampNeg) = p2 then some (.inr (.inr ())) else some (.inl (st + 3))) else some (.inl (st + 3)))))
def f_X1_isNewLink (N : Nat) (codes : Nat → Int32) (p1 : Int32) : Option (Int32) :=
  grd (inB (p1 - (1 : Int32)) 40 = true) <| grd (inB p1 40 = true) <| ((iter (b_X1_isNewLink_19 codes p1 (codes (p1 - (1 : Int32)).toNatClampNeg) (codes p1.toNatClampNeg)) N (2 : Int32)).bind fun u20 => match u20 with | .inl u20a => some (1 : Int32) | .inr u20b => some (0 : Int32))
def f_X1_keepsRules (N : Nat) (codes : Nat → Int32) (p1 : Int32) : Option (Int32) :=
  grd (inB p1 40 = true) <| (if p1 = 0 then (if (codes p1.toNatClampNeg) < (50 : Int32) then some (0 : Int32) else (if (56 : Int32) < (codes p1.toNatClampNeg) then some (0 : Int32) else some (1 : Int32))) else (if p1 = (1 : Int32) then (if (codes p1.toNatClampNeg) = (58 : Int32) then some (1 : Int32) else some (0 : Int32)) else (f_X1_placeInGroup p1).bind fun u4 => (if u4 = 0 then (f_X1_isNode codes (codes p1.toNatClampNeg)).bind fun u15 => grd (z01 u15 = true) <| some u15 else (if u4 = (1 : Int32) then (f_X1_isNode codes (codes p1.toNatClampNeg)).bind fun u9 => (if u9 = 0 then some (0 : Int32) else grd (inB (p1 - (1 : Int32)) 40 = true) <| (if (codes p1.toNatClampNeg) = (codes (p1 - (1 : Int32)).toNatClampNeg) then some (0 : Int32) else (f_X1_isNewLink N codes p1).bind fun u13 => (if u13 = 0 then some (0 : Int32) else some (1 : Int32)))) else (if (codes p1.toNatClampNeg) = (44 : Int32) then (if (34 : Int32) < p1 then some (0 : Int32) else some (1 : Int32)) else some (0 : Int32))))))
def b_X1_firstBrokenIndex_2 (N : Nat) (len : Int32) (codes : Nat → Int32) (st : Int32) : Option ((Int32) ⊕ (Int32)) :=
  (if len ≤ st then some (.inr st) else (f_X1_keepsRules N codes st).bind fun u2 => (if u2 = 0 then some (.inr st) else some (.inl (st + 1))))
def f_X1_firstBrokenIndex (N : Nat) (len : Int32) (codes : Nat → Int32) : Option (Int32) :=
  ((iter (b_X1_firstBrokenIndex_2 N len codes) N (0 : Int32)).bind fun u4 => some u4)
def f_X1_isComplete (N : Nat) (len : Int32) (codes : Nat → Int32) : Option (Int32) :=
  (if len ≤ (2 : Int32) then some (0 : Int32) else (f_X1_placeInGroup (len - (1 : Int32))).bind fun u2 => (if u2 = (1 : Int32) then (f_X1_firstBrokenIndex N len codes).bind fun u4 => (if u4 = len then some (1 : Int32) else some (0 : Int32)) else some (0 : Int32)))
def b_X1_isConnected_14 (len : Int32) (codes : Nat → Int32) (st : Int32 × Int32) : Option ((Int32 × Int32) ⊕ (Int32)) :=
  (f_X1_links len).bind fun u1 => (if u1 ≤ st.2 then some (.inr st.1) else (f_X1_firstNode codes st.2).bind fun u3 => (f_X1_secondNode codes st.2).bind fun u4 => (if (st.1 &&& (((1 : Int32) <<< (u3 &&& 31)) ||| ((1 : Int32) <<< (u4 &&& 31)))) = 0 then some (.inl (st.1, (st.2 + 1))) else some (.inl ((st.1 ||| (((1 : Int32) <<< (u3 &&& 31)) ||| ((1 : Int32) <<< (u4 &&& 31)))), (st.2 + 1)))))
def b_X1_isConnected_4 (N : Nat) (len : Int32) (codes : Nat → Int32) (st : Int32 × Int32) : Option ((Int32 × Int32) ⊕ (Int32)) :=
  (f_X1_nodes codes).bind fun u6 => (if u6 ≤ st.2 then some (.inr st.1) else ((iter (b_X1_isConnected_14 len codes) N (st.1, (0 : Int32))).bind fun u8 => some (.inl (u8, (st.2 + 1)))))
def f_X1_isConnected (N : Nat) (len : Int32) (codes : Nat → Int32) : Option (Int32) :=
  ((iter (b_X1_isConnected_4 N len codes) N ((1 : Int32), (1 : Int32))).bind fun u9 => (f_X1_nodes codes).bind fun u10 => (if u9 = (((1 : Int32) <<< (u10 &&& 31)) - (1 : Int32)) then some (1 : Int32) else some (0 : Int32)))
def f_X2_start (node : Int32) (prot : Nat → Int32) (src : Nat → Int32) (p1 : Int32) : Option (Int32 × (Nat → Int32)) :=
  some (p1, (va_cpy src prot 0 0 8))
def f_X2_move (node : Int32) (prot : Nat → Int32) (deg : Nat → Int32) (nbr : Nat → Int32) : Option (Int32 × (Nat → Int32)) :=
  grd (inB node 8 = true) <| (f_X0_slot node (prot node.toNatClampNeg)).bind fun u2 => grd (inB u2 56 = true) <| grd (inB node 8 = true) <| (f_X0_rotorAfter deg node (prot node.toNatClampNeg)).bind fun u5 => grd (inB node 8 = true) <| some ((nbr u2.toNatClampNeg), (upd prot node.toNatClampNeg u5))
def b_X2_isSameAs_15 (prot : Nat → Int32) (prot2 : Nat → Int32) (p2 : Int32) (st : Int32) : Option ((Int32) ⊕ ((Unit) ⊕ (Unit))) :=
  (if p2 ≤ st then some (.inr (.inl ())) else grd (inB st 8 = true) <| grd (inB st 8 = true) <| (if (prot st.toNatClampNeg) = (prot2 st.toNatClampNeg) then some (.inl (st + 1)) else some (.inr (.inr ()))))
def f_X2_isSameAs (N : Nat) (node : Int32) (prot : Nat → Int32) (node2 : Int32) (prot2 : Nat → Int32) (p2 : Int32) : Option (Int32) :=
  (if node = node2 then ((iter (b_X2_isSameAs_15 prot prot2 p2) N (0 : Int32)).bind fun u6 => match u6 with | .inl u6a => some (1 : Int32) | .inr u6b => some (0 : Int32)) else some (0 : Int32))
def b_X3_reset_30  (st : Int32 × (Nat → Int32)) : Option ((Int32 × (Nat → Int32)) ⊕ ((Nat → Int32))) :=
  (if (56 : Int32) ≤ st.1 then some (.inr st.2) else grd (inB st.1 56 = true) <| some (.inl ((st.1 + 1), (upd st.2 st.1.toNatClampNeg (0 : Int32)))))
def b_X3_reset_2  (st : Int32 × (Nat → Int32) × (Nat → Int32)) : Option ((Int32 × (Nat → Int32) × (Nat → Int32)) ⊕ ((Nat → Int32) × (Nat → Int32))) :=
  (if (8 : Int32) ≤ st.1 then some (.inr (st.2.1, st.2.2)) else grd (inB st.1 8 = true) <| grd (inB st.1 8 = true) <| some (.inl ((st.1 + 1), (upd st.2.1 st.1.toNatClampNeg (0 : Int32)), (upd st.2.2 st.1.toNatClampNeg (0 : Int32)))))
def f_X3_reset (N : Nat) (wk : Int32) (rot : Nat → Int32) (arv : Nat → Int32) (dep : Nat → Int32) : Option (Int32 × (Nat → Int32) × (Nat → Int32) × (Nat → Int32)) :=
  ((iter (b_X3_reset_2) N ((0 : Int32), rot, arv)).bind fun u6 => ((iter (b_X3_reset_30) N ((0 : Int32), dep)).bind fun u7 => some ((0 : Int32), u6.1, u6.2, u7)))
def f_X3_copyFrom (wk : Int32) (rot : Nat → Int32) (arv : Nat → Int32) (dep : Nat → Int32) (pos : Nat → Int32) (wk2 : Int32) (rot2 : Nat → Int32) (arv2 : Nat → Int32) (dep2 : Nat → Int32) (pos2 : Nat → Int32) : Option (Int32 × (Nat → Int32) × (Nat → Int32) × (Nat → Int32) × (Nat → Int32)) :=
  some (wk2, (va_cpy rot2 rot 0 0 8), (va_cpy arv2 arv 0 0 8), (va_cpy dep2 dep 0 0 56), (va_cpy pos2 pos 0 0 4))
def f_X3_hasWalker (wk : Int32) (p1 : Int32) : Option (Int32) :=
  (if p1 < 0 then some (0 : Int32) else (if wk ≤ p1 then some (0 : Int32) else some (1 : Int32)))
def f_X3_move (rot : Nat → Int32) (arv : Nat → Int32) (dep : Nat → Int32) (pos : Nat → Int32) (deg : Nat → Int32) (nbr : Nat → Int32) (p1 : Int32) : Option ((Nat → Int32) × (Nat → Int32) × (Nat → Int32) × (Nat → Int32)) :=
  grd (inB p1 4 = true) <| grd (inB (pos p1.toNatClampNeg) 8 = true) <| (f_X0_slot (pos p1.toNatClampNeg) (rot (pos p1.toNatClampNeg).toNatClampNeg)).bind fun u3 => grd (inB u3 56 = true) <| grd (inB u3 56 = true) <| grd (inB u3 56 = true) <| grd (inB (nbr u3.toNatClampNeg) 8 = true) <| grd (inB (nbr u3.toNatClampNeg) 8 = true) <| grd (inB (pos p1.toNatClampNeg) 8 = true) <| (f_X0_rotorAfter deg (pos p1.toNatClampNeg) (rot (pos p1.toNatClampNeg).toNatClampNeg)).bind fun u10 => grd (inB (pos p1.toNatClampNeg) 8 = true) <| grd (inB p1 4 = true) <| some ((upd rot (pos p1.toNatClampNeg).toNatClampNeg u10), (upd arv (nbr u3.toNatClampNeg).toNatClampNeg ((arv (nbr u3.toNatClampNeg).toNatClampNeg) + (1 : Int32))), (upd dep u3.toNatClampNeg ((dep u3.toNatClampNeg) + (1 : Int32))), (upd pos p1.toNatClampNeg (nbr u3.toNatClampNeg)))
def f_X4_append (len : Int32) (codes : Nat → Int32) (p1 : Int32) : Option (Int32 × Int32 × (Nat → Int32)) :=
  (if p1 < (32 : Int32) then some ((-1 : Int32), len, codes) else (if p1 ≤ (126 : Int32) then (if len < (40 : Int32) then grd (inB len 40 = true) <| some ((len + (1 : Int32)), (len + (1 : Int32)), (upd codes len.toNatClampNeg p1)) else some ((-2 : Int32), len, codes)) else some ((-1 : Int32), len, codes)))
def f_X4_clearInput (len : Int32) : Option (Int32 × Int32) :=
  some (len, (0 : Int32))
def f_X4_firstError (N : Nat) (len : Int32) (codes : Nat → Int32) : Option (Int32) :=
  (f_X1_firstBrokenIndex N len codes).bind fun u1 => some u1
def f_X4_load (N : Nat) (hask : Int32) (len : Int32) (codes : Nat → Int32) (nodes : Int32) (links : Int32) (deg : Nat → Int32) (nbr : Nat → Int32) (wk : Int32) (rot : Nat → Int32) (arv : Nat → Int32) (dep : Nat → Int32) : Option (Int32 × Int32 × Int32 × Int32 × Int32 × (Nat → Int32) × (Nat → Int32) × Int32 × (Nat → Int32) × (Nat → Int32) × (Nat → Int32)) :=
  (f_X1_isComplete N len codes).bind fun u1 => (if u1 = 0 then some ((-3 : Int32), hask, len, nodes, links, deg, nbr, wk, rot, arv, dep) else (f_X1_isConnected N len codes).bind fun u3 => (if u3 = 0 then some ((-3 : Int32), hask, len, nodes, links, deg, nbr, wk, rot, arv, dep) else (f_X0_build N nodes links deg nbr len codes).bind fun u5 => (f_X3_reset N wk rot arv dep).bind fun u6 => some (u5.1, (0 : Int32), (0 : Int32), u5.1, u5.2.1, u5.2.2.1, u5.2.2.2, u6.1, u6.2.1, u6.2.2.1, u6.2.2.2)))
def f_X4_degree (nodes : Int32) (deg : Nat → Int32) (p1 : Int32) : Option (Int32) :=
  (f_X0_hasNode nodes p1).bind fun u1 => (if u1 = 0 then some (-4 : Int32) else grd (inB p1 8 = true) <| some (deg p1.toNatClampNeg))
def f_X4_neighbor (nodes : Int32) (deg : Nat → Int32) (nbr : Nat → Int32) (p1 : Int32) (p2 : Int32) : Option (Int32) :=
  (f_X0_neighborError nodes deg p1 p2).bind fun u1 => (if u1 = 0 then (f_X0_slot p1 p2).bind fun u3 => grd (inB u3 56 = true) <| some (nbr u3.toNatClampNeg) else some u1)
def f_X4_rotor (nodes : Int32) (rot : Nat → Int32) (p1 : Int32) : Option (Int32) :=
  (f_X0_hasNode nodes p1).bind fun u1 => (if u1 = 0 then some (-4 : Int32) else grd (inB p1 8 = true) <| some (rot p1.toNatClampNeg))
def f_X4_setRotor (nodes : Int32) (deg : Nat → Int32) (rot : Nat → Int32) (p1 : Int32) (p2 : Int32) : Option (Int32 × (Nat → Int32)) :=
  (f_X0_neighborError nodes deg p1 p2).bind fun u1 => (if u1 = 0 then grd (inB p1 8 = true) <| grd (inB p1 8 = true) <| some ((rot p1.toNatClampNeg), (upd rot p1.toNatClampNeg p2)) else some (u1, rot))
def f_X4_addWalker (nodes : Int32) (wk : Int32) (pos : Nat → Int32) (p1 : Int32) : Option (Int32 × Int32 × (Nat → Int32)) :=
  (f_X0_hasNode nodes p1).bind fun u1 => (if u1 = 0 then some ((-4 : Int32), wk, pos) else (if wk < (4 : Int32) then grd (inB wk 4 = true) <| some (wk, (wk + (1 : Int32)), (upd pos wk.toNatClampNeg p1)) else some ((-7 : Int32), wk, pos)))
def f_X4_position (wk : Int32) (pos : Nat → Int32) (p1 : Int32) : Option (Int32) :=
  (f_X3_hasWalker wk p1).bind fun u1 => (if u1 = 0 then some (-5 : Int32) else grd (inB p1 4 = true) <| some (pos p1.toNatClampNeg))
def b_X4_step_31 (deg : Nat → Int32) (nbr : Nat → Int32) (p1 : Int32) (p2 : Int32) (st : Int32 × (Nat → Int32) × (Nat → Int32) × (Nat → Int32) × (Nat → Int32)) : Option ((Int32 × (Nat → Int32) × (Nat → Int32) × (Nat → Int32) × (Nat → Int32)) ⊕ ((Nat → Int32) × (Nat → Int32) × (Nat → Int32) × (Nat → Int32))) :=
  (if p2 ≤ st.1 then some (.inr (st.2.1, st.2.2.1, st.2.2.2.1, st.2.2.2.2)) else (f_X3_move st.2.1 st.2.2.1 st.2.2.2.1 st.2.2.2.2 deg nbr p1).bind fun u2 => some (.inl ((st.1 + 1), u2.1, u2.2.1, u2.2.2.1, u2.2.2.2)))
def f_X4_step (N : Nat) (deg : Nat → Int32) (nbr : Nat → Int32) (wk : Int32) (rot : Nat → Int32) (arv : Nat → Int32) (dep : Nat → Int32) (pos : Nat → Int32) (p1 : Int32) (p2 : Int32) : Option (Int32 × (Nat → Int32) × (Nat → Int32) × (Nat → Int32) × (Nat → Int32)) :=
  (f_X3_hasWalker wk p1).bind fun u3 => (if u3 = 0 then some ((-5 : Int32), rot, arv, dep, pos) else (if p2 < (1 : Int32) then some ((-6 : Int32), rot, arv, dep, pos) else (if p2 ≤ (1000 : Int32) then ((iter (b_X4_step_31 deg nbr p1 p2) N ((0 : Int32), rot, arv, dep, pos)).bind fun u7 => grd (inB p1 4 = true) <| some ((u7.2.2.2 p1.toNatClampNeg), u7.1, u7.2.1, u7.2.2.1, u7.2.2.2)) else some ((-6 : Int32), rot, arv, dep, pos))))
def b_X4_makePass_4 (deg : Nat → Int32) (nbr : Nat → Int32) (wk : Int32) (p1 : Int32) (st : Int32 × Int32 × (Nat → Int32) × (Nat → Int32) × (Nat → Int32) × (Nat → Int32)) : Option ((Int32 × Int32 × (Nat → Int32) × (Nat → Int32) × (Nat → Int32) × (Nat → Int32)) ⊕ (Int32 × (Nat → Int32) × (Nat → Int32) × (Nat → Int32) × (Nat → Int32))) :=
  (if wk ≤ st.2.1 then some (.inr (st.1, st.2.2.1, st.2.2.2.1, st.2.2.2.2.1, st.2.2.2.2.2)) else grd (inB st.2.1 4 = true) <| (if (st.2.2.2.2.2 st.2.1.toNatClampNeg) = p1 then some (.inl (st.1, (st.2.1 + 1), st.2.2.1, st.2.2.2.1, st.2.2.2.2.1, st.2.2.2.2.2)) else (f_X3_move st.2.2.1 st.2.2.2.1 st.2.2.2.2.1 st.2.2.2.2.2 deg nbr st.2.1).bind fun u4 => some (.inl ((st.1 + 1), (st.2.1 + 1), u4.1, u4.2.1, u4.2.2.1, u4.2.2.2))))
def f_X4_makePass (N : Nat) (deg : Nat → Int32) (nbr : Nat → Int32) (wk : Int32) (rot : Nat → Int32) (arv : Nat → Int32) (dep : Nat → Int32) (pos : Nat → Int32) (p1 : Int32) : Option (Int32 × (Nat → Int32) × (Nat → Int32) × (Nat → Int32) × (Nat → Int32)) :=
  ((iter (b_X4_makePass_4 deg nbr wk p1) N ((0 : Int32), (0 : Int32), rot, arv, dep, pos)).bind fun u5 => some (u5.1, u5.2.1, u5.2.2.1, u5.2.2.2.1, u5.2.2.2.2))
def b_X4_absorbInTurns_4 (N : Nat) (deg : Nat → Int32) (nbr : Nat → Int32) (wk : Int32) (p1 : Int32) (st : Int32 × Int32 × (Nat → Int32) × (Nat → Int32) × (Nat → Int32) × (Nat → Int32)) : Option ((Int32 × Int32 × (Nat → Int32) × (Nat → Int32) × (Nat → Int32) × (Nat → Int32)) ⊕ ((Int32 × (Nat → Int32) × (Nat → Int32) × (Nat → Int32) × (Nat → Int32)) ⊕ (Int32 × (Nat → Int32) × (Nat → Int32) × (Nat → Int32) × (Nat → Int32)))) :=
  (if (1000000 : Int32) ≤ st.2.1 then some (.inr (.inl (st.1, st.2.2.1, st.2.2.2.1, st.2.2.2.2.1, st.2.2.2.2.2))) else (f_X4_makePass N deg nbr wk st.2.2.1 st.2.2.2.1 st.2.2.2.2.1 st.2.2.2.2.2 p1).bind fun u2 => (if u2.1 = 0 then some (.inr (.inr (st.1, u2.2.1, u2.2.2.1, u2.2.2.2.1, u2.2.2.2.2))) else some (.inl ((st.1 + u2.1), (st.2.1 + 1), u2.2.1, u2.2.2.1, u2.2.2.2.1, u2.2.2.2.2))))
def f_X4_absorbInTurns (N : Nat) (deg : Nat → Int32) (nbr : Nat → Int32) (wk : Int32) (rot : Nat → Int32) (arv : Nat → Int32) (dep : Nat → Int32) (pos : Nat → Int32) (p1 : Int32) : Option (Int32 × (Nat → Int32) × (Nat → Int32) × (Nat → Int32) × (Nat → Int32)) :=
  ((iter (b_X4_absorbInTurns_4 N deg nbr wk p1) N ((0 : Int32), (0 : Int32), rot, arv, dep, pos)).bind fun u4 => match u4 with | .inl u4a => some (u4a.1, u4a.2.1, u4a.2.2.1, u4a.2.2.2.1, u4a.2.2.2.2) | .inr u4b => some (u4b.1, u4b.2.1, u4b.2.2.1, u4b.2.2.2.1, u4b.2.2.2.2))
def b_X4_absorbOneByOne_15 (deg : Nat → Int32) (nbr : Nat → Int32) (p1 : Int32) (p3 : Int32) (st : Int32 × (Nat → Int32) × (Nat → Int32) × (Nat → Int32) × (Nat → Int32)) : Option ((Int32 × (Nat → Int32) × (Nat → Int32) × (Nat → Int32) × (Nat → Int32)) ⊕ (Int32 × (Nat → Int32) × (Nat → Int32) × (Nat → Int32) × (Nat → Int32))) :=
  grd (inB p3 4 = true) <| (if (st.2.2.2.2 p3.toNatClampNeg) = p1 then some (.inr (st.1, st.2.1, st.2.2.1, st.2.2.2.1, st.2.2.2.2)) else (if (1000000 : Int32) ≤ st.1 then some (.inr (st.1, st.2.1, st.2.2.1, st.2.2.2.1, st.2.2.2.2)) else (f_X3_move st.2.1 st.2.2.1 st.2.2.2.1 st.2.2.2.2 deg nbr p3).bind fun u4 => some (.inl ((st.1 + 1), u4.1, u4.2.1, u4.2.2.1, u4.2.2.2))))
def b_X4_absorbOneByOne_4 (N : Nat) (deg : Nat → Int32) (nbr : Nat → Int32) (wk : Int32) (p1 : Int32) (st : Int32 × Int32 × (Nat → Int32) × (Nat → Int32) × (Nat → Int32) × (Nat → Int32)) : Option ((Int32 × Int32 × (Nat → Int32) × (Nat → Int32) × (Nat → Int32) × (Nat → Int32)) ⊕ (Int32 × (Nat → Int32) × (Nat → Int32) × (Nat → Int32) × (Nat → Int32))) :=
  (if wk ≤ st.2.1 then some (.inr (st.1, st.2.2.1, st.2.2.2.1, st.2.2.2.2.1, st.2.2.2.2.2)) else ((iter (b_X4_absorbOneByOne_15 deg nbr p1 st.2.1) N (st.1, st.2.2.1, st.2.2.2.1, st.2.2.2.2.1, st.2.2.2.2.2)).bind fun u6 => some (.inl (u6.1, (st.2.1 + 1), u6.2.1, u6.2.2.1, u6.2.2.2.1, u6.2.2.2.2))))
def f_X4_absorbOneByOne (N : Nat) (deg : Nat → Int32) (nbr : Nat → Int32) (wk : Int32) (rot : Nat → Int32) (arv : Nat → Int32) (dep : Nat → Int32) (pos : Nat → Int32) (p1 : Int32) : Option (Int32 × (Nat → Int32) × (Nat → Int32) × (Nat → Int32) × (Nat → Int32)) :=
  ((iter (b_X4_absorbOneByOne_4 N deg nbr wk p1) N ((0 : Int32), (0 : Int32), rot, arv, dep, pos)).bind fun u7 => some (u7.1, u7.2.1, u7.2.2.1, u7.2.2.2.1, u7.2.2.2.2))
def f_X4_absorb (N : Nat) (nodes : Int32) (deg : Nat → Int32) (nbr : Nat → Int32) (wk : Int32) (rot : Nat → Int32) (arv : Nat → Int32) (dep : Nat → Int32) (pos : Nat → Int32) (p1 : Int32) (p2 : Int32) : Option (Int32 × (Nat → Int32) × (Nat → Int32) × (Nat → Int32) × (Nat → Int32)) :=
  (f_X0_hasNode nodes p1).bind fun u1 => (if u1 = 0 then some ((-4 : Int32), rot, arv, dep, pos) else (if p2 = 0 then (f_X4_absorbOneByOne N deg nbr wk rot arv dep pos p1).bind fun u4 => some (u4.1, u4.2.1, u4.2.2.1, u4.2.2.2.1, u4.2.2.2.2) else (f_X4_absorbInTurns N deg nbr wk rot arv dep pos p1).bind fun u5 => some (u5.1, u5.2.1, u5.2.2.1, u5.2.2.2.1, u5.2.2.2.2)))
def f_X4_arrivals (nodes : Int32) (arv : Nat → Int32) (p1 : Int32) : Option (Int32) :=
  (f_X0_hasNode nodes p1).bind fun u1 => (if u1 = 0 then some (-4 : Int32) else grd (inB p1 8 = true) <| some (arv p1.toNatClampNeg))
def f_X4_departures (nodes : Int32) (deg : Nat → Int32) (dep : Nat → Int32) (p1 : Int32) (p2 : Int32) : Option (Int32) :=
  (f_X0_neighborError nodes deg p1 p2).bind fun u1 => (if u1 = 0 then (f_X0_slot p1 p2).bind fun u3 => grd (inB u3 56 = true) <| some (dep u3.toNatClampNeg) else some u1)
def b_X4_stepsToCycle_72 (deg : Nat → Int32) (nbr : Nat → Int32) (p2 : Int32) (st : Int32 × Int32 × (Nat → Int32)) : Option ((Int32 × Int32 × (Nat → Int32)) ⊕ (Int32 × (Nat → Int32))) :=
  (if p2 ≤ st.1 then some (.inr (st.2.1, st.2.2)) else (f_X2_move st.2.1 st.2.2 deg nbr).bind fun u2 => some (.inl ((st.1 + 1), u2.1, u2.2)))
def b_X4_stepsToCycle_96 (N : Nat) (nodes : Int32) (deg : Nat → Int32) (nbr : Nat → Int32) (st : Int32 × Int32 × (Nat → Int32) × Int32 × (Nat → Int32)) : Option ((Int32 × Int32 × (Nat → Int32) × Int32 × (Nat → Int32)) ⊕ (Int32 × Int32 × (Nat → Int32) × Int32 × (Nat → Int32))) :=
  (if (1000000 : Int32) ≤ st.1 then some (.inr (st.1, st.2.1, st.2.2.1, st.2.2.2.1, st.2.2.2.2)) else (f_X2_isSameAs N st.2.1 st.2.2.1 st.2.2.2.1 st.2.2.2.2 nodes).bind fun u4 => (if u4 = 0 then (f_X2_move st.2.1 st.2.2.1 deg nbr).bind fun u6 => (f_X2_move st.2.2.2.1 st.2.2.2.2 deg nbr).bind fun u7 => some (.inl ((st.1 + 1), u6.1, u6.2, u7.1, u7.2)) else some (.inr (st.1, st.2.1, st.2.2.1, st.2.2.2.1, st.2.2.2.2))))
def f_X4_stepsToCycle (N : Nat) (nodes : Int32) (links : Int32) (deg : Nat → Int32) (nbr : Nat → Int32) (wk : Int32) (rot : Nat → Int32) (pos : Nat → Int32) (node : Int32) (prot : Nat → Int32) (nodeA : Int32) (protA : Nat → Int32) (p1 : Int32) : Option (Int32 × Int32 × (Nat → Int32) × Int32 × (Nat → Int32)) :=
  (f_X3_hasWalker wk p1).bind fun u8 => (if u8 = 0 then some ((-5 : Int32), node, prot, nodeA, protA) else grd (inB p1 4 = true) <| (f_X2_start node prot rot (pos p1.toNatClampNeg)).bind fun u11 => grd (inB p1 4 = true) <| (f_X2_start nodeA protA rot (pos p1.toNatClampNeg)).bind fun u13 => ((iter (b_X4_stepsToCycle_72 deg nbr ((2 : Int32) * links)) N ((0 : Int32), u13.1, u13.2)).bind fun u14 => ((iter (b_X4_stepsToCycle_96 N nodes deg nbr) N ((0 : Int32), u11.1, u11.2, u14.1, u14.2)).bind fun u15 => some (u15.1, u15.2.1, u15.2.2.1, u15.2.2.2.1, u15.2.2.2.2))))
def b_X4_coverTimeBelow_30 (deg : Nat → Int32) (nbr : Nat → Int32) (p1 : Int32) (p4 : Int32) (st : Int32 × Int32 × Int32 × (Nat → Int32)) : Option ((Int32 × Int32 × Int32 × (Nat → Int32)) ⊕ (Int32 × Int32 × (Nat → Int32))) :=
  (if st.1 = p4 then some (.inr (st.2.1, st.2.2.1, st.2.2.2)) else (if p1 ≤ st.2.1 then some (.inr (st.2.1, st.2.2.1, st.2.2.2)) else (f_X2_move st.2.2.1 st.2.2.2 deg nbr).bind fun u3 => some (.inl ((st.1 ||| ((1 : Int32) <<< (u3.1 &&& 31))), (st.2.1 + 1), u3.1, u3.2))))
def f_X4_coverTimeBelow (N : Nat) (nodes : Int32) (deg : Nat → Int32) (nbr : Nat → Int32) (node : Int32) (prot : Nat → Int32) (src : Nat → Int32) (p1 : Int32) (p2 : Int32) : Option (Int32 × Int32 × (Nat → Int32)) :=
  (f_X2_start node prot src p2).bind fun u4 => ((iter (b_X4_coverTimeBelow_30 deg nbr p1 (((1 : Int32) <<< (nodes &&& 31)) - (1 : Int32))) N (((1 : Int32) <<< (p2 &&& 31)), (0 : Int32), u4.1, u4.2)).bind fun u5 => some (u5.1, u5.2.1, u5.2.2))
def f_X4_coverTime (N : Nat) (nodes : Int32) (deg : Nat → Int32) (nbr : Nat → Int32) (wk : Int32) (rot : Nat → Int32) (pos : Nat → Int32) (node : Int32) (prot : Nat → Int32) (p1 : Int32) : Option (Int32 × Int32 × (Nat → Int32)) :=
  (f_X3_hasWalker wk p1).bind fun u1 => (if u1 = 0 then some ((-5 : Int32), node, prot) else grd (inB p1 4 = true) <| (f_X4_coverTimeBelow N nodes deg nbr node prot rot (1000000 : Int32) (pos p1.toNatClampNeg)).bind fun u4 => some (u4.1, u4.2.1, u4.2.2))
def b_X4_turnTrialRotors_10 (deg : Nat → Int32) (st : Int32 × (Nat → Int32)) : Option ((Int32 × (Nat → Int32)) ⊕ (((Nat → Int32)) ⊕ ((Nat → Int32)))) :=
  (if st.1 < 0 then some (.inr (.inl st.2)) else grd (inB st.1 8 = true) <| (f_X0_rotorAfter deg st.1 (st.2 st.1.toNatClampNeg)).bind fun u3 => grd (inB st.1 8 = true) <| grd (inB st.1 8 = true) <| (if ((upd st.2 st.1.toNatClampNeg u3) st.1.toNatClampNeg) = 0 then some (.inl ((st.1 + (-1)), (upd st.2 st.1.toNatClampNeg u3))) else some (.inr (.inr (upd st.2 st.1.toNatClampNeg u3)))))
def f_X4_turnTrialRotors (N : Nat) (nodes : Int32) (deg : Nat → Int32) (tri : Nat → Int32) : Option ((Nat → Int32)) :=
  ((iter (b_X4_turnTrialRotors_10 deg) N ((nodes - (1 : Int32)), tri)).bind fun u7 => match u7 with | .inl u7a => some u7a | .inr u7b => some u7b)
def b_X4_searchAssignments_2 (nodes : Int32) (st : Int32 × (Nat → Int32)) : Option ((Int32 × (Nat → Int32)) ⊕ ((Nat → Int32))) :=
  (if nodes ≤ st.1 then some (.inr st.2) else grd (inB st.1 8 = true) <| some (.inl ((st.1 + 1), (upd st.2 st.1.toNatClampNeg (0 : Int32)))))
def b_X4_searchAssignments_51 (N : Nat) (nodes : Int32) (deg : Nat → Int32) (nbr : Nat → Int32) (p1 : Int32) (p2 : Int32) (p3 : Int32) (st : Int32 × Int32 × Int32 × (Nat → Int32) × (Nat → Int32) × (Nat → Int32)) : Option ((Int32 × Int32 × Int32 × (Nat → Int32) × (Nat → Int32) × (Nat → Int32)) ⊕ (Int32 × Int32 × (Nat → Int32) × (Nat → Int32) × (Nat → Int32))) :=
  (if p2 ≤ st.2.1 then some (.inr (st.1, st.2.2.1, st.2.2.2.1, st.2.2.2.2.1, st.2.2.2.2.2)) else (if st.1 ≤ p3 then some (.inr (st.1, st.2.2.1, st.2.2.2.1, st.2.2.2.2.1, st.2.2.2.2.2)) else (f_X4_coverTimeBelow N nodes deg nbr st.2.2.1 st.2.2.2.1 st.2.2.2.2.1 st.1 p1).bind fun u5 => (if st.1 ≤ u5.1 then (f_X4_turnTrialRotors N nodes deg st.2.2.2.2.1).bind fun u7 => some (.inl (st.1, (st.2.1 + 1), u5.2.1, u5.2.2, u7, st.2.2.2.2.2)) else (f_X4_turnTrialRotors N nodes deg st.2.2.2.2.1).bind fun u8 => some (.inl (u5.1, (st.2.1 + 1), u5.2.1, u5.2.2, u8, (va_cpy st.2.2.2.2.1 st.2.2.2.2.2 0 0 8))))))
def f_X4_searchAssignments (N : Nat) (nodes : Int32) (deg : Nat → Int32) (nbr : Nat → Int32) (node : Int32) (prot : Nat → Int32) (tri : Nat → Int32) (bst : Nat → Int32) (p1 : Int32) : Option (Int32 × Int32 × (Nat → Int32) × (Nat → Int32) × (Nat → Int32)) :=
  ((iter (b_X4_searchAssignments_2 nodes) N ((0 : Int32), tri)).bind fun u9 => (f_X0_assignments N nodes deg).bind fun u10 => ((iter (b_X4_searchAssignments_51 N nodes deg nbr p1 u10 (nodes - (1 : Int32))) N ((1000000 : Int32), (0 : Int32), node, prot, u9, bst)).bind fun u11 => some (u11.1, u11.2.1, u11.2.2.1, u11.2.2.2.1, u11.2.2.2.2)))
def f_X4_leastCoverTime (N : Nat) (nodes : Int32) (deg : Nat → Int32) (nbr : Nat → Int32) (node : Int32) (prot : Nat → Int32) (tri : Nat → Int32) (bst : Nat → Int32) (p1 : Int32) : Option (Int32 × Int32 × (Nat → Int32) × (Nat → Int32) × (Nat → Int32)) :=
  (f_X0_hasNode nodes p1).bind fun u1 => (if u1 = 0 then some ((-4 : Int32), node, prot, tri, bst) else (f_X0_assignments N nodes deg).bind fun u3 => (if u3 ≤ (2000 : Int32) then (f_X4_searchAssignments N nodes deg nbr node prot tri bst p1).bind fun u5 => some (u5.1, u5.2.1, u5.2.2.1, u5.2.2.2.1, u5.2.2.2.2) else some ((-8 : Int32), node, prot, tri, bst)))
def f_X4_bestRotor (N : Nat) (nodes : Int32) (deg : Nat → Int32) (nbr : Nat → Int32) (node : Int32) (prot : Nat → Int32) (tri : Nat → Int32) (bst : Nat → Int32) (p1 : Int32) (p2 : Int32) : Option (Int32 × Int32 × (Nat → Int32) × (Nat → Int32) × (Nat → Int32)) :=
  (f_X0_hasNode nodes p1).bind fun u1 => (if u1 = 0 then some ((-4 : Int32), node, prot, tri, bst) else (f_X0_hasNode nodes p2).bind fun u3 => (if u3 = 0 then some ((-4 : Int32), node, prot, tri, bst) else (f_X0_assignments N nodes deg).bind fun u5 => (if u5 ≤ (2000 : Int32) then (f_X4_searchAssignments N nodes deg nbr node prot tri bst p1).bind fun u7 => grd (inB p2 8 = true) <| some ((u7.2.2.2.2 p2.toNatClampNeg), u7.2.1, u7.2.2.1, u7.2.2.2.1, u7.2.2.2.2) else some ((-8 : Int32), node, prot, tri, bst))))
def b_X4_spreadChances_2 (nodes : Int32) (st : Int32 × (Nat → UInt64)) : Option ((Int32 × (Nat → UInt64)) ⊕ ((Nat → UInt64))) :=
  (if nodes ≤ st.1 then some (.inr st.2) else grd (inB st.1 8 = true) <| some (.inl ((st.1 + 1), (vf_upd st.2 st.1.toNatClampNeg FP.dconst0))))
def b_X4_spreadChances_108 (nodes : Int32) (nxt : Nat → UInt64) (st : Int32 × (Nat → UInt64)) : Option ((Int32 × (Nat → UInt64)) ⊕ ((Nat → UInt64))) :=
  (if nodes ≤ st.1 then some (.inr st.2) else grd (inB st.1 8 = true) <| grd (inB st.1 8 = true) <| some (.inl ((st.1 + 1), (vf_upd st.2 st.1.toNatClampNeg (nxt st.1.toNatClampNeg)))))
def b_X4_spreadChances_41 (deg : Nat → Int32) (nbr : Nat → Int32) (chs : Nat → UInt64) (p1 : Int32) (st : Int32 × (Nat → UInt64)) : Option ((Int32 × (Nat → UInt64)) ⊕ ((Nat → UInt64))) :=
  grd (inB p1 8 = true) <| (if (deg p1.toNatClampNeg) ≤ st.1 then some (.inr st.2) else (f_X0_slot p1 st.1).bind fun u8 => grd (inB u8 56 = true) <| grd (inB (nbr u8.toNatClampNeg) 8 = true) <| grd (inB p1 8 = true) <| grd (inB p1 8 = true) <| grd (nnB (FP.ddiv (chs p1.toNatClampNeg) (FP.i2d (deg p1.toNatClampNeg))) = true) <| grd (nnB (FP.dadd (st.2 (nbr u8.toNatClampNeg).toNatClampNeg) (FP.ddiv (chs p1.toNatClampNeg) (FP.i2d (deg p1.toNatClampNeg)))) = true) <| grd (inB (nbr u8.toNatClampNeg) 8 = true) <| some (.inl ((st.1 + 1), (vf_upd st.2 (nbr u8.toNatClampNeg).toNatClampNeg (FP.dadd (st.2 (nbr u8.toNatClampNeg).toNatClampNeg) (FP.ddiv (chs p1.toNatClampNeg) (FP.i2d (deg p1.toNatClampNeg))))))))
def b_X4_spreadChances_28 (N : Nat) (nodes : Int32) (deg : Nat → Int32) (nbr : Nat → Int32) (chs : Nat → UInt64) (st : Int32 × (Nat → UInt64)) : Option ((Int32 × (Nat → UInt64)) ⊕ ((Nat → UInt64))) :=
  (if nodes ≤ st.1 then some (.inr st.2) else ((iter (b_X4_spreadChances_41 deg nbr chs st.1) N ((0 : Int32), st.2)).bind fun u17 => some (.inl ((st.1 + 1), u17))))
def f_X4_spreadChances (N : Nat) (nodes : Int32) (deg : Nat → Int32) (nbr : Nat → Int32) (chs : Nat → UInt64) (nxt : Nat → UInt64) : Option ((Nat → UInt64) × (Nat → UInt64)) :=
  ((iter (b_X4_spreadChances_2 nodes) N ((0 : Int32), nxt)).bind fun u18 => ((iter (b_X4_spreadChances_28 N nodes deg nbr chs) N ((0 : Int32), u18)).bind fun u19 => ((iter (b_X4_spreadChances_108 nodes u19) N ((0 : Int32), chs)).bind fun u20 => some (u20, u19))))
def b_X4_bitsOf_13  (st : UInt64 × Int32) : Option ((UInt64 × Int32) ⊕ (UInt64 × Int32)) :=
  (if (Op.cmpValue (FP.dcmp st.1 (4611686018427387904 : UInt64)) .l) < 0 then some (.inr (st.1, st.2)) else (if (1023 : Int32) ≤ st.2 then some (.inr (st.1, st.2)) else grd (nnB (FP.ddiv st.1 (4611686018427387904 : UInt64)) = true) <| some (.inl ((FP.ddiv st.1 (4611686018427387904 : UInt64)), (st.2 + 1)))))
def b_X4_bitsOf_41  (st : UInt64 × Int32) : Option ((UInt64 × Int32) ⊕ (UInt64 × Int32)) :=
  (if 0 ≤ (Op.cmpValue (FP.dcmp st.1 FP.dconst1) .g) then some (.inr (st.1, st.2)) else (if st.2 ≤ (-1022 : Int32) then some (.inr (st.1, st.2)) else grd (nnB (FP.dmul st.1 (4611686018427387904 : UInt64)) = true) <| some (.inl ((FP.dmul st.1 (4611686018427387904 : UInt64)), (st.2 + (-1))))))
def f_X4_bitsOf (N : Nat) (p0 : UInt64) : Option (Int64) :=
  (if 0 < (Op.cmpValue (FP.dcmp p0 FP.dconst0) .g) then ((iter (b_X4_bitsOf_13) N (p0, (0 : Int32))).bind fun u8 => ((iter (b_X4_bitsOf_41) N (u8.1, u8.2)).bind fun u9 => grd (nnB (FP.dsub u9.1 FP.dconst1) = true) <| grd (nnB (FP.dmul (FP.dsub u9.1 FP.dconst1) (4841369599423283200 : UInt64)) = true) <| some (((u9.2 + (1023 : Int32)).toInt64 * (4503599627370496 : Int64)) + (FP.d2l (FP.dmul (FP.dsub u9.1 FP.dconst1) (4841369599423283200 : UInt64)))))) else some (0 : Int64))
def b_X4_expectedArrivals_85 (N : Nat) (nodes : Int32) (deg : Nat → Int32) (nbr : Nat → Int32) (p2 : Int32) (p3 : Int32) (st : UInt64 × Int32 × (Nat → UInt64) × (Nat → UInt64)) : Option ((UInt64 × Int32 × (Nat → UInt64) × (Nat → UInt64)) ⊕ (UInt64 × (Nat → UInt64) × (Nat → UInt64))) :=
  (if p2 ≤ st.2.1 then some (.inr (st.1, st.2.2.1, st.2.2.2)) else (f_X4_spreadChances N nodes deg nbr st.2.2.1 st.2.2.2).bind fun u2 => grd (inB p3 8 = true) <| grd (nnB (FP.dadd st.1 (u2.1 p3.toNatClampNeg)) = true) <| some (.inl ((FP.dadd st.1 (u2.1 p3.toNatClampNeg)), (st.2.1 + 1), u2.1, u2.2)))
def b_X4_expectedArrivals_43 (nodes : Int32) (p1 : Int32) (st : Int32 × (Nat → UInt64)) : Option ((Int32 × (Nat → UInt64)) ⊕ ((Nat → UInt64))) :=
  (if nodes ≤ st.1 then some (.inr st.2) else (if st.1 = p1 then grd (inB st.1 8 = true) <| some (.inl ((st.1 + 1), (vf_upd st.2 st.1.toNatClampNeg FP.dconst1))) else grd (inB st.1 8 = true) <| some (.inl ((st.1 + 1), (vf_upd st.2 st.1.toNatClampNeg FP.dconst0)))))
def f_X4_expectedArrivals (N : Nat) (nodes : Int32) (deg : Nat → Int32) (nbr : Nat → Int32) (chs : Nat → UInt64) (nxt : Nat → UInt64) (p1 : Int32) (p2 : Int32) (p3 : Int32) : Option (Int64 × (Nat → UInt64) × (Nat → UInt64)) :=
  (f_X0_hasNode nodes p1).bind fun u9 => (if u9 = 0 then some ((-4 : Int64), chs, nxt) else (f_X0_hasNode nodes p3).bind fun u11 => (if u11 = 0 then some ((-4 : Int64), chs, nxt) else (if p2 < 0 then some ((-6 : Int64), chs, nxt) else (if p2 ≤ (50 : Int32) then ((iter (b_X4_expectedArrivals_43 nodes p1) N ((0 : Int32), chs)).bind fun u15 => ((iter (b_X4_expectedArrivals_85 N nodes deg nbr p2 p3) N (FP.dconst0, (0 : Int32), u15, nxt)).bind fun u16 => (f_X4_bitsOf N u16.1).bind fun u17 => some (u17, u16.2.1, u16.2.2))) else some ((-6 : Int64), chs, nxt)))))
def f_X4_snapshot (hask : Int32) (nodes : Int32) (wk : Int32) (rot : Nat → Int32) (arv : Nat → Int32) (dep : Nat → Int32) (pos : Nat → Int32) (wkK : Int32) (rotK : Nat → Int32) (arvK : Nat → Int32) (depK : Nat → Int32) (posK : Nat → Int32) : Option (Int32 × Int32 × Int32 × (Nat → Int32) × (Nat → Int32) × (Nat → Int32) × (Nat → Int32)) :=
  (if nodes = 0 then some ((-9 : Int32), hask, wkK, rotK, arvK, depK, posK) else (f_X3_copyFrom wkK rotK arvK depK posK wk rot arv dep pos).bind fun u2 => some (wk, (1 : Int32), u2.1, u2.2.1, u2.2.2.1, u2.2.2.2.1, u2.2.2.2.2))
def f_X4_restore (hask : Int32) (wk : Int32) (rot : Nat → Int32) (arv : Nat → Int32) (dep : Nat → Int32) (pos : Nat → Int32) (wkK : Int32) (rotK : Nat → Int32) (arvK : Nat → Int32) (depK : Nat → Int32) (posK : Nat → Int32) : Option (Int32 × Int32 × (Nat → Int32) × (Nat → Int32) × (Nat → Int32) × (Nat → Int32)) :=
  (if hask = 0 then some ((-9 : Int32), wk, rot, arv, dep, pos) else (f_X3_copyFrom wk rot arv dep pos wkK rotK arvK depK posK).bind fun u2 => some (u2.1, u2.1, u2.2.1, u2.2.2.1, u2.2.2.2.1, u2.2.2.2.2))
def f_X4_walkerCount (wk : Int32) : Option (Int32) :=
  some wk
def f_X4_linkCount (links : Int32) : Option (Int32) :=
  some links
def f_X4_hashed (p0 : Int64) (p2 : Int64) : Option (Int64) :=
  some (((31 : Int64) * p0) + p2)
def b_X4_hashedNode_53 (deg : Nat → Int32) (nbr : Nat → Int32) (dep : Nat → Int32) (p3 : Int32) (st : Int64 × Int32) : Option ((Int64 × Int32) ⊕ (Int64)) :=
  grd (inB p3 8 = true) <| (if (deg p3.toNatClampNeg) ≤ st.2 then some (.inr st.1) else (f_X0_slot p3 st.2).bind fun u3 => grd (inB u3 56 = true) <| (f_X4_hashed st.1 ((nbr u3.toNatClampNeg).toInt64)).bind fun u5 => grd (inB u3 56 = true) <| (f_X4_hashed u5 ((dep u3.toNatClampNeg).toInt64)).bind fun u7 => some (.inl (u7, (st.2 + 1))))
def f_X4_hashedNode (N : Nat) (deg : Nat → Int32) (nbr : Nat → Int32) (rot : Nat → Int32) (arv : Nat → Int32) (dep : Nat → Int32) (p1 : Int64) (p3 : Int32) : Option (Int64) :=
  grd (inB p3 8 = true) <| (f_X4_hashed p1 ((deg p3.toNatClampNeg).toInt64)).bind fun u9 => grd (inB p3 8 = true) <| (f_X4_hashed u9 ((rot p3.toNatClampNeg).toInt64)).bind fun u11 => grd (inB p3 8 = true) <| (f_X4_hashed u11 ((arv p3.toNatClampNeg).toInt64)).bind fun u13 => ((iter (b_X4_hashedNode_53 deg nbr dep p3) N (u13, (0 : Int32))).bind fun u14 => some u14)
def f_X4_hashedAnalysis (N : Nat) (nodes : Int32) (deg : Nat → Int32) (nbr : Nat → Int32) (node : Int32) (prot : Nat → Int32) (tri : Nat → Int32) (bst : Nat → Int32) (chs : Nat → UInt64) (nxt : Nat → UInt64) (p1 : Int64) : Option (Int64 × Int32 × (Nat → Int32) × (Nat → Int32) × (Nat → Int32) × (Nat → UInt64) × (Nat → UInt64)) :=
  (f_X0_assignments N nodes deg).bind fun u1 => (if (2000 : Int32) < u1 then (f_X4_expectedArrivals N nodes deg nbr chs nxt (0 : Int32) (7 : Int32) (1 : Int32)).bind fun u3 => (f_X4_hashed p1 u3.1).bind fun u4 => some (u4, node, prot, tri, bst, u3.2.1, u3.2.2) else (f_X4_searchAssignments N nodes deg nbr node prot tri bst (0 : Int32)).bind fun u5 => (f_X4_hashed p1 u5.1.toInt64).bind fun u6 => (f_X4_expectedArrivals N nodes deg nbr chs nxt (0 : Int32) (7 : Int32) (1 : Int32)).bind fun u7 => (f_X4_hashed u6 u7.1).bind fun u8 => some (u8, u5.2.1, u5.2.2.1, u5.2.2.2.1, u5.2.2.2.2, u7.2.1, u7.2.2))
def b_X4_hashedInput_16 (len : Int32) (codes : Nat → Int32) (st : Int64 × Int32) : Option ((Int64 × Int32) ⊕ (Int64)) :=
  (if len ≤ st.2 then some (.inr st.1) else grd (inB st.2 40 = true) <| (f_X4_hashed st.1 ((codes st.2.toNatClampNeg).toInt64)).bind fun u3 => some (.inl (u3, (st.2 + 1))))
def f_X4_hashedInput (N : Nat) (len : Int32) (codes : Nat → Int32) (p1 : Int64) : Option (Int64) :=
  (f_X4_hashed p1 len.toInt64).bind fun u4 => ((iter (b_X4_hashedInput_16 len codes) N (u4, (0 : Int32))).bind fun u5 => some u5)
def b_X4_digest_30 (N : Nat) (nodes : Int32) (deg : Nat → Int32) (nbr : Nat → Int32) (rot : Nat → Int32) (arv : Nat → Int32) (dep : Nat → Int32) (st : Int64 × Int32) : Option ((Int64 × Int32) ⊕ (Int64)) :=
  (if nodes ≤ st.2 then some (.inr st.1) else (f_X4_hashedNode N deg nbr rot arv dep st.1 st.2).bind fun u2 => some (.inl (u2, (st.2 + 1))))
def b_X4_digest_69 (N : Nat) (nodes : Int32) (links : Int32) (deg : Nat → Int32) (nbr : Nat → Int32) (wk : Int32) (rot : Nat → Int32) (pos : Nat → Int32) (st : Int64 × Int32 × Int32 × (Nat → Int32) × Int32 × (Nat → Int32)) : Option ((Int64 × Int32 × Int32 × (Nat → Int32) × Int32 × (Nat → Int32)) ⊕ (Int64 × Int32 × (Nat → Int32) × Int32 × (Nat → Int32))) :=
  (if wk ≤ st.2.1 then some (.inr (st.1, st.2.2.1, st.2.2.2.1, st.2.2.2.2.1, st.2.2.2.2.2)) else grd (inB st.2.1 4 = true) <| (f_X4_hashed st.1 ((pos st.2.1.toNatClampNeg).toInt64)).bind fun u5 => (f_X4_stepsToCycle N nodes links deg nbr wk rot pos st.2.2.1 st.2.2.2.1 st.2.2.2.2.1 st.2.2.2.2.2 st.2.1).bind fun u6 => (f_X4_hashed u5 u6.1.toInt64).bind fun u7 => (f_X4_coverTime N nodes deg nbr wk rot pos u6.2.1 u6.2.2.1 st.2.1).bind fun u8 => (f_X4_hashed u7 u8.1.toInt64).bind fun u9 => some (.inl (u9, (st.2.1 + 1), u8.2.1, u8.2.2, u6.2.2.2.1, u6.2.2.2.2)))
def f_X4_digest (N : Nat) (len : Int32) (codes : Nat → Int32) (nodes : Int32) (links : Int32) (deg : Nat → Int32) (nbr : Nat → Int32) (wk : Int32) (rot : Nat → Int32) (arv : Nat → Int32) (dep : Nat → Int32) (pos : Nat → Int32) (node : Int32) (prot : Nat → Int32) (nodeA : Int32) (protA : Nat → Int32) (tri : Nat → Int32) (bst : Nat → Int32) (chs : Nat → UInt64) (nxt : Nat → UInt64) : Option (Int64 × Int32 × (Nat → Int32) × Int32 × (Nat → Int32) × (Nat → Int32) × (Nat → Int32) × (Nat → UInt64) × (Nat → UInt64)) :=
  (f_X4_hashed (1753 : Int64) nodes.toInt64).bind fun u10 => (f_X4_hashed u10 links.toInt64).bind fun u11 => ((iter (b_X4_digest_30 N nodes deg nbr rot arv dep) N (u11, (0 : Int32))).bind fun u12 => (f_X4_hashed u12 wk.toInt64).bind fun u13 => ((iter (b_X4_digest_69 N nodes links deg nbr wk rot pos) N (u13, (0 : Int32), node, prot, nodeA, protA)).bind fun u14 => (if nodes ≤ 0 then (f_X4_hashedInput N len codes u14.1).bind fun u16 => some (u16, u14.2.1, u14.2.2.1, u14.2.2.2.1, u14.2.2.2.2, tri, bst, chs, nxt) else (f_X4_hashedAnalysis N nodes deg nbr u14.2.1 u14.2.2.1 tri bst chs nxt u14.1).bind fun u17 => (f_X4_hashedInput N len codes u17.1).bind fun u18 => some (u18, u17.2.1, u17.2.2.1, u14.2.2.2.1, u14.2.2.2.2, u17.2.2.2.1, u17.2.2.2.2.1, u17.2.2.2.2.2.1, u17.2.2.2.2.2.2))))
def f_X5_within (p0 : Int32) (p1 : Int32) (p2 : Int32) : Option (Int32) :=
  (if p0 < p1 then some (0 : Int32) else (if p2 < p0 then some (0 : Int32) else some (1 : Int32)))
def f_X5_append (mlen : Int32) (buf : Nat → Int32) (p1 : Int32) : Option (Int32 × Int32 × (Nat → Int32)) :=
  (f_X5_within p1 (32 : Int32) (126 : Int32)).bind fun u1 => (if u1 = 0 then some ((-1 : Int32), mlen, buf) else (if mlen = (40 : Int32) then some ((-2 : Int32), mlen, buf) else grd (inB mlen 40 = true) <| some ((mlen + (1 : Int32)), (mlen + (1 : Int32)), (upd buf mlen.toNatClampNeg p1))))
def f_X5_clearInput (mlen : Int32) : Option (Int32 × Int32) :=
  some (mlen, (0 : Int32))
def f_X5_isNodeDigit (buf : Nat → Int32) (p1 : Int32) : Option (Int32) :=
  grd (inB p1 40 = true) <| (if (buf p1.toNatClampNeg) < (48 : Int32) then some (0 : Int32) else grd (inB p1 40 = true) <| (if (buf 0) ≤ (buf p1.toNatClampNeg) then some (0 : Int32) else some (1 : Int32)))
def b_X5_isSecondNode_39 (buf : Nat → Int32) (p1 : Int32) (p2 : Int32) (p3 : Int32) (st : Int32 × Int32) : Option ((Int32 × Int32) ⊕ (Int32)) :=
  (if (p1 - (1 : Int32)) ≤ (st.2 + (1 : Int32)) then some (.inr st.1) else grd (inB st.2 40 = true) <| (if (buf st.2.toNatClampNeg) = p2 then grd (inB (st.2 + (1 : Int32)) 40 = true) <| (if (buf (st.2 + (1 : Int32)).toNatClampNeg) = p3 then (if st.1 = 0 then some (.inl ((0 : Int32), (st.2 + 3))) else some (.inl ((0 : Int32), (st.2 + 3)))) else grd (inB st.2 40 = true) <| (if (buf st.2.toNatClampNeg) = p3 then grd (inB (st.2 + (1 : Int32)) 40 = true) <| (if (buf (st.2 + (1 : Int32)).toNatClampNeg) = p2 then (if st.1 = 0 then some (.inl ((0 : Int32), (st.2 + 3))) else some (.inl ((0 : Int32), (st.2 + 3)))) else (if st.1 = 0 then some (.inl ((0 : Int32), (st.2 + 3))) else some (.inl ((1 : Int32), (st.2 + 3))))) else (if st.1 = 0 then some (.inl ((0 : Int32), (st.2 + 3))) else some (.inl ((1 : Int32), (st.2 + 3)))))) else grd (inB st.2 40 = true) <| (if (buf st.2.toNatClampNeg) = p3 then grd (inB (st.2 + (1 : Int32)) 40 = true) <| (if (buf (st.2 + (1 : Int32)).toNatClampNeg) = p2 then (if st.1 = 0 then some (.inl ((0 : Int32), (st.2 + 3))) else some (.inl ((0 : Int32), (st.2 + 3)))) else (if st.1 = 0 then some (.inl ((0 : Int32), (st.2 + 3))) else some (.inl ((1 : Int32), (st.2 + 3))))) else (if st.1 = 0 then some (.inl ((0 : Int32), (st.2 + 3))) else some (.inl ((1 : Int32), (st.2 + 3)))))))
def f_X5_isSecondNode (N : Nat) (buf : Nat → Int32) (p1 : Int32) : Option (Int32) :=
  grd (inB (p1 - (1 : Int32)) 40 = true) <| grd (inB p1 40 = true) <| (f_X5_isNodeDigit buf p1).bind fun u23 => (if u23 = 0 then ((iter (b_X5_isSecondNode_39 buf p1 (buf (p1 - (1 : Int32)).toNatClampNeg) (buf p1.toNatClampNeg)) N ((0 : Int32), (2 : Int32))).bind fun u25 => grd (z01 u25 = true) <| some u25) else (if (buf (p1 - (1 : Int32)).toNatClampNeg) = (buf p1.toNatClampNeg) then ((iter (b_X5_isSecondNode_39 buf p1 (buf (p1 - (1 : Int32)).toNatClampNeg) (buf p1.toNatClampNeg)) N ((0 : Int32), (2 : Int32))).bind fun u28 => grd (z01 u28 = true) <| some u28) else ((iter (b_X5_isSecondNode_39 buf p1 (buf (p1 - (1 : Int32)).toNatClampNeg) (buf p1.toNatClampNeg)) N ((1 : Int32), (2 : Int32))).bind fun u30 => grd (z01 u30 = true) <| some u30)))
def f_X5_isRight (N : Nat) (buf : Nat → Int32) (p1 : Int32) : Option (Int32) :=
  grd (inB p1 40 = true) <| (if (2 : Int32) ≤ p1 then (if (p1 - p1 / (3 : Int32) * (3 : Int32)) = 0 then (f_X5_isSecondNode N buf p1).bind fun u4 => grd (z01 u4 = true) <| some u4 else (if (p1 - p1 / (3 : Int32) * (3 : Int32)) = 2 then (f_X5_isNodeDigit buf p1).bind fun u7 => grd (z01 u7 = true) <| some u7 else (if (buf p1.toNatClampNeg) = (44 : Int32) then (if (12 : Int32) ≤ ((p1 - (1 : Int32)) / (3 : Int32)) then some (0 : Int32) else some (1 : Int32)) else some (0 : Int32)))) else (if p1 = 0 then (f_X5_within (buf p1.toNatClampNeg) (50 : Int32) (56 : Int32)).bind fun u13 => grd (z01 u13 = true) <| some u13 else (if (buf p1.toNatClampNeg) = (58 : Int32) then some (1 : Int32) else some (0 : Int32))))
def b_X5_rightLength_2 (N : Nat) (mlen : Int32) (buf : Nat → Int32) (st : Int32) : Option ((Int32) ⊕ (Int32)) :=
  (if mlen ≤ st then some (.inr st) else (f_X5_isRight N buf st).bind fun u2 => (if u2 = 0 then some (.inr st) else some (.inl (st + 1))))
def f_X5_rightLength (N : Nat) (mlen : Int32) (buf : Nat → Int32) : Option (Int32) :=
  ((iter (b_X5_rightLength_2 N mlen buf) N (0 : Int32)).bind fun u4 => some u4)
def f_X5_firstError (N : Nat) (mlen : Int32) (buf : Nat → Int32) : Option (Int32) :=
  (f_X5_rightLength N mlen buf).bind fun u1 => some u1
def b_X5_isConnected_12 (mlen : Int32) (buf : Nat → Int32) (st : Int32 × Int32) : Option ((Int32 × Int32) ⊕ (Int32)) :=
  (if mlen ≤ st.2 then some (.inr st.1) else grd (inB st.2 40 = true) <| grd (inB (st.2 + (1 : Int32)) 40 = true) <| (if (st.1 &&& (((1 : Int32) <<< (((buf st.2.toNatClampNeg) - (48 : Int32)) &&& 31)) ||| ((1 : Int32) <<< (((buf (st.2 + (1 : Int32)).toNatClampNeg) - (48 : Int32)) &&& 31)))) = 0 then some (.inl ((st.1 ||| (0 : Int32)), (st.2 + 3))) else some (.inl ((st.1 ||| (((1 : Int32) <<< (((buf st.2.toNatClampNeg) - (48 : Int32)) &&& 31)) ||| ((1 : Int32) <<< (((buf (st.2 + (1 : Int32)).toNatClampNeg) - (48 : Int32)) &&& 31)))), (st.2 + 3)))))
def b_X5_isConnected_4 (N : Nat) (mlen : Int32) (buf : Nat → Int32) (st : Int32 × Int32) : Option ((Int32 × Int32) ⊕ (Int32)) :=
  (if (8 : Int32) ≤ st.2 then some (.inr st.1) else ((iter (b_X5_isConnected_12 mlen buf) N (st.1, (2 : Int32))).bind fun u6 => some (.inl (u6, (st.2 + 1)))))
def f_X5_isConnected (N : Nat) (mlen : Int32) (buf : Nat → Int32) : Option (Int32) :=
  ((iter (b_X5_isConnected_4 N mlen buf) N ((1 : Int32), (0 : Int32))).bind fun u7 => (if u7 = (((1 : Int32) <<< (((buf 0) - (48 : Int32)) &&& 31)) - (1 : Int32)) then some (1 : Int32) else some (0 : Int32)))
def f_X5_join (tab : Nat → Int32) (mdeg : Nat → Int32) (p1 : Int32) (p2 : Int32) : Option ((Nat → Int32) × (Nat → Int32)) :=
  grd (inB p1 8 = true) <| grd (inB (((8 : Int32) * p1) + (mdeg p1.toNatClampNeg)) 64 = true) <| grd (inB p1 8 = true) <| grd (inB p1 8 = true) <| some ((upd tab (((8 : Int32) * p1) + (mdeg p1.toNatClampNeg)).toNatClampNeg p2), (upd mdeg p1.toNatClampNeg ((mdeg p1.toNatClampNeg) + (1 : Int32))))
def b_X5_load_66  (st : Int32 × (Nat → Int32) × (Nat → Int32) × (Nat → Int32) × (Nat → Int32)) : Option ((Int32 × (Nat → Int32) × (Nat → Int32) × (Nat → Int32) × (Nat → Int32)) ⊕ ((Nat → Int32) × (Nat → Int32) × (Nat → Int32) × (Nat → Int32))) :=
  (if (64 : Int32) ≤ st.1 then some (.inr (st.2.1, st.2.2.1, st.2.2.2.1, st.2.2.2.2)) else grd (inB st.1 64 = true) <| grd (inB (st.1 - st.1 / (8 : Int32) * (8 : Int32)) 8 = true) <| grd (inB (st.1 - st.1 / (8 : Int32) * (8 : Int32)) 8 = true) <| grd (inB (st.1 - st.1 / (8 : Int32) * (8 : Int32)) 8 = true) <| some (.inl ((st.1 + 1), (upd st.2.1 (st.1 - st.1 / (8 : Int32) * (8 : Int32)).toNatClampNeg (0 : Int32)), (upd st.2.2.1 (st.1 - st.1 / (8 : Int32) * (8 : Int32)).toNatClampNeg (0 : Int32)), (upd st.2.2.2.1 (st.1 - st.1 / (8 : Int32) * (8 : Int32)).toNatClampNeg (0 : Int32)), (upd st.2.2.2.2 st.1.toNatClampNeg (0 : Int32)))))
def b_X5_load_117 (mlen : Int32) (buf : Nat → Int32) (st : Int32 × (Nat → Int32) × (Nat → Int32)) : Option ((Int32 × (Nat → Int32) × (Nat → Int32)) ⊕ ((Nat → Int32) × (Nat → Int32))) :=
  (if mlen ≤ st.1 then some (.inr (st.2.1, st.2.2)) else grd (inB st.1 40 = true) <| grd (inB (st.1 + (1 : Int32)) 40 = true) <| (f_X5_join st.2.1 st.2.2 ((buf st.1.toNatClampNeg) - (48 : Int32)) ((buf (st.1 + (1 : Int32)).toNatClampNeg) - (48 : Int32))).bind fun u9 => grd (inB (st.1 + (1 : Int32)) 40 = true) <| grd (inB st.1 40 = true) <| (f_X5_join u9.1 u9.2 ((buf (st.1 + (1 : Int32)).toNatClampNeg) - (48 : Int32)) ((buf st.1.toNatClampNeg) - (48 : Int32))).bind fun u12 => some (.inl ((st.1 + 3), u12.1, u12.2)))
def f_X5_load (N : Nat) (mlen : Int32) (mnodes : Int32) (mlinks : Int32) (mwk : Int32) (hass : Int32) (buf : Nat → Int32) (tab : Nat → Int32) (mdeg : Nat → Int32) (mrot : Nat → Int32) (marr : Nat → Int32) (mdep : Nat → Int32) : Option (Int32 × Int32 × Int32 × Int32 × Int32 × Int32 × (Nat → Int32) × (Nat → Int32) × (Nat → Int32) × (Nat → Int32) × (Nat → Int32)) :=
  (if mlen < (4 : Int32) then some ((-3 : Int32), mlen, mnodes, mlinks, mwk, hass, tab, mdeg, mrot, marr, mdep) else (if (mlen - mlen / (3 : Int32) * (3 : Int32)) = (1 : Int32) then (f_X5_rightLength N mlen buf).bind fun u15 => (if u15 < mlen then some ((-3 : Int32), mlen, mnodes, mlinks, mwk, hass, tab, mdeg, mrot, marr, mdep) else (f_X5_isConnected N mlen buf).bind fun u17 => (if u17 = 0 then some ((-3 : Int32), mlen, mnodes, mlinks, mwk, hass, tab, mdeg, mrot, marr, mdep) else ((iter (b_X5_load_66) N ((0 : Int32), mdeg, mrot, marr, mdep)).bind fun u19 => ((iter (b_X5_load_117 mlen buf) N ((2 : Int32), tab, u19.1)).bind fun u20 => some (((buf 0) - (48 : Int32)), (0 : Int32), ((buf 0) - (48 : Int32)), ((mlen - (1 : Int32)) / (3 : Int32)), (0 : Int32), (0 : Int32), u20.1, u20.2, u19.2.1, u19.2.2.1, u19.2.2.2))))) else some ((-3 : Int32), mlen, mnodes, mlinks, mwk, hass, tab, mdeg, mrot, marr, mdep)))
def f_X5_isNode (mnodes : Int32) (p1 : Int32) : Option (Int32) :=
  (f_X5_within p1 (0 : Int32) (mnodes - (1 : Int32))).bind fun u1 => grd (z01 u1 = true) <| some u1
def f_X5_degree (mnodes : Int32) (mdeg : Nat → Int32) (p1 : Int32) : Option (Int32) :=
  (f_X5_isNode mnodes p1).bind fun u1 => (if u1 = 0 then some (-4 : Int32) else grd (inB p1 8 = true) <| some (mdeg p1.toNatClampNeg))
def f_X5_errorOf (mnodes : Int32) (mdeg : Nat → Int32) (p1 : Int32) (p2 : Int32) : Option (Int32) :=
  (f_X5_isNode mnodes p1).bind fun u1 => (if u1 = 0 then some (-4 : Int32) else grd (inB p1 8 = true) <| (f_X5_within p2 (0 : Int32) ((mdeg p1.toNatClampNeg) - (1 : Int32))).bind fun u4 => (if u4 = 0 then some (-6 : Int32) else some (0 : Int32)))
def f_X5_neighbor (mnodes : Int32) (tab : Nat → Int32) (mdeg : Nat → Int32) (p1 : Int32) (p2 : Int32) : Option (Int32) :=
  (f_X5_errorOf mnodes mdeg p1 p2).bind fun u1 => (if 0 ≤ u1 then grd (inB (((8 : Int32) * p1) + p2) 64 = true) <| some (tab (((8 : Int32) * p1) + p2).toNatClampNeg) else some u1)
def f_X5_rotor (mnodes : Int32) (mrot : Nat → Int32) (p1 : Int32) : Option (Int32) :=
  (f_X5_isNode mnodes p1).bind fun u1 => (if u1 = 0 then some (-4 : Int32) else grd (inB p1 8 = true) <| some (mrot p1.toNatClampNeg))
def f_X5_setRotor (mnodes : Int32) (mdeg : Nat → Int32) (mrot : Nat → Int32) (p1 : Int32) (p2 : Int32) : Option (Int32 × (Nat → Int32)) :=
  (f_X5_errorOf mnodes mdeg p1 p2).bind fun u1 => (if 0 ≤ u1 then grd (inB p1 8 = true) <| grd (inB p1 8 = true) <| some ((mrot p1.toNatClampNeg), (upd mrot p1.toNatClampNeg p2)) else some (u1, mrot))
def f_X5_isWalker (mwk : Int32) (p1 : Int32) : Option (Int32) :=
  (f_X5_within p1 (0 : Int32) (mwk - (1 : Int32))).bind fun u1 => grd (z01 u1 = true) <| some u1
def f_X5_addWalker (mnodes : Int32) (mwk : Int32) (plc : Nat → Int32) (p1 : Int32) : Option (Int32 × Int32 × (Nat → Int32)) :=
  (f_X5_isNode mnodes p1).bind fun u1 => (if u1 = 0 then some ((-4 : Int32), mwk, plc) else (if mwk = (4 : Int32) then some ((-7 : Int32), mwk, plc) else grd (inB mwk 4 = true) <| some (((mwk + (1 : Int32)) - (1 : Int32)), (mwk + (1 : Int32)), (upd plc mwk.toNatClampNeg p1))))
def f_X5_position (mwk : Int32) (plc : Nat → Int32) (p1 : Int32) : Option (Int32) :=
  (f_X5_isWalker mwk p1).bind fun u1 => (if u1 = 0 then some (-5 : Int32) else grd (inB p1 4 = true) <| some (plc p1.toNatClampNeg))
def f_X5_go (tab : Nat → Int32) (mdeg : Nat → Int32) (src : Nat → Int32) (p1 : Int32) : Option (Int32 × (Nat → Int32)) :=
  grd (inB p1 8 = true) <| grd (inB (((8 : Int32) * p1) + (src p1.toNatClampNeg)) 64 = true) <| grd (inB p1 8 = true) <| grd (inB p1 8 = true) <| grd (¬ (mdeg p1.toNatClampNeg) = 0) <| grd (inB p1 8 = true) <| some ((tab (((8 : Int32) * p1) + (src p1.toNatClampNeg)).toNatClampNeg), (upd src p1.toNatClampNeg (((src p1.toNatClampNeg) + (1 : Int32)) - ((src p1.toNatClampNeg) + (1 : Int32)) / (mdeg p1.toNatClampNeg) * (mdeg p1.toNatClampNeg))))
def f_X5_stepOnce (tab : Nat → Int32) (mdeg : Nat → Int32) (mrot : Nat → Int32) (plc : Nat → Int32) (marr : Nat → Int32) (mdep : Nat → Int32) (p1 : Int32) : Option ((Nat → Int32) × (Nat → Int32) × (Nat → Int32) × (Nat → Int32)) :=
  grd (inB p1 4 = true) <| grd (inB (plc p1.toNatClampNeg) 8 = true) <| grd (inB (((8 : Int32) * (plc p1.toNatClampNeg)) + (mrot (plc p1.toNatClampNeg).toNatClampNeg)) 64 = true) <| grd (inB (((8 : Int32) * (plc p1.toNatClampNeg)) + (mrot (plc p1.toNatClampNeg).toNatClampNeg)) 64 = true) <| (f_X5_go tab mdeg mrot (plc p1.toNatClampNeg)).bind fun u5 => grd (inB p1 4 = true) <| grd (inB p1 4 = true) <| grd (inB ((upd plc p1.toNatClampNeg u5.1) p1.toNatClampNeg) 8 = true) <| grd (inB ((upd plc p1.toNatClampNeg u5.1) p1.toNatClampNeg) 8 = true) <| some (u5.2, (upd plc p1.toNatClampNeg u5.1), (upd marr ((upd plc p1.toNatClampNeg u5.1) p1.toNatClampNeg).toNatClampNeg ((marr ((upd plc p1.toNatClampNeg u5.1) p1.toNatClampNeg).toNatClampNeg) + (1 : Int32))), (upd mdep (((8 : Int32) * (plc p1.toNatClampNeg)) + (mrot (plc p1.toNatClampNeg).toNatClampNeg)).toNatClampNeg ((mdep (((8 : Int32) * (plc p1.toNatClampNeg)) + (mrot (plc p1.toNatClampNeg).toNatClampNeg)).toNatClampNeg) + (1 : Int32))))
def b_X5_step_27 (tab : Nat → Int32) (mdeg : Nat → Int32) (p1 : Int32) (p2 : Int32) (st : Int32 × (Nat → Int32) × (Nat → Int32) × (Nat → Int32) × (Nat → Int32)) : Option ((Int32 × (Nat → Int32) × (Nat → Int32) × (Nat → Int32) × (Nat → Int32)) ⊕ ((Nat → Int32) × (Nat → Int32) × (Nat → Int32) × (Nat → Int32))) :=
  (if p2 ≤ st.1 then some (.inr (st.2.1, st.2.2.1, st.2.2.2.1, st.2.2.2.2)) else (f_X5_stepOnce tab mdeg st.2.1 st.2.2.1 st.2.2.2.1 st.2.2.2.2 p1).bind fun u2 => some (.inl ((st.1 + 1), u2.1, u2.2.1, u2.2.2.1, u2.2.2.2)))
def f_X5_step (N : Nat) (mwk : Int32) (tab : Nat → Int32) (mdeg : Nat → Int32) (mrot : Nat → Int32) (plc : Nat → Int32) (marr : Nat → Int32) (mdep : Nat → Int32) (p1 : Int32) (p2 : Int32) : Option (Int32 × (Nat → Int32) × (Nat → Int32) × (Nat → Int32) × (Nat → Int32)) :=
  (f_X5_isWalker mwk p1).bind fun u3 => (if u3 = 0 then some ((-5 : Int32), mrot, plc, marr, mdep) else (f_X5_within p2 (1 : Int32) (1000 : Int32)).bind fun u5 => (if u5 = 0 then some ((-6 : Int32), mrot, plc, marr, mdep) else ((iter (b_X5_step_27 tab mdeg p1 p2) N ((0 : Int32), mrot, plc, marr, mdep)).bind fun u7 => grd (inB p1 4 = true) <| some ((u7.2.1 p1.toNatClampNeg), u7.1, u7.2.1, u7.2.2.1, u7.2.2.2))))
def b_X5_pass_4 (mwk : Int32) (tab : Nat → Int32) (mdeg : Nat → Int32) (p1 : Int32) (st : Int32 × Int32 × (Nat → Int32) × (Nat → Int32) × (Nat → Int32) × (Nat → Int32)) : Option ((Int32 × Int32 × (Nat → Int32) × (Nat → Int32) × (Nat → Int32) × (Nat → Int32)) ⊕ (Int32 × (Nat → Int32) × (Nat → Int32) × (Nat → Int32) × (Nat → Int32))) :=
  (if mwk ≤ st.2.1 then some (.inr (st.1, st.2.2.1, st.2.2.2.1, st.2.2.2.2.1, st.2.2.2.2.2)) else grd (inB st.2.1 4 = true) <| (if (st.2.2.2.1 st.2.1.toNatClampNeg) = p1 then some (.inl (st.1, (st.2.1 + 1), st.2.2.1, st.2.2.2.1, st.2.2.2.2.1, st.2.2.2.2.2)) else (f_X5_stepOnce tab mdeg st.2.2.1 st.2.2.2.1 st.2.2.2.2.1 st.2.2.2.2.2 st.2.1).bind fun u4 => some (.inl ((st.1 + 1), (st.2.1 + 1), u4.1, u4.2.1, u4.2.2.1, u4.2.2.2))))
def f_X5_pass (N : Nat) (mwk : Int32) (tab : Nat → Int32) (mdeg : Nat → Int32) (mrot : Nat → Int32) (plc : Nat → Int32) (marr : Nat → Int32) (mdep : Nat → Int32) (p1 : Int32) : Option (Int32 × (Nat → Int32) × (Nat → Int32) × (Nat → Int32) × (Nat → Int32)) :=
  ((iter (b_X5_pass_4 mwk tab mdeg p1) N ((0 : Int32), (0 : Int32), mrot, plc, marr, mdep)).bind fun u5 => some (u5.1, u5.2.1, u5.2.2.1, u5.2.2.2.1, u5.2.2.2.2))
def b_X5_absorb_29 (tab : Nat → Int32) (mdeg : Nat → Int32) (p1 : Int32) (p4 : Int32) (st : Int32 × (Nat → Int32) × (Nat → Int32) × (Nat → Int32) × (Nat → Int32)) : Option ((Int32 × (Nat → Int32) × (Nat → Int32) × (Nat → Int32) × (Nat → Int32)) ⊕ (Int32 × (Nat → Int32) × (Nat → Int32) × (Nat → Int32) × (Nat → Int32))) :=
  grd (inB p4 4 = true) <| (if (st.2.2.1 p4.toNatClampNeg) = p1 then some (.inr (st.1, st.2.1, st.2.2.1, st.2.2.2.1, st.2.2.2.2)) else (f_X5_stepOnce tab mdeg st.2.1 st.2.2.1 st.2.2.2.1 st.2.2.2.2 p4).bind fun u3 => some (.inl ((st.1 + 1), u3.1, u3.2.1, u3.2.2.1, u3.2.2.2)))
def b_X5_absorb_65 (N : Nat) (mwk : Int32) (tab : Nat → Int32) (mdeg : Nat → Int32) (p1 : Int32) (st : Int32 × Int32 × (Nat → Int32) × (Nat → Int32) × (Nat → Int32) × (Nat → Int32)) : Option ((Int32 × Int32 × (Nat → Int32) × (Nat → Int32) × (Nat → Int32) × (Nat → Int32)) ⊕ (Int32 × (Nat → Int32) × (Nat → Int32) × (Nat → Int32) × (Nat → Int32))) :=
  (if st.2.1 ≤ 0 then some (.inr (st.1, st.2.2.1, st.2.2.2.1, st.2.2.2.2.1, st.2.2.2.2.2)) else (f_X5_pass N mwk tab mdeg st.2.2.1 st.2.2.2.1 st.2.2.2.2.1 st.2.2.2.2.2 p1).bind fun u5 => some (.inl ((st.1 + st.2.1), u5.1, u5.2.1, u5.2.2.1, u5.2.2.2.1, u5.2.2.2.2)))
def b_X5_absorb_16 (N : Nat) (mwk : Int32) (tab : Nat → Int32) (mdeg : Nat → Int32) (p1 : Int32) (p2 : Int32) (st : Int32 × Int32 × (Nat → Int32) × (Nat → Int32) × (Nat → Int32) × (Nat → Int32)) : Option ((Int32 × Int32 × (Nat → Int32) × (Nat → Int32) × (Nat → Int32) × (Nat → Int32)) ⊕ (Int32 × (Nat → Int32) × (Nat → Int32) × (Nat → Int32) × (Nat → Int32))) :=
  (if mwk ≤ st.2.1 then some (.inr (st.1, st.2.2.1, st.2.2.2.1, st.2.2.2.2.1, st.2.2.2.2.2)) else (if p2 = 0 then ((iter (b_X5_absorb_29 tab mdeg p1 st.2.1) N (st.1, st.2.2.1, st.2.2.2.1, st.2.2.2.2.1, st.2.2.2.2.2)).bind fun u8 => some (.inl (u8.1, (st.2.1 + 1), u8.2.1, u8.2.2.1, u8.2.2.2.1, u8.2.2.2.2))) else some (.inr (st.1, st.2.2.1, st.2.2.2.1, st.2.2.2.2.1, st.2.2.2.2.2))))
def f_X5_absorb (N : Nat) (mnodes : Int32) (mwk : Int32) (tab : Nat → Int32) (mdeg : Nat → Int32) (mrot : Nat → Int32) (plc : Nat → Int32) (marr : Nat → Int32) (mdep : Nat → Int32) (p1 : Int32) (p2 : Int32) : Option (Int32 × (Nat → Int32) × (Nat → Int32) × (Nat → Int32) × (Nat → Int32)) :=
  (f_X5_isNode mnodes p1).bind fun u9 => (if u9 = 0 then some ((-4 : Int32), mrot, plc, marr, mdep) else ((iter (b_X5_absorb_16 N mwk tab mdeg p1 p2) N ((0 : Int32), (0 : Int32), mrot, plc, marr, mdep)).bind fun u11 => (f_X5_pass N mwk tab mdeg u11.2.1 u11.2.2.1 u11.2.2.2.1 u11.2.2.2.2 p1).bind fun u12 => ((iter (b_X5_absorb_65 N mwk tab mdeg p1) N (u11.1, u12.1, u12.2.1, u12.2.2.1, u12.2.2.2.1, u12.2.2.2.2)).bind fun u13 => some (u13.1, u13.2.1, u13.2.2.1, u13.2.2.2.1, u13.2.2.2.2))))
def f_X5_arrivals (mnodes : Int32) (marr : Nat → Int32) (p1 : Int32) : Option (Int32) :=
  (f_X5_isNode mnodes p1).bind fun u1 => (if u1 = 0 then some (-4 : Int32) else grd (inB p1 8 = true) <| some (marr p1.toNatClampNeg))
def f_X5_departures (mnodes : Int32) (mdeg : Nat → Int32) (mdep : Nat → Int32) (p1 : Int32) (p2 : Int32) : Option (Int32) :=
  (f_X5_errorOf mnodes mdeg p1 p2).bind fun u1 => (if 0 ≤ u1 then grd (inB (((8 : Int32) * p1) + p2) 64 = true) <| some (mdep (((8 : Int32) * p1) + p2).toNatClampNeg) else some u1)
def b_X5_copyRotors_2 (src : Nat → Int32) (st : Int32 × (Nat → Int32)) : Option ((Int32 × (Nat → Int32)) ⊕ ((Nat → Int32))) :=
  (if (8 : Int32) ≤ st.1 then some (.inr st.2) else grd (inB st.1 8 = true) <| grd (inB st.1 8 = true) <| some (.inl ((st.1 + 1), (upd st.2 st.1.toNatClampNeg (src st.1.toNatClampNeg)))))
def f_X5_copyRotors (N : Nat) (src : Nat → Int32) (dst : Nat → Int32) : Option ((Nat → Int32)) :=
  ((iter (b_X5_copyRotors_2 src) N ((0 : Int32), dst)).bind fun u4 => some u4)
def b_X5_areEqual_4 (mnodes : Int32) (fsr : Nat → Int32) (snr : Nat → Int32) (st : Int32 × Int32) : Option ((Int32 × Int32) ⊕ (Int32)) :=
  (if mnodes ≤ st.2 then some (.inr st.1) else (if st.1 = 0 then some (.inl ((0 : Int32), (st.2 + 1))) else grd (inB st.2 8 = true) <| grd (inB st.2 8 = true) <| (if (fsr st.2.toNatClampNeg) = (snr st.2.toNatClampNeg) then some (.inl ((1 : Int32), (st.2 + 1))) else some (.inl ((0 : Int32), (st.2 + 1))))))
def f_X5_areEqual (N : Nat) (mnodes : Int32) (fsr : Nat → Int32) (snr : Nat → Int32) : Option (Int32) :=
  ((iter (b_X5_areEqual_4 mnodes fsr snr) N ((1 : Int32), (0 : Int32))).bind fun u6 => grd (z01 u6 = true) <| some u6)
def b_X5_cycleOf_36 (mlinks : Int32) (tab : Nat → Int32) (mdeg : Nat → Int32) (st : Int32 × Int32 × (Nat → Int32)) : Option ((Int32 × Int32 × (Nat → Int32)) ⊕ (Int32 × (Nat → Int32))) :=
  (if ((2 : Int32) * mlinks) ≤ st.2.1 then some (.inr (st.1, st.2.2)) else (f_X5_go tab mdeg st.2.2 st.1).bind fun u2 => some (.inl (u2.1, (st.2.1 + 1), u2.2)))
def b_X5_cycleOf_66 (N : Nat) (mnodes : Int32) (tab : Nat → Int32) (mdeg : Nat → Int32) (st : Int32 × Int32 × Int32 × (Nat → Int32) × (Nat → Int32)) : Option ((Int32 × Int32 × Int32 × (Nat → Int32) × (Nat → Int32)) ⊕ (Int32 × (Nat → Int32) × (Nat → Int32))) :=
  (if st.1 = st.2.1 then (f_X5_areEqual N mnodes st.2.2.2.1 st.2.2.2.2).bind fun u6 => (if u6 = 0 then (f_X5_go tab mdeg st.2.2.2.1 st.1).bind fun u8 => (f_X5_go tab mdeg st.2.2.2.2 st.2.1).bind fun u9 => some (.inl (u8.1, u9.1, (st.2.2.1 + 1), u8.2, u9.2)) else some (.inr (st.2.2.1, st.2.2.2.1, st.2.2.2.2))) else (f_X5_go tab mdeg st.2.2.2.1 st.1).bind fun u4 => (f_X5_go tab mdeg st.2.2.2.2 st.2.1).bind fun u5 => some (.inl (u4.1, u5.1, (st.2.2.1 + 1), u4.2, u5.2)))
def f_X5_cycleOf (N : Nat) (mnodes : Int32) (mlinks : Int32) (tab : Nat → Int32) (mdeg : Nat → Int32) (mrot : Nat → Int32) (plc : Nat → Int32) (fsr : Nat → Int32) (snr : Nat → Int32) (p1 : Int32) : Option (Int32 × (Nat → Int32) × (Nat → Int32)) :=
  (f_X5_copyRotors N mrot fsr).bind fun u10 => (f_X5_copyRotors N mrot snr).bind fun u11 => grd (inB p1 4 = true) <| ((iter (b_X5_cycleOf_36 mlinks tab mdeg) N ((plc p1.toNatClampNeg), (0 : Int32), u11)).bind fun u13 => ((iter (b_X5_cycleOf_66 N mnodes tab mdeg) N ((plc p1.toNatClampNeg), u13.1, (0 : Int32), u10, u13.2)).bind fun u14 => some (u14.1, u14.2.1, u14.2.2)))
def f_X5_stepsToCycle (N : Nat) (mnodes : Int32) (mlinks : Int32) (mwk : Int32) (tab : Nat → Int32) (mdeg : Nat → Int32) (mrot : Nat → Int32) (plc : Nat → Int32) (fsr : Nat → Int32) (snr : Nat → Int32) (p1 : Int32) : Option (Int32 × (Nat → Int32) × (Nat → Int32)) :=
  (f_X5_isWalker mwk p1).bind fun u1 => (if u1 = 0 then some ((-5 : Int32), fsr, snr) else (f_X5_cycleOf N mnodes mlinks tab mdeg mrot plc fsr snr p1).bind fun u3 => some (u3.1, u3.2.1, u3.2.2))
def b_X5_coverFrom_9 (mnodes : Int32) (tab : Nat → Int32) (mdeg : Nat → Int32) (st : Int32 × Int32 × Int32 × (Nat → Int32)) : Option ((Int32 × Int32 × Int32 × (Nat → Int32)) ⊕ (Int32 × (Nat → Int32))) :=
  (if st.2.1 = (((1 : Int32) <<< (mnodes &&& 31)) - (1 : Int32)) then some (.inr (st.2.2.1, st.2.2.2)) else (f_X5_go tab mdeg st.2.2.2 st.1).bind fun u2 => some (.inl (u2.1, (st.2.1 ||| ((1 : Int32) <<< (u2.1 &&& 31))), (st.2.2.1 + 1), u2.2)))
def f_X5_coverFrom (N : Nat) (mnodes : Int32) (tab : Nat → Int32) (mdeg : Nat → Int32) (fsr : Nat → Int32) (p1 : Int32) : Option (Int32 × (Nat → Int32)) :=
  ((iter (b_X5_coverFrom_9 mnodes tab mdeg) N (p1, ((1 : Int32) <<< (p1 &&& 31)), (0 : Int32), fsr)).bind fun u3 => some (u3.1, u3.2))
def f_X5_coverOf (N : Nat) (mnodes : Int32) (tab : Nat → Int32) (mdeg : Nat → Int32) (mrot : Nat → Int32) (plc : Nat → Int32) (fsr : Nat → Int32) (p1 : Int32) : Option (Int32 × (Nat → Int32)) :=
  (f_X5_copyRotors N mrot fsr).bind fun u1 => grd (inB p1 4 = true) <| (f_X5_coverFrom N mnodes tab mdeg u1 (plc p1.toNatClampNeg)).bind fun u3 => some (u3.1, u3.2)
def f_X5_coverTime (N : Nat) (mnodes : Int32) (mwk : Int32) (tab : Nat → Int32) (mdeg : Nat → Int32) (mrot : Nat → Int32) (plc : Nat → Int32) (fsr : Nat → Int32) (p1 : Int32) : Option (Int32 × (Nat → Int32)) :=
  (f_X5_isWalker mwk p1).bind fun u1 => (if u1 = 0 then some ((-5 : Int32), fsr) else (f_X5_coverOf N mnodes tab mdeg mrot plc fsr p1).bind fun u3 => some (u3.1, u3.2))
def b_X5_assignments_4 (mnodes : Int32) (mdeg : Nat → Int32) (st : Int32 × Int32) : Option ((Int32 × Int32) ⊕ (Int32)) :=
  (if mnodes ≤ st.2 then some (.inr st.1) else grd (inB st.2 8 = true) <| (if (mdeg st.2.toNatClampNeg) = 0 then some (.inl ((st.1 * (1 : Int32)), (st.2 + 1))) else grd (inB st.2 8 = true) <| some (.inl ((st.1 * (mdeg st.2.toNatClampNeg)), (st.2 + 1)))))
def f_X5_assignments (N : Nat) (mnodes : Int32) (mdeg : Nat → Int32) : Option (Int32) :=
  ((iter (b_X5_assignments_4 mnodes mdeg) N ((1 : Int32), (0 : Int32))).bind fun u5 => some u5)
def b_X5_layAssignment_9 (mdeg : Nat → Int32) (st : Int32 × Int32 × (Nat → Int32)) : Option ((Int32 × Int32 × (Nat → Int32)) ⊕ ((Nat → Int32))) :=
  (if st.2.1 < 0 then some (.inr st.2.2) else grd (inB st.2.1 8 = true) <| grd (¬ (mdeg st.2.1.toNatClampNeg) = 0) <| grd (inB st.2.1 8 = true) <| grd (inB st.2.1 8 = true) <| grd (¬ (mdeg st.2.1.toNatClampNeg) = 0) <| some (.inl ((st.1 / (mdeg st.2.1.toNatClampNeg)), (st.2.1 + (-1)), (upd st.2.2 st.2.1.toNatClampNeg (st.1 - st.1 / (mdeg st.2.1.toNatClampNeg) * (mdeg st.2.1.toNatClampNeg))))))
def f_X5_layAssignment (N : Nat) (mnodes : Int32) (mdeg : Nat → Int32) (fsr : Nat → Int32) (p1 : Int32) : Option ((Nat → Int32)) :=
  ((iter (b_X5_layAssignment_9 mdeg) N (p1, (mnodes - (1 : Int32)), fsr)).bind fun u7 => some u7)
def b_X5_leastFrom_11 (N : Nat) (mnodes : Int32) (tab : Nat → Int32) (mdeg : Nat → Int32) (p1 : Int32) (p2 : Int32) (st : Int32 × Int32 × Int32 × (Nat → Int32)) : Option ((Int32 × Int32 × Int32 × (Nat → Int32)) ⊕ (Int32 × Int32 × (Nat → Int32))) :=
  (if p2 ≤ st.2.1 then some (.inr (st.1, st.2.2.1, st.2.2.2)) else (f_X5_layAssignment N mnodes mdeg st.2.2.2 st.2.1).bind fun u2 => (f_X5_coverFrom N mnodes tab mdeg u2 p1).bind fun u3 => (if st.1 ≤ u3.1 then (if st.1 ≤ u3.1 then some (.inl (st.1, (st.2.1 + 1), st.2.2.1, u3.2)) else some (.inl (u3.1, (st.2.1 + 1), st.2.2.1, u3.2))) else (if st.1 ≤ u3.1 then some (.inl (st.1, (st.2.1 + 1), st.2.1, u3.2)) else some (.inl (u3.1, (st.2.1 + 1), st.2.1, u3.2)))))
def f_X5_leastFrom (N : Nat) (mnodes : Int32) (bcode : Int32) (tab : Nat → Int32) (mdeg : Nat → Int32) (fsr : Nat → Int32) (p1 : Int32) : Option (Int32 × Int32 × (Nat → Int32)) :=
  (f_X5_assignments N mnodes mdeg).bind fun u7 => ((iter (b_X5_leastFrom_11 N mnodes tab mdeg p1 u7) N ((1073741824 : Int32), (0 : Int32), bcode, fsr)).bind fun u8 => some (u8.1, u8.2.1, u8.2.2))
def f_X5_leastCoverTime (N : Nat) (mnodes : Int32) (bcode : Int32) (tab : Nat → Int32) (mdeg : Nat → Int32) (fsr : Nat → Int32) (p1 : Int32) : Option (Int32 × Int32 × (Nat → Int32)) :=
  (f_X5_isNode mnodes p1).bind fun u1 => (if u1 = 0 then some ((-4 : Int32), bcode, fsr) else (f_X5_assignments N mnodes mdeg).bind fun u3 => (if u3 ≤ (2000 : Int32) then (f_X5_leastFrom N mnodes bcode tab mdeg fsr p1).bind fun u5 => some (u5.1, u5.2.1, u5.2.2) else some ((-8 : Int32), bcode, fsr)))
def f_X5_bestRotor (N : Nat) (mnodes : Int32) (bcode : Int32) (tab : Nat → Int32) (mdeg : Nat → Int32) (fsr : Nat → Int32) (p1 : Int32) (p2 : Int32) : Option (Int32 × Int32 × (Nat → Int32)) :=
  (f_X5_isNode mnodes p1).bind fun u1 => (if u1 = 0 then some ((-4 : Int32), bcode, fsr) else (f_X5_isNode mnodes p2).bind fun u3 => (if u3 = 0 then some ((-4 : Int32), bcode, fsr) else (f_X5_assignments N mnodes mdeg).bind fun u5 => (if u5 ≤ (2000 : Int32) then (f_X5_leastFrom N mnodes bcode tab mdeg fsr p1).bind fun u7 => (f_X5_layAssignment N mnodes mdeg u7.2.2 u7.2.1).bind fun u8 => grd (inB p2 8 = true) <| some ((u8 p2.toNatClampNeg), u7.2.1, u8) else some ((-8 : Int32), bcode, fsr))))
def b_X5_spread_2  (st : Int32 × (Nat → UInt64)) : Option ((Int32 × (Nat → UInt64)) ⊕ ((Nat → UInt64))) :=
  (if (8 : Int32) ≤ st.1 then some (.inr st.2) else grd (inB st.1 8 = true) <| some (.inl ((st.1 + 1), (vf_upd st.2 st.1.toNatClampNeg FP.dconst0))))
def b_X5_spread_90 (aft : Nat → UInt64) (st : Int32 × (Nat → UInt64)) : Option ((Int32 × (Nat → UInt64)) ⊕ ((Nat → UInt64))) :=
  (if (8 : Int32) ≤ st.1 then some (.inr st.2) else grd (inB st.1 8 = true) <| grd (inB st.1 8 = true) <| some (.inl ((st.1 + 1), (vf_upd st.2 st.1.toNatClampNeg (aft st.1.toNatClampNeg)))))
def b_X5_spread_33 (tab : Nat → Int32) (mdeg : Nat → Int32) (chn : Nat → UInt64) (p1 : Int32) (st : Int32 × (Nat → UInt64)) : Option ((Int32 × (Nat → UInt64)) ⊕ ((Nat → UInt64))) :=
  grd (inB p1 8 = true) <| (if (mdeg p1.toNatClampNeg) ≤ st.1 then some (.inr st.2) else grd (inB (((8 : Int32) * p1) + st.1) 64 = true) <| grd (inB (tab (((8 : Int32) * p1) + st.1).toNatClampNeg) 8 = true) <| grd (inB p1 8 = true) <| grd (inB p1 8 = true) <| grd (nnB (FP.ddiv (chn p1.toNatClampNeg) (FP.i2d (mdeg p1.toNatClampNeg))) = true) <| grd (nnB (FP.dadd (st.2 (tab (((8 : Int32) * p1) + st.1).toNatClampNeg).toNatClampNeg) (FP.ddiv (chn p1.toNatClampNeg) (FP.i2d (mdeg p1.toNatClampNeg)))) = true) <| grd (inB (tab (((8 : Int32) * p1) + st.1).toNatClampNeg) 8 = true) <| some (.inl ((st.1 + 1), (vf_upd st.2 (tab (((8 : Int32) * p1) + st.1).toNatClampNeg).toNatClampNeg (FP.dadd (st.2 (tab (((8 : Int32) * p1) + st.1).toNatClampNeg).toNatClampNeg) (FP.ddiv (chn p1.toNatClampNeg) (FP.i2d (mdeg p1.toNatClampNeg))))))))
def b_X5_spread_23 (N : Nat) (mnodes : Int32) (tab : Nat → Int32) (mdeg : Nat → Int32) (chn : Nat → UInt64) (st : Int32 × (Nat → UInt64)) : Option ((Int32 × (Nat → UInt64)) ⊕ ((Nat → UInt64))) :=
  (if mnodes ≤ st.1 then some (.inr st.2) else ((iter (b_X5_spread_33 tab mdeg chn st.1) N ((0 : Int32), st.2)).bind fun u16 => some (.inl ((st.1 + 1), u16))))
def f_X5_spread (N : Nat) (mnodes : Int32) (tab : Nat → Int32) (mdeg : Nat → Int32) (chn : Nat → UInt64) (aft : Nat → UInt64) : Option ((Nat → UInt64) × (Nat → UInt64)) :=
  ((iter (b_X5_spread_2) N ((0 : Int32), aft)).bind fun u17 => ((iter (b_X5_spread_23 N mnodes tab mdeg chn) N ((0 : Int32), u17)).bind fun u18 => ((iter (b_X5_spread_90 u18) N ((0 : Int32), chn)).bind fun u19 => some (u19, u18))))
def f_Jxe99ae_isNaN_b9ae7 (p0 : UInt64) : Option (Int32) :=
  (if (Op.cmpValue (FP.dcmp p0 p0) .l) = 0 then some (0 : Int32) else some (1 : Int32))
def f_Jxe99ae_doubleToLongBits_ccdee (p0 : UInt64) : Option (Int64) :=
  (f_Jxe99ae_isNaN_b9ae7 p0).bind fun u1 => (if u1 = 0 then some p0.toInt64 else some (9221120237041090560 : Int64))
def b_X5_expected_40 (N : Nat) (mnodes : Int32) (tab : Nat → Int32) (mdeg : Nat → Int32) (p2 : Int32) (p3 : Int32) (st : UInt64 × Int32 × (Nat → UInt64) × (Nat → UInt64)) : Option ((UInt64 × Int32 × (Nat → UInt64) × (Nat → UInt64)) ⊕ (UInt64 × (Nat → UInt64) × (Nat → UInt64))) :=
  (if p2 ≤ st.2.1 then some (.inr (st.1, st.2.2.1, st.2.2.2)) else (f_X5_spread N mnodes tab mdeg st.2.2.1 st.2.2.2).bind fun u2 => grd (inB p3 8 = true) <| grd (nnB (FP.dadd st.1 (u2.1 p3.toNatClampNeg)) = true) <| some (.inl ((FP.dadd st.1 (u2.1 p3.toNatClampNeg)), (st.2.1 + 1), u2.1, u2.2)))
def b_X5_expected_3 (p1 : Int32) (st : Int32 × (Nat → UInt64)) : Option ((Int32 × (Nat → UInt64)) ⊕ ((Nat → UInt64))) :=
  (if (8 : Int32) ≤ st.1 then some (.inr st.2) else (if st.1 = p1 then grd (inB st.1 8 = true) <| some (.inl ((st.1 + 1), (vf_upd st.2 st.1.toNatClampNeg FP.dconst1))) else grd (inB st.1 8 = true) <| some (.inl ((st.1 + 1), (vf_upd st.2 st.1.toNatClampNeg FP.dconst0)))))
def f_X5_expected (N : Nat) (mnodes : Int32) (tab : Nat → Int32) (mdeg : Nat → Int32) (chn : Nat → UInt64) (aft : Nat → UInt64) (p1 : Int32) (p2 : Int32) (p3 : Int32) : Option (Int64 × (Nat → UInt64) × (Nat → UInt64)) :=
  ((iter (b_X5_expected_3 p1) N ((0 : Int32), chn)).bind fun u9 => ((iter (b_X5_expected_40 N mnodes tab mdeg p2 p3) N (FP.dconst0, (0 : Int32), u9, aft)).bind fun u10 => (f_Jxe99ae_doubleToLongBits_ccdee u10.1).bind fun u11 => some (u11, u10.2.1, u10.2.2)))
def f_X5_expectedArrivals (N : Nat) (mnodes : Int32) (tab : Nat → Int32) (mdeg : Nat → Int32) (chn : Nat → UInt64) (aft : Nat → UInt64) (p1 : Int32) (p2 : Int32) (p3 : Int32) : Option (Int64 × (Nat → UInt64) × (Nat → UInt64)) :=
  (f_X5_isNode mnodes p1).bind fun u1 => (if u1 = 0 then some ((-4 : Int64), chn, aft) else (f_X5_isNode mnodes p3).bind fun u3 => (if u3 = 0 then some ((-4 : Int64), chn, aft) else (f_X5_within p2 (0 : Int32) (50 : Int32)).bind fun u5 => (if u5 = 0 then some ((-6 : Int64), chn, aft) else (f_X5_expected N mnodes tab mdeg chn aft p1 p2 p3).bind fun u7 => some (u7.1, u7.2.1, u7.2.2))))
def b_X5_snapshot_49 (plc : Nat → Int32) (st : Int32 × (Nat → Int32)) : Option ((Int32 × (Nat → Int32)) ⊕ ((Nat → Int32))) :=
  (if (4 : Int32) ≤ st.1 then some (.inr st.2) else grd (inB st.1 4 = true) <| grd (inB st.1 4 = true) <| some (.inl ((st.1 + 1), (upd st.2 st.1.toNatClampNeg (plc st.1.toNatClampNeg)))))
def b_X5_snapshot_74 (mdep : Nat → Int32) (st : Int32 × (Nat → Int32)) : Option ((Int32 × (Nat → Int32)) ⊕ ((Nat → Int32))) :=
  (if (64 : Int32) ≤ st.1 then some (.inr st.2) else grd (inB st.1 64 = true) <| grd (inB st.1 64 = true) <| some (.inl ((st.1 + 1), (upd st.2 st.1.toNatClampNeg (mdep st.1.toNatClampNeg)))))
def f_X5_snapshot (N : Nat) (mnodes : Int32) (mwk : Int32) (hass : Int32) (kwk : Int32) (mrot : Nat → Int32) (plc : Nat → Int32) (marr : Nat → Int32) (mdep : Nat → Int32) (krot : Nat → Int32) (kplc : Nat → Int32) (karr : Nat → Int32) (kdep : Nat → Int32) : Option (Int32 × Int32 × Int32 × (Nat → Int32) × (Nat → Int32) × (Nat → Int32) × (Nat → Int32)) :=
  (if mnodes = 0 then some ((-9 : Int32), hass, kwk, krot, kplc, karr, kdep) else (f_X5_copyRotors N mrot krot).bind fun u8 => (f_X5_copyRotors N marr karr).bind fun u9 => ((iter (b_X5_snapshot_49 plc) N ((0 : Int32), kplc)).bind fun u10 => ((iter (b_X5_snapshot_74 mdep) N ((0 : Int32), kdep)).bind fun u11 => some (mwk, (1 : Int32), mwk, u8, u10, u9, u11))))
def b_X5_restore_44 (kplc : Nat → Int32) (st : Int32 × (Nat → Int32)) : Option ((Int32 × (Nat → Int32)) ⊕ ((Nat → Int32))) :=
  (if (4 : Int32) ≤ st.1 then some (.inr st.2) else grd (inB st.1 4 = true) <| grd (inB st.1 4 = true) <| some (.inl ((st.1 + 1), (upd st.2 st.1.toNatClampNeg (kplc st.1.toNatClampNeg)))))
def b_X5_restore_69 (kdep : Nat → Int32) (st : Int32 × (Nat → Int32)) : Option ((Int32 × (Nat → Int32)) ⊕ ((Nat → Int32))) :=
  (if (64 : Int32) ≤ st.1 then some (.inr st.2) else grd (inB st.1 64 = true) <| grd (inB st.1 64 = true) <| some (.inl ((st.1 + 1), (upd st.2 st.1.toNatClampNeg (kdep st.1.toNatClampNeg)))))
def f_X5_restore (N : Nat) (mwk : Int32) (hass : Int32) (kwk : Int32) (mrot : Nat → Int32) (plc : Nat → Int32) (marr : Nat → Int32) (mdep : Nat → Int32) (krot : Nat → Int32) (kplc : Nat → Int32) (karr : Nat → Int32) (kdep : Nat → Int32) : Option (Int32 × Int32 × (Nat → Int32) × (Nat → Int32) × (Nat → Int32) × (Nat → Int32)) :=
  (if hass = 0 then some ((-9 : Int32), mwk, mrot, plc, marr, mdep) else (f_X5_copyRotors N krot mrot).bind fun u8 => (f_X5_copyRotors N karr marr).bind fun u9 => ((iter (b_X5_restore_44 kplc) N ((0 : Int32), plc)).bind fun u10 => ((iter (b_X5_restore_69 kdep) N ((0 : Int32), mdep)).bind fun u11 => some (kwk, kwk, u8, u10, u9, u11))))
def f_X5_walkerCount (mwk : Int32) : Option (Int32) :=
  some mwk
def f_X5_linkCount (mlinks : Int32) : Option (Int32) :=
  some mlinks
def f_X5_mix (hsh : Int64) (p1 : Int64) : Option (Int64) :=
  some (((31 : Int64) * hsh) + p1)
def b_X5_mixNode_35 (tab : Nat → Int32) (mdeg : Nat → Int32) (mdep : Nat → Int32) (p1 : Int32) (st : Int32 × Int64) : Option ((Int32 × Int64) ⊕ (Int64)) :=
  grd (inB p1 8 = true) <| (if (mdeg p1.toNatClampNeg) ≤ st.1 then some (.inr st.2) else grd (inB (((8 : Int32) * p1) + st.1) 64 = true) <| (f_X5_mix st.2 ((tab (((8 : Int32) * p1) + st.1).toNatClampNeg).toInt64)).bind fun u4 => grd (inB (((8 : Int32) * p1) + st.1) 64 = true) <| (f_X5_mix u4 ((mdep (((8 : Int32) * p1) + st.1).toNatClampNeg).toInt64)).bind fun u6 => some (.inl ((st.1 + 1), u6)))
def f_X5_mixNode (N : Nat) (hsh : Int64) (tab : Nat → Int32) (mdeg : Nat → Int32) (mrot : Nat → Int32) (marr : Nat → Int32) (mdep : Nat → Int32) (p1 : Int32) : Option (Int64) :=
  grd (inB p1 8 = true) <| (f_X5_mix hsh ((mdeg p1.toNatClampNeg).toInt64)).bind fun u8 => grd (inB p1 8 = true) <| (f_X5_mix u8 ((mrot p1.toNatClampNeg).toInt64)).bind fun u10 => grd (inB p1 8 = true) <| (f_X5_mix u10 ((marr p1.toNatClampNeg).toInt64)).bind fun u12 => ((iter (b_X5_mixNode_35 tab mdeg mdep p1) N ((0 : Int32), u12)).bind fun u13 => some u13)
def b_X5_digest_27 (N : Nat) (mnodes : Int32) (tab : Nat → Int32) (mdeg : Nat → Int32) (mrot : Nat → Int32) (marr : Nat → Int32) (mdep : Nat → Int32) (st : Int32 × Int64) : Option ((Int32 × Int64) ⊕ (Int64)) :=
  (if mnodes ≤ st.1 then some (.inr st.2) else (f_X5_mixNode N st.2 tab mdeg mrot marr mdep st.1).bind fun u2 => some (.inl ((st.1 + 1), u2)))
def b_X5_digest_159 (mlen : Int32) (buf : Nat → Int32) (st : Int32 × Int64) : Option ((Int32 × Int64) ⊕ (Int64)) :=
  (if mlen ≤ st.1 then some (.inr st.2) else grd (inB st.1 40 = true) <| (f_X5_mix st.2 ((buf st.1.toNatClampNeg).toInt64)).bind fun u5 => some (.inl ((st.1 + 1), u5)))
def b_X5_digest_57 (N : Nat) (mnodes : Int32) (mlinks : Int32) (mwk : Int32) (tab : Nat → Int32) (mdeg : Nat → Int32) (mrot : Nat → Int32) (plc : Nat → Int32) (st : Int32 × Int64 × (Nat → Int32) × (Nat → Int32)) : Option ((Int32 × Int64 × (Nat → Int32) × (Nat → Int32)) ⊕ (Int64 × (Nat → Int32) × (Nat → Int32))) :=
  (if mwk ≤ st.1 then some (.inr (st.2.1, st.2.2.1, st.2.2.2)) else grd (inB st.1 4 = true) <| (f_X5_mix st.2.1 ((plc st.1.toNatClampNeg).toInt64)).bind fun u8 => (f_X5_cycleOf N mnodes mlinks tab mdeg mrot plc st.2.2.1 st.2.2.2 st.1).bind fun u9 => (f_X5_mix u8 u9.1.toInt64).bind fun u10 => (f_X5_coverOf N mnodes tab mdeg mrot plc u9.2.1 st.1).bind fun u11 => (f_X5_mix u10 u11.1.toInt64).bind fun u12 => some (.inl ((st.1 + 1), u12, u11.2, u9.2.2)))
def f_X5_digest (N : Nat) (mlen : Int32) (mnodes : Int32) (mlinks : Int32) (mwk : Int32) (bcode : Int32) (hsh : Int64) (buf : Nat → Int32) (tab : Nat → Int32) (mdeg : Nat → Int32) (mrot : Nat → Int32) (plc : Nat → Int32) (marr : Nat → Int32) (mdep : Nat → Int32) (fsr : Nat → Int32) (snr : Nat → Int32) (chn : Nat → UInt64) (aft : Nat → UInt64) : Option (Int64 × Int32 × Int64 × (Nat → Int32) × (Nat → Int32) × (Nat → UInt64) × (Nat → UInt64)) :=
  (f_X5_mix (1753 : Int64) mnodes.toInt64).bind fun u13 => (f_X5_mix u13 mlinks.toInt64).bind fun u14 => ((iter (b_X5_digest_27 N mnodes tab mdeg mrot marr mdep) N ((0 : Int32), u14)).bind fun u15 => (f_X5_mix u15 mwk.toInt64).bind fun u16 => ((iter (b_X5_digest_57 N mnodes mlinks mwk tab mdeg mrot plc) N ((0 : Int32), u16, fsr, snr)).bind fun u17 => (if mnodes ≤ 0 then (if mnodes ≤ 0 then (f_X5_mix u17.1 mlen.toInt64).bind fun u20 => ((iter (b_X5_digest_159 mlen buf) N ((0 : Int32), u20)).bind fun u21 => some (u21, bcode, u21, u17.2.1, u17.2.2, chn, aft)) else (f_X5_expected N mnodes tab mdeg chn aft (0 : Int32) (7 : Int32) (1 : Int32)).bind fun u22 => (f_X5_mix u17.1 u22.1).bind fun u23 => (f_X5_mix u23 mlen.toInt64).bind fun u24 => ((iter (b_X5_digest_159 mlen buf) N ((0 : Int32), u24)).bind fun u25 => some (u25, bcode, u25, u17.2.1, u17.2.2, u22.2.1, u22.2.2))) else (f_X5_assignments N mnodes mdeg).bind fun u26 => (if (2000 : Int32) < u26 then (if mnodes ≤ 0 then (f_X5_mix u17.1 mlen.toInt64).bind fun u29 => ((iter (b_X5_digest_159 mlen buf) N ((0 : Int32), u29)).bind fun u30 => some (u30, bcode, u30, u17.2.1, u17.2.2, chn, aft)) else (f_X5_expected N mnodes tab mdeg chn aft (0 : Int32) (7 : Int32) (1 : Int32)).bind fun u31 => (f_X5_mix u17.1 u31.1).bind fun u32 => (f_X5_mix u32 mlen.toInt64).bind fun u33 => ((iter (b_X5_digest_159 mlen buf) N ((0 : Int32), u33)).bind fun u34 => some (u34, bcode, u34, u17.2.1, u17.2.2, u31.2.1, u31.2.2))) else (f_X5_leastFrom N mnodes bcode tab mdeg u17.2.1 (0 : Int32)).bind fun u35 => (f_X5_mix u17.1 u35.1.toInt64).bind fun u36 => (if mnodes ≤ 0 then (f_X5_mix u36 mlen.toInt64).bind fun u38 => ((iter (b_X5_digest_159 mlen buf) N ((0 : Int32), u38)).bind fun u39 => some (u39, u35.2.1, u39, u35.2.2, u17.2.2, chn, aft)) else (f_X5_expected N mnodes tab mdeg chn aft (0 : Int32) (7 : Int32) (1 : Int32)).bind fun u40 => (f_X5_mix u36 u40.1).bind fun u41 => (f_X5_mix u41 mlen.toInt64).bind fun u42 => ((iter (b_X5_digest_159 mlen buf) N ((0 : Int32), u42)).bind fun u43 => some (u43, u35.2.1, u43, u35.2.2, u17.2.2, u40.2.1, u40.2.2)))))))
end
section
abbrev w_X0_slot  (cI cD : ClassId)  : va_W := []
set_option maxRecDepth 100000 in
set_option maxHeartbeats 4000000 in
theorem c_X0_slot (l : Launch) (D : va_G) (cI cD : ClassId)   (p0 : Int32) (p1 : Int32) (u : Int32) (h : f_X0_slot p0 p1 = some u) : MetI l yX0_slot wsX0_slot { frames := 0, cells := 0, slots := 0, locals := 0 } D [(cI, .int), (cD, .double)] [.int p0, .int p1] (w_X0_slot cI cD) u (w_X0_slot cI cD) := by
  refine MetI.of (own := RX0) (cc := cX0_slot) (nL := 2) (ret := (some .int)) (by decide) rfl rfl (Nat.le_of_ble_eq_true rfl) rfl ?_
  intro p e s m args below meth c A hA C hr hlk
  unfold f_X0_slot at h
  refine wd_iload_n (j := 1) C 0 dX0_slot_0 rfl rfl rfl ?_
  refine wd_bipush (j := 3) (v := 7) C dX0_slot_1 (by decide) rfl ?_
  refine wd_imul (j := 4) C dX0_slot_3 rfl ?_
  refine wd_iload_n (j := 5) C 1 dX0_slot_4 rfl rfl rfl ?_
  refine wd_iadd (j := 6) C dX0_slot_5 rfl ?_
  obtain rfl := Option.some.inj h
  exact wd_iret C hA hr hlk rfl rfl rfl dX0_slot_6
abbrev w_X1_nodes (x0 x1 : Nat) (cI cD : ClassId) (len : Int32) (codes : Nat → Int32) : va_W := [(x0, .inr (1, [.ref x1, .int len])), (x1, .inl (cI, 40, .inl codes))]
theorem kX1_nodes_1 : Cond.fieldLink "RotorRouter$InputText" 11 "RotorRouter$InputText" "codes" "[I" ∈ wsX1_nodes := List.mem_of_getElem? (i := 1) rfl
theorem inX1_nodes_X1 : ∀ w ∈ wsX10, w ∈ wsX1_nodes := fun _ h => List.mem_cons_of_mem _ (List.mem_append_right _ h)
set_option maxRecDepth 100000 in
set_option maxHeartbeats 4000000 in
theorem c_X1_nodes (l : Launch) (D : va_G) (cI cD : ClassId) (x0 x1 : Nat) (len : Int32) (codes : Nat → Int32)  (u : Int32) (h : f_X1_nodes codes = some u) : MetI l yX1_nodes wsX1_nodes { frames := 0, cells := 0, slots := 0, locals := 0 } D [(cI, .int), (cD, .double)] [.ref x0] (w_X1_nodes x0 x1 cI cD len codes) u (w_X1_nodes x0 x1 cI cD len codes) := by
  refine MetI.of (own := RX1) (cc := cX1_nodes) (nL := 1) (ret := (some .int)) (by decide) rfl rfl (Nat.le_of_ble_eq_true rfl) rfl ?_
  intro p e s m args below meth c A hA C hr hlk
  unfold f_X1_nodes at h
  refine wd_aload_n (j := 1) C 0 dX1_nodes_0 rfl rfl rfl ?_
  refine wd_get (j := 4) (q0 := 0) (f := 0) (ci := 1) (v := .ref x1) C inX1_nodes_X1 kX1_nodes_1 rfl (by decide) rfl rfl dX1_nodes_1 rfl ?_
  refine wd_iconst (j := 5) (v := 0) C dX1_nodes_4 (by decide) rfl ?_
  refine wd_iald (j := 6) (q0 := 1) (t0 := 0) C rfl rfl (inB_in (by decide)) dX1_nodes_5 rfl ?_
  refine wd_bipush (j := 8) (v := 48) C dX1_nodes_6 (by decide) rfl ?_
  refine wd_isub (j := 9) C dX1_nodes_8 rfl ?_
  obtain rfl := Option.some.inj h
  exact wd_iret C hA hr hlk rfl rfl rfl dX1_nodes_9
abbrev w_X1_links (x0 x1 : Nat) (cI cD : ClassId) (len : Int32) : va_W := [(x0, .inr (1, [.ref x1, .int len]))]
theorem kX1_links_1 : Cond.fieldLink "RotorRouter$InputText" 15 "RotorRouter$InputText" "length" "I" ∈ wsX1_links := List.mem_of_getElem? (i := 1) rfl
theorem inX1_links_X1 : ∀ w ∈ wsX10, w ∈ wsX1_links := fun _ h => List.mem_cons_of_mem _ (List.mem_append_right _ h)
set_option maxRecDepth 100000 in
set_option maxHeartbeats 4000000 in
theorem c_X1_links (l : Launch) (D : va_G) (cI cD : ClassId) (x0 x1 : Nat) (len : Int32)  (u : Int32) (h : f_X1_links len = some u) : MetI l yX1_links wsX1_links { frames := 0, cells := 0, slots := 0, locals := 0 } D [(cI, .int), (cD, .double)] [.ref x0] (w_X1_links x0 x1 cI cD len) u (w_X1_links x0 x1 cI cD len) := by
  refine MetI.of (own := RX1) (cc := cX1_links) (nL := 1) (ret := (some .int)) (by decide) rfl rfl (Nat.le_of_ble_eq_true rfl) rfl ?_
  intro p e s m args below meth c A hA C hr hlk
  unfold f_X1_links at h
  refine wd_aload_n (j := 1) C 0 dX1_links_0 rfl rfl rfl ?_
  refine wd_get (j := 4) (q0 := 0) (f := 1) (ci := 1) (v := .int len) C inX1_links_X1 kX1_links_1 rfl (by decide) rfl rfl dX1_links_1 rfl ?_
  refine wd_iconst (j := 5) (v := 1) C dX1_links_4 (by decide) rfl ?_
  refine wd_isub (j := 6) C dX1_links_5 rfl ?_
  refine wd_iconst (j := 7) (v := 3) C dX1_links_6 (by decide) rfl ?_
  refine wd_idiv (j := 8) C dX1_links_7 (by decide) rfl ?_
  obtain rfl := Option.some.inj h
  exact wd_iret C hA hr hlk rfl rfl rfl dX1_links_8
abbrev w_X1_firstNode (x0 x1 : Nat) (cI cD : ClassId) (len : Int32) (codes : Nat → Int32) : va_W := [(x0, .inr (1, [.ref x1, .int len])), (x1, .inl (cI, 40, .inl codes))]
theorem kX1_firstNode_1 : Cond.fieldLink "RotorRouter$InputText" 11 "RotorRouter$InputText" "codes" "[I" ∈ wsX1_firstNode := List.mem_of_getElem? (i := 1) rfl
theorem inX1_firstNode_X1 : ∀ w ∈ wsX10, w ∈ wsX1_firstNode := fun _ h => List.mem_cons_of_mem _ (List.mem_append_right _ h)
set_option maxRecDepth 100000 in
set_option maxHeartbeats 4000000 in
theorem c_X1_firstNode (l : Launch) (D : va_G) (cI cD : ClassId) (x0 x1 : Nat) (len : Int32) (codes : Nat → Int32) (p1 : Int32) (u : Int32) (h : f_X1_firstNode codes p1 = some u) : MetI l yX1_firstNode wsX1_firstNode { frames := 0, cells := 0, slots := 0, locals := 0 } D [(cI, .int), (cD, .double)] [.ref x0, .int p1] (w_X1_firstNode x0 x1 cI cD len codes) u (w_X1_firstNode x0 x1 cI cD len codes) := by
  refine MetI.of (own := RX1) (cc := cX1_firstNode) (nL := 2) (ret := (some .int)) (by decide) rfl rfl (Nat.le_of_ble_eq_true rfl) rfl ?_
  intro p e s m args below meth c A hA C hr hlk
  unfold f_X1_firstNode at h
  refine wd_aload_n (j := 1) C 0 dX1_firstNode_0 rfl rfl rfl ?_
  refine wd_get (j := 4) (q0 := 0) (f := 0) (ci := 1) (v := .ref x1) C inX1_firstNode_X1 kX1_firstNode_1 rfl (by decide) rfl rfl dX1_firstNode_1 rfl ?_
  refine wd_iconst (j := 5) (v := 2) C dX1_firstNode_4 (by decide) rfl ?_
  refine wd_iconst (j := 6) (v := 3) C dX1_firstNode_5 (by decide) rfl ?_
  refine wd_iload_n (j := 7) C 1 dX1_firstNode_6 rfl rfl rfl ?_
  refine wd_imul (j := 8) C dX1_firstNode_7 rfl ?_
  refine wd_iadd (j := 9) C dX1_firstNode_8 rfl ?_
  obtain ⟨g1, h⟩ := grd_some h
  refine wd_iald (j := 10) (q0 := 1) (t0 := 0) C rfl rfl (inB_in g1) dX1_firstNode_9 rfl ?_
  refine wd_bipush (j := 12) (v := 48) C dX1_firstNode_10 (by decide) rfl ?_
  refine wd_isub (j := 13) C dX1_firstNode_12 rfl ?_
  obtain rfl := Option.some.inj h
  exact wd_iret C hA hr hlk rfl rfl rfl dX1_firstNode_13
abbrev w_X1_secondNode (x0 x1 : Nat) (cI cD : ClassId) (len : Int32) (codes : Nat → Int32) : va_W := [(x0, .inr (1, [.ref x1, .int len])), (x1, .inl (cI, 40, .inl codes))]
theorem kX1_secondNode_1 : Cond.fieldLink "RotorRouter$InputText" 11 "RotorRouter$InputText" "codes" "[I" ∈ wsX1_secondNode := List.mem_of_getElem? (i := 1) rfl
theorem inX1_secondNode_X1 : ∀ w ∈ wsX10, w ∈ wsX1_secondNode := fun _ h => List.mem_cons_of_mem _ (List.mem_append_right _ h)
set_option maxRecDepth 100000 in
set_option maxHeartbeats 4000000 in
theorem c_X1_secondNode (l : Launch) (D : va_G) (cI cD : ClassId) (x0 x1 : Nat) (len : Int32) (codes : Nat → Int32) (p1 : Int32) (u : Int32) (h : f_X1_secondNode codes p1 = some u) : MetI l yX1_secondNode wsX1_secondNode { frames := 0, cells := 0, slots := 0, locals := 0 } D [(cI, .int), (cD, .double)] [.ref x0, .int p1] (w_X1_secondNode x0 x1 cI cD len codes) u (w_X1_secondNode x0 x1 cI cD len codes) := by
  refine MetI.of (own := RX1) (cc := cX1_secondNode) (nL := 2) (ret := (some .int)) (by decide) rfl rfl (Nat.le_of_ble_eq_true rfl) rfl ?_
  intro p e s m args below meth c A hA C hr hlk
  unfold f_X1_secondNode at h
  refine wd_aload_n (j := 1) C 0 dX1_secondNode_0 rfl rfl rfl ?_
  refine wd_get (j := 4) (q0 := 0) (f := 0) (ci := 1) (v := .ref x1) C inX1_secondNode_X1 kX1_secondNode_1 rfl (by decide) rfl rfl dX1_secondNode_1 rfl ?_
  refine wd_iconst (j := 5) (v := 2) C dX1_secondNode_4 (by decide) rfl ?_
  refine wd_iconst (j := 6) (v := 3) C dX1_secondNode_5 (by decide) rfl ?_
  refine wd_iload_n (j := 7) C 1 dX1_secondNode_6 rfl rfl rfl ?_
  refine wd_imul (j := 8) C dX1_secondNode_7 rfl ?_
  refine wd_iadd (j := 9) C dX1_secondNode_8 rfl ?_
  refine wd_iconst (j := 10) (v := 1) C dX1_secondNode_9 (by decide) rfl ?_
  refine wd_iadd (j := 11) C dX1_secondNode_10 rfl ?_
  obtain ⟨g1, h⟩ := grd_some h
  refine wd_iald (j := 12) (q0 := 1) (t0 := 0) C rfl rfl (inB_in g1) dX1_secondNode_11 rfl ?_
  refine wd_bipush (j := 14) (v := 48) C dX1_secondNode_12 (by decide) rfl ?_
  refine wd_isub (j := 15) C dX1_secondNode_14 rfl ?_
  obtain rfl := Option.some.inj h
  exact wd_iret C hA hr hlk rfl rfl rfl dX1_secondNode_15
abbrev w_X0_addNeighbor (x0 x1 x2 : Nat) (cI cD : ClassId) (nodes : Int32) (links : Int32) (deg : Nat → Int32) (nbr : Nat → Int32) : va_W := [(x0, .inr (0, [.ref x1, .ref x2, .int nodes, .int links])), (x1, .inl (cI, 8, .inl deg)), (x2, .inl (cI, 56, .inl nbr))]
theorem kX0_addNeighbor_1 : Cond.fieldLink "RotorRouter$Graph" 15 "RotorRouter$Graph" "neighbors" "[I" ∈ wsX0_addNeighbor := List.mem_of_getElem? (i := 1) rfl
theorem kX0_addNeighbor_2 : Cond.fieldLink "RotorRouter$Graph" 9 "RotorRouter$Graph" "degrees" "[I" ∈ wsX0_addNeighbor := List.mem_of_getElem? (i := 2) rfl
theorem inX0_addNeighbor_X0 : ∀ w ∈ wsX00, w ∈ wsX0_addNeighbor := fun _ h => List.mem_cons_of_mem _ (List.mem_append_right _ h)
set_option maxRecDepth 100000 in
set_option maxHeartbeats 4000000 in
theorem c_X0_addNeighbor (l : Launch) (D : va_G) (cI cD : ClassId) (x0 x1 x2 : Nat) (nodes : Int32) (links : Int32) (deg : Nat → Int32) (nbr : Nat → Int32) (p1 : Int32) (p2 : Int32) (u : (Nat → Int32) × (Nat → Int32)) (h : f_X0_addNeighbor deg nbr p1 p2 = some u) : MetV l yX0_addNeighbor wsX0_addNeighbor { frames := 1, cells := 0, slots := 0, locals := 21 } D [(cI, .int), (cD, .double)] [.ref x0, .int p1, .int p2] (w_X0_addNeighbor x0 x1 x2 cI cD nodes links deg nbr) (w_X0_addNeighbor x0 x1 x2 cI cD nodes links u.1 u.2) := by
  refine MetV.of (own := RX0) (cc := cX0_addNeighbor) (nL := 3) (ret := none) (by decide) rfl rfl (Nat.le_of_ble_eq_true rfl) rfl ?_
  intro p e s m args below meth c A hA C hr hlk
  unfold f_X0_addNeighbor at h
  refine wd_aload_n (j := 1) C 0 dX0_addNeighbor_0 rfl rfl rfl ?_
  refine wd_get (j := 4) (q0 := 0) (f := 1) (ci := 0) (v := .ref x2) C inX0_addNeighbor_X0 kX0_addNeighbor_1 rfl (by decide) rfl rfl dX0_addNeighbor_1 rfl ?_
  refine wd_iload_n (j := 5) C 1 dX0_addNeighbor_4 rfl rfl rfl ?_
  refine wd_aload_n (j := 6) C 0 dX0_addNeighbor_5 rfl rfl rfl ?_
  refine wd_get (j := 9) (q0 := 0) (f := 0) (ci := 0) (v := .ref x1) C inX0_addNeighbor_X0 kX0_addNeighbor_2 rfl (by decide) rfl rfl dX0_addNeighbor_6 rfl ?_
  refine wd_iload_n (j := 10) C 1 dX0_addNeighbor_9 rfl rfl rfl ?_
  obtain ⟨g1, h⟩ := grd_some h
  refine wd_iald (j := 11) (q0 := 1) (t0 := 0) C rfl rfl (inB_in g1) dX0_addNeighbor_10 rfl ?_
  obtain ⟨u2, hu2, h⟩ := bnd_some h
  refine wd_callSi (j := 14) (As := [.int p1, .int (deg p1.toNatClampNeg)]) (rest := [.ref x2]) (ws' := (w_X0_addNeighbor x0 x1 x2 cI cD nodes links deg nbr)) C (c_X0_slot l D cI cD p1 (deg p1.toNatClampNeg) u2 hu2) (va_cwS 2 C.1.2.2.2.2 gX0_addNeighbor_X0_slot rfl rfl rfl (by decide +kernel) ⟨Nat.le_of_ble_eq_true rfl, Nat.le_of_ble_eq_true rfl⟩) [] [0, 1, 2] rfl rfl rfl rfl (by decide) [0, 1, 2] rfl rfl rfl (Nat.le_of_ble_eq_true rfl) (Nat.le_of_ble_eq_true rfl) (Nat.le_of_ble_eq_true rfl) dX0_addNeighbor_11 rfl ?_
  refine wd_iload_n (j := 15) C 2 dX0_addNeighbor_14 rfl rfl rfl ?_
  obtain ⟨g3, h⟩ := grd_some h
  refine wd_iast (j := 16) (q0 := 2) (t0 := 0) (ws' := (w_X0_addNeighbor x0 x1 x2 cI cD nodes links deg (upd nbr u2.toNatClampNeg p2))) C rfl rfl (inB_in g3) rfl dX0_addNeighbor_15 rfl ?_
  refine wd_aload_n (j := 17) C 0 dX0_addNeighbor_16 rfl rfl rfl ?_
  refine wd_get (j := 20) (q0 := 0) (f := 0) (ci := 0) (v := .ref x1) C inX0_addNeighbor_X0 kX0_addNeighbor_2 rfl (by decide) rfl rfl dX0_addNeighbor_17 rfl ?_
  refine wd_iload_n (j := 21) C 1 dX0_addNeighbor_20 rfl rfl rfl ?_
  refine wd_dup2 (j := 22) C dX0_addNeighbor_21 rfl rfl rfl ?_
  obtain ⟨g4, h⟩ := grd_some h
  refine wd_iald (j := 23) (q0 := 1) (t0 := 0) C rfl rfl (inB_in g4) dX0_addNeighbor_22 rfl ?_
  refine wd_iconst (j := 24) (v := 1) C dX0_addNeighbor_23 (by decide) rfl ?_
  refine wd_iadd (j := 25) C dX0_addNeighbor_24 rfl ?_
  obtain ⟨g5, h⟩ := grd_some h
  refine wd_iast (j := 26) (q0 := 1) (t0 := 0) (ws' := (w_X0_addNeighbor x0 x1 x2 cI cD nodes links (upd deg p1.toNatClampNeg ((deg p1.toNatClampNeg) + (1 : Int32))) (upd nbr u2.toNatClampNeg p2))) C rfl rfl (inB_in g5) rfl dX0_addNeighbor_25 rfl ?_
  obtain rfl := Option.some.inj h
  exact wd_vret C hA hr hlk rfl dX0_addNeighbor_26
abbrev w_X0_build (x0 x1 x2 x3 x4 : Nat) (cI cD : ClassId) (nodes : Int32) (links : Int32) (deg : Nat → Int32) (nbr : Nat → Int32) (len : Int32) (codes : Nat → Int32) : va_W := [(x0, .inr (0, [.ref x1, .ref x2, .int nodes, .int links])), (x1, .inl (cI, 8, .inl deg)), (x2, .inl (cI, 56, .inl nbr)), (x3, .inr (1, [.ref x4, .int len])), (x4, .inl (cI, 40, .inl codes))]
theorem kX0_build_1 : Cond.fieldLink "RotorRouter$Graph" 18 "RotorRouter$Graph" "nodes" "I" ∈ wsX0_build := List.mem_of_getElem? (i := 1) rfl
theorem kX0_build_2 : Cond.fieldLink "RotorRouter$Graph" 22 "RotorRouter$Graph" "links" "I" ∈ wsX0_build := List.mem_of_getElem? (i := 2) rfl
theorem kX0_build_3 : Cond.fieldLink "RotorRouter$Graph" 9 "RotorRouter$Graph" "degrees" "[I" ∈ wsX0_build := List.mem_of_getElem? (i := 3) rfl
theorem inX0_build_X0 : ∀ w ∈ wsX00, w ∈ wsX0_build := fun _ h => List.mem_cons_of_mem _ (List.mem_append_left _ (List.mem_append_right _ h))
set_option maxRecDepth 100000 in
set_option maxHeartbeats 4000000 in
theorem lw_X0_build_18 (l : Launch) (D : va_G) (cI cD : ClassId) (x0 x1 x2 x3 x4 : Nat) (N : Nat) (nodes : Int32) (links : Int32) (nbr : Nat → Int32) (len : Int32) (codes : Nat → Int32)  {p : Program} {e : Env} {s : State} {m : MethodId} {args : Array Value} {below : List Frame} {meth : Method} {c : Code} {A : Nat → Prop} {Q : State → Prop} (C : wd_C p m c cX0_build 5 s args wsX0_build RX0 D [(cI, .int), (cD, .double)] A) : ∀ (n : Nat) (st : Int32 × (Nat → Int32)) (E : (Nat → Int32)), iter (b_X0_build_18) n st = some E → (Wd p l e { frames := 2, cells := 0, slots := 0, locals := 43 } s m args below meth c 5 D A 0 0 Q 37 [(0, .ref x0), (1, .ref x3)] [] (w_X0_build x0 x1 x2 x3 x4 cI cD nodes links E nbr len codes)) → Wd p l e { frames := 2, cells := 0, slots := 0, locals := 43 } s m args below meth c 5 D A 0 0 Q 18 [(0, .ref x0), (1, .ref x3), (2, .int st.1)] [] (w_X0_build x0 x1 x2 x3 x4 cI cD nodes links st.2 nbr len codes) := by
  intro n
  induction n with
  | zero => intro st E h; cases h
  | succ n ih =>
    intro st E h kx
    obtain ⟨b, h, hk⟩ := iter_step h
    unfold b_X0_build_18 at h
    refine wd_iload_n (j := 19) C 2 dX0_build_18 rfl rfl rfl ?_
    refine wd_bipush (j := 21) (v := 8) C dX0_build_19 (by decide) rfl ?_
    refine wd_icmp_ge (j := 24) (t := 37) C dX0_build_21 (by decide) rfl (fun c1 => ?_) (fun c1 => ?_)
    · replace h := (if_pos c1).symm.trans h
      obtain rfl := Option.some.inj h
      obtain rfl := hk
      refine wd_lv (lv' := [(0, .ref x0), (1, .ref x3)]) [0, 1] rfl ?_
      exact kx
    · replace h := (if_neg c1).symm.trans h
      refine wd_aload_n (j := 25) C 0 dX0_build_24 rfl rfl rfl ?_
      refine wd_get (j := 28) (q0 := 0) (f := 0) (ci := 0) (v := .ref x1) C inX0_build_X0 kX0_build_3 rfl (by decide) rfl rfl dX0_build_25 rfl ?_
      refine wd_iload_n (j := 29) C 2 dX0_build_28 rfl rfl rfl ?_
      refine wd_iconst (j := 30) (v := 0) C dX0_build_29 (by decide) rfl ?_
      obtain ⟨g2, h⟩ := grd_some h
      refine wd_iast (j := 31) (q0 := 1) (t0 := 0) (ws' := (w_X0_build x0 x1 x2 x3 x4 cI cD nodes links (upd st.2 st.1.toNatClampNeg (0 : Int32)) nbr len codes)) C rfl rfl (inB_in g2) rfl dX0_build_30 rfl ?_
      refine wd_iinc (j := 34) (lv' := [(2, .int (st.1 + 1)), (0, .ref x0), (1, .ref x3)]) C 2 dX0_build_31 rfl rfl (by decide) rfl rfl ?_
      refine wd_goto (t := 18) C dX0_build_34 (by decide) ?_
      obtain rfl := Option.some.inj h
      refine wd_lv (lv' := [(0, .ref x0), (1, .ref x3), (2, .int (st.1 + 1))]) [1, 2, 0] rfl ?_
      exact ih ((st.1 + 1), (upd st.2 st.1.toNatClampNeg (0 : Int32))) E hk kx
set_option maxRecDepth 100000 in
set_option maxHeartbeats 4000000 in
theorem lw_X0_build_39 (l : Launch) (D : va_G) (cI cD : ClassId) (x0 x1 x2 x3 x4 : Nat) (N : Nat) (nodes : Int32) (len : Int32) (links : Int32) (codes : Nat → Int32)  {p : Program} {e : Env} {s : State} {m : MethodId} {args : Array Value} {below : List Frame} {meth : Method} {c : Code} {A : Nat → Prop} {Q : State → Prop} (C : wd_C p m c cX0_build 5 s args wsX0_build RX0 D [(cI, .int), (cD, .double)] A) : ∀ (n : Nat) (st : Int32 × (Nat → Int32) × (Nat → Int32)) (E : (Nat → Int32) × (Nat → Int32)), iter (b_X0_build_39 links codes) n st = some E → (Wd p l e { frames := 2, cells := 0, slots := 0, locals := 43 } s m args below meth c 5 D A 0 0 Q 80 [] [] (w_X0_build x0 x1 x2 x3 x4 cI cD nodes links E.1 E.2 len codes)) → Wd p l e { frames := 2, cells := 0, slots := 0, locals := 43 } s m args below meth c 5 D A 0 0 Q 39 [(0, .ref x0), (1, .ref x3), (2, .int st.1)] [] (w_X0_build x0 x1 x2 x3 x4 cI cD nodes links st.2.1 st.2.2 len codes) := by
  intro n
  induction n with
  | zero => intro st E h; cases h
  | succ n ih =>
    intro st E h kx
    obtain ⟨b, h, hk⟩ := iter_step h
    unfold b_X0_build_39 at h
    refine wd_iload_n (j := 40) C 2 dX0_build_39 rfl rfl rfl ?_
    refine wd_aload_n (j := 41) C 0 dX0_build_40 rfl rfl rfl ?_
    refine wd_get (j := 44) (q0 := 0) (f := 3) (ci := 0) (v := .int links) C inX0_build_X0 kX0_build_2 rfl (by decide) rfl rfl dX0_build_41 rfl ?_
    refine wd_icmp_ge (j := 47) (t := 80) C dX0_build_44 (by decide) rfl (fun c3 => ?_) (fun c3 => ?_)
    · replace h := (if_pos c3).symm.trans h
      obtain rfl := Option.some.inj h
      obtain rfl := hk
      refine wd_lv (lv' := []) [] rfl ?_
      exact kx
    · replace h := (if_neg c3).symm.trans h
      refine wd_aload_n (j := 48) C 1 dX0_build_47 rfl rfl rfl ?_
      refine wd_iload_n (j := 49) C 2 dX0_build_48 rfl rfl rfl ?_
      obtain ⟨u4, hu4, h⟩ := bnd_some h
      refine wd_callVi (j := 52) (q0 := 0) (ci := 1) (As := [.int st.1]) (rest := []) (ws' := (w_X0_build x0 x1 x2 x3 x4 cI cD nodes links st.2.1 st.2.2 len codes)) C (c_X1_firstNode l D cI cD x3 x4 len codes st.1 u4 hu4) (cwV 1 C.1.2.2.2.2 gX0_build_X1_firstNode rfl rfl rfl (by decide +kernel) ⟨Nat.le_of_ble_eq_true rfl, Nat.le_of_ble_eq_true rfl⟩) rfl rfl [3, 4] [0, 1, 2] rfl rfl rfl rfl (by decide) [0, 1, 2, 3, 4] rfl rfl rfl (Nat.le_of_ble_eq_true rfl) (Nat.le_of_ble_eq_true rfl) (Nat.le_of_ble_eq_true rfl) dX0_build_49 rfl ?_
      refine wd_istore_n (j := 53) (lv' := [(3, .int u4), (0, .ref x0), (1, .ref x3), (2, .int st.1)]) C dX0_build_52 rfl (by decide) rfl rfl ?_
      refine wd_aload_n (j := 54) C 2 dX0_build_53 rfl rfl rfl ?_
      refine wd_iload_n (j := 55) C 3 dX0_build_54 rfl rfl rfl ?_
      obtain ⟨u5, hu5, h⟩ := bnd_some h
      refine wd_callVi (j := 58) (q0 := 0) (ci := 1) (As := [.int st.1]) (rest := []) (ws' := (w_X0_build x0 x1 x2 x3 x4 cI cD nodes links st.2.1 st.2.2 len codes)) C (c_X1_secondNode l D cI cD x3 x4 len codes st.1 u5 hu5) (cwV 1 C.1.2.2.2.2 gX0_build_X1_secondNode rfl rfl rfl (by decide +kernel) ⟨Nat.le_of_ble_eq_true rfl, Nat.le_of_ble_eq_true rfl⟩) rfl rfl [3, 4] [0, 1, 2] rfl rfl rfl rfl (by decide) [0, 1, 2, 3, 4] rfl rfl rfl (Nat.le_of_ble_eq_true rfl) (Nat.le_of_ble_eq_true rfl) (Nat.le_of_ble_eq_true rfl) dX0_build_55 rfl ?_
      refine wd_istore (j := 60) (lv' := [(4, .int u5), (3, .int u4), (0, .ref x0), (1, .ref x3), (2, .int st.1)]) C dX0_build_58 (by decide) rfl rfl ?_
      refine wd_aload_n (j := 61) C 2 dX0_build_60 rfl rfl rfl ?_
      refine wd_iload_n (j := 62) C 1 dX0_build_61 rfl rfl rfl ?_
      refine wd_iload (j := 64) C 0 dX0_build_62 rfl rfl ?_
      obtain ⟨u6, hu6, h⟩ := bnd_some h
      refine wd_callVv (j := 67) (q0 := 0) (ci := 0) (As := [.int u4, .int u5]) (rest := []) (ws' := (w_X0_build x0 x1 x2 x3 x4 cI cD nodes links u6.1 u6.2 len codes)) C (c_X0_addNeighbor l D cI cD x0 x1 x2 nodes links st.2.1 st.2.2 u4 u5 u6 hu6) (cwV 2 C.1.2.2.2.2 gX0_build_X0_addNeighbor rfl rfl rfl (by decide +kernel) ⟨Nat.le_of_ble_eq_true rfl, Nat.le_of_ble_eq_true rfl⟩) rfl rfl [0, 1, 2] [3, 4] rfl rfl rfl rfl (by decide) [2, 3, 4, 0, 1] rfl rfl rfl (Nat.le_of_ble_eq_true rfl) (Nat.le_of_ble_eq_true rfl) (Nat.le_of_ble_eq_true rfl) dX0_build_64 rfl ?_
      refine wd_aload_n (j := 68) C 2 dX0_build_67 rfl rfl rfl ?_
      refine wd_iload (j := 70) C 0 dX0_build_68 rfl rfl ?_
      refine wd_iload_n (j := 71) C 1 dX0_build_70 rfl rfl rfl ?_
      obtain ⟨u7, hu7, h⟩ := bnd_some h
      refine wd_callVv (j := 74) (q0 := 0) (ci := 0) (As := [.int u5, .int u4]) (rest := []) (ws' := (w_X0_build x0 x1 x2 x3 x4 cI cD nodes links u7.1 u7.2 len codes)) C (c_X0_addNeighbor l D cI cD x0 x1 x2 nodes links u6.1 u6.2 u5 u4 u7 hu7) (cwV 2 C.1.2.2.2.2 gX0_build_X0_addNeighbor rfl rfl rfl (by decide +kernel) ⟨Nat.le_of_ble_eq_true rfl, Nat.le_of_ble_eq_true rfl⟩) rfl rfl [0, 1, 2] [3, 4] rfl rfl rfl rfl (by decide) [2, 3, 4, 0, 1] rfl rfl rfl (Nat.le_of_ble_eq_true rfl) (Nat.le_of_ble_eq_true rfl) (Nat.le_of_ble_eq_true rfl) dX0_build_71 rfl ?_
      refine wd_iinc (j := 77) (lv' := [(2, .int (st.1 + 1)), (4, .int u5), (3, .int u4), (0, .ref x0), (1, .ref x3)]) C 4 dX0_build_74 rfl rfl (by decide) rfl rfl ?_
      refine wd_goto (t := 39) C dX0_build_77 (by decide) ?_
      obtain rfl := Option.some.inj h
      refine wd_lv (lv' := [(0, .ref x0), (1, .ref x3), (2, .int (st.1 + 1))]) [3, 4, 0] rfl ?_
      exact ih ((st.1 + 1), u7.1, u7.2) E hk kx
set_option maxRecDepth 100000 in
set_option maxHeartbeats 4000000 in
theorem c_X0_build (l : Launch) (D : va_G) (cI cD : ClassId) (x0 x1 x2 x3 x4 : Nat) (N : Nat) (nodes : Int32) (links : Int32) (deg : Nat → Int32) (nbr : Nat → Int32) (len : Int32) (codes : Nat → Int32)  (u : Int32 × Int32 × (Nat → Int32) × (Nat → Int32)) (h : f_X0_build N nodes links deg nbr len codes = some u) : MetV l yX0_build wsX0_build { frames := 2, cells := 0, slots := 0, locals := 43 } D [(cI, .int), (cD, .double)] [.ref x0, .ref x3] (w_X0_build x0 x1 x2 x3 x4 cI cD nodes links deg nbr len codes) (w_X0_build x0 x1 x2 x3 x4 cI cD u.1 u.2.1 u.2.2.1 u.2.2.2 len codes) := by
  refine MetV.of (own := RX0) (cc := cX0_build) (nL := 5) (ret := none) (by decide) rfl rfl (Nat.le_of_ble_eq_true rfl) rfl ?_
  intro p e s m args below meth c A hA C hr hlk
  unfold f_X0_build at h
  refine wd_aload_n (j := 1) C 0 dX0_build_0 rfl rfl rfl ?_
  refine wd_aload_n (j := 2) C 1 dX0_build_1 rfl rfl rfl ?_
  obtain ⟨u8, hu8, h⟩ := bnd_some h
  refine wd_callVi (j := 5) (q0 := 0) (ci := 1) (As := []) (rest := [.ref x0]) (ws' := (w_X0_build x0 x1 x2 x3 x4 cI cD nodes links deg nbr len codes)) C (c_X1_nodes l D cI cD x3 x4 len codes u8 hu8) (cwV 0 C.1.2.2.2.2 gX0_build_X1_nodes rfl rfl rfl (by decide +kernel) ⟨Nat.le_of_ble_eq_true rfl, Nat.le_of_ble_eq_true rfl⟩) rfl rfl [3, 4] [0, 1, 2] rfl rfl rfl rfl (by decide) [0, 1, 2, 3, 4] rfl rfl rfl (Nat.le_of_ble_eq_true rfl) (Nat.le_of_ble_eq_true rfl) (Nat.le_of_ble_eq_true rfl) dX0_build_2 rfl ?_
  refine wd_put (j := 8) (q0 := 0) (f := 2) (ci := 0) (ws' := (w_X0_build x0 x1 x2 x3 x4 cI cD u8 links deg nbr len codes)) C inX0_build_X0 tyX0 tyX0_ok nmX0 kX0_build_1 rfl (by decide) rfl rfl rfl rfl (Nat.le_of_ble_eq_true rfl) rfl dX0_build_5 rfl ?_
  refine wd_aload_n (j := 9) C 0 dX0_build_8 rfl rfl rfl ?_
  refine wd_aload_n (j := 10) C 1 dX0_build_9 rfl rfl rfl ?_
  obtain ⟨u9, hu9, h⟩ := bnd_some h
  refine wd_callVi (j := 13) (q0 := 0) (ci := 1) (As := []) (rest := [.ref x0]) (ws' := (w_X0_build x0 x1 x2 x3 x4 cI cD u8 links deg nbr len codes)) C (c_X1_links l D cI cD x3 x4 len u9 hu9) (cwV 0 C.1.2.2.2.2 gX0_build_X1_links rfl rfl rfl (by decide +kernel) ⟨Nat.le_of_ble_eq_true rfl, Nat.le_of_ble_eq_true rfl⟩) rfl rfl [3] [0, 1, 2, 4] rfl rfl rfl rfl (by decide) [0, 1, 2, 4, 3] rfl rfl rfl (Nat.le_of_ble_eq_true rfl) (Nat.le_of_ble_eq_true rfl) (Nat.le_of_ble_eq_true rfl) dX0_build_10 rfl ?_
  refine wd_put (j := 16) (q0 := 0) (f := 3) (ci := 0) (ws' := (w_X0_build x0 x1 x2 x3 x4 cI cD u8 u9 deg nbr len codes)) C inX0_build_X0 tyX0 tyX0_ok nmX0 kX0_build_2 rfl (by decide) rfl rfl rfl rfl (Nat.le_of_ble_eq_true rfl) rfl dX0_build_13 rfl ?_
  refine wd_iconst (j := 17) (v := 0) C dX0_build_16 (by decide) rfl ?_
  refine wd_istore_n (j := 18) (lv' := [(2, .int (0 : Int32)), (0, .ref x0), (1, .ref x3)]) C dX0_build_17 rfl (by decide) rfl rfl ?_
  refine wd_lv (lv' := [(0, .ref x0), (1, .ref x3), (2, .int (0 : Int32))]) [1, 2, 0] rfl ?_
  obtain ⟨u10, hu10, h⟩ := bnd_some h
  refine lw_X0_build_18 l D cI cD x0 x1 x2 x3 x4 N u8 u9 nbr len codes C N ((0 : Int32), deg) u10 hu10 ?_
  refine wd_iconst (j := 38) (v := 0) C dX0_build_37 (by decide) rfl ?_
  refine wd_istore_n (j := 39) (lv' := [(2, .int (0 : Int32)), (0, .ref x0), (1, .ref x3)]) C dX0_build_38 rfl (by decide) rfl rfl ?_
  refine wd_lv (lv' := [(0, .ref x0), (1, .ref x3), (2, .int (0 : Int32))]) [1, 2, 0] rfl ?_
  obtain ⟨u11, hu11, h⟩ := bnd_some h
  refine lw_X0_build_39 l D cI cD x0 x1 x2 x3 x4 N u8 len u9 codes C N ((0 : Int32), u10, nbr) u11 hu11 ?_
  obtain rfl := Option.some.inj h
  exact wd_vret C hA hr hlk rfl dX0_build_80
abbrev w_X0_hasNode (x0 x1 x2 : Nat) (cI cD : ClassId) (nodes : Int32) (links : Int32) : va_W := [(x0, .inr (0, [.ref x1, .ref x2, .int nodes, .int links]))]
theorem kX0_hasNode_1 : Cond.fieldLink "RotorRouter$Graph" 18 "RotorRouter$Graph" "nodes" "I" ∈ wsX0_hasNode := List.mem_of_getElem? (i := 1) rfl
theorem inX0_hasNode_X0 : ∀ w ∈ wsX00, w ∈ wsX0_hasNode := fun _ h => List.mem_cons_of_mem _ (List.mem_append_right _ h)
set_option maxRecDepth 100000 in
set_option maxHeartbeats 4000000 in
theorem c_X0_hasNode (l : Launch) (D : va_G) (cI cD : ClassId) (x0 x1 x2 : Nat) (nodes : Int32) (links : Int32) (p1 : Int32) (u : Int32) (h : f_X0_hasNode nodes p1 = some u) : MetI l yX0_hasNode wsX0_hasNode { frames := 0, cells := 0, slots := 0, locals := 0 } D [(cI, .int), (cD, .double)] [.ref x0, .int p1] (w_X0_hasNode x0 x1 x2 cI cD nodes links) u (w_X0_hasNode x0 x1 x2 cI cD nodes links) := by
  refine MetI.of (own := RX0) (cc := cX0_hasNode) (nL := 2) (ret := (some .boolean)) (by decide) rfl rfl (Nat.le_of_ble_eq_true rfl) rfl ?_
  intro p e s m args below meth c A hA C hr hlk
  unfold f_X0_hasNode at h
  refine wd_iload_n (j := 1) C 1 dX0_hasNode_0 rfl rfl rfl ?_
  refine wd_if_lt (j := 4) (t := 16) C dX0_hasNode_1 (by decide) rfl (fun c1 => ?_) (fun c1 => ?_)
  · replace h := (if_pos c1).symm.trans h
    refine wd_iconst (j := 17) (v := 0) C dX0_hasNode_16 (by decide) rfl ?_
    obtain rfl := Option.some.inj h
    exact wd_iret C hA hr hlk rfl rfl rfl dX0_hasNode_17
  · replace h := (if_neg c1).symm.trans h
    refine wd_iload_n (j := 5) C 1 dX0_hasNode_4 rfl rfl rfl ?_
    refine wd_aload_n (j := 6) C 0 dX0_hasNode_5 rfl rfl rfl ?_
    refine wd_get (j := 9) (q0 := 0) (f := 2) (ci := 0) (v := .int nodes) C inX0_hasNode_X0 kX0_hasNode_1 rfl (by decide) rfl rfl dX0_hasNode_6 rfl ?_
    refine wd_icmp_ge (j := 12) (t := 16) C dX0_hasNode_9 (by decide) rfl (fun c2 => ?_) (fun c2 => ?_)
    · replace h := (if_pos c2).symm.trans h
      refine wd_iconst (j := 17) (v := 0) C dX0_hasNode_16 (by decide) rfl ?_
      obtain rfl := Option.some.inj h
      exact wd_iret C hA hr hlk rfl rfl rfl dX0_hasNode_17
    · replace h := (if_neg c2).symm.trans h
      refine wd_iconst (j := 13) (v := 1) C dX0_hasNode_12 (by decide) rfl ?_
      refine wd_goto (t := 17) C dX0_hasNode_13 (by decide) ?_
      obtain rfl := Option.some.inj h
      exact wd_iret C hA hr hlk rfl rfl rfl dX0_hasNode_17
abbrev w_X0_neighborError (x0 x1 x2 : Nat) (cI cD : ClassId) (nodes : Int32) (links : Int32) (deg : Nat → Int32) : va_W := [(x0, .inr (0, [.ref x1, .ref x2, .int nodes, .int links])), (x1, .inl (cI, 8, .inl deg))]
theorem kX0_neighborError_1 : Cond.fieldLink "RotorRouter$Graph" 9 "RotorRouter$Graph" "degrees" "[I" ∈ wsX0_neighborError := List.mem_of_getElem? (i := 1) rfl
theorem inX0_neighborError_X0 : ∀ w ∈ wsX00, w ∈ wsX0_neighborError := fun _ h => List.mem_cons_of_mem _ (List.mem_append_right _ h)
set_option maxRecDepth 100000 in
set_option maxHeartbeats 4000000 in
theorem c_X0_neighborError (l : Launch) (D : va_G) (cI cD : ClassId) (x0 x1 x2 : Nat) (nodes : Int32) (links : Int32) (deg : Nat → Int32) (p1 : Int32) (p2 : Int32) (u : Int32) (h : f_X0_neighborError nodes deg p1 p2 = some u) : MetI l yX0_neighborError wsX0_neighborError { frames := 1, cells := 0, slots := 0, locals := 21 } D [(cI, .int), (cD, .double)] [.ref x0, .int p1, .int p2] (w_X0_neighborError x0 x1 x2 cI cD nodes links deg) u (w_X0_neighborError x0 x1 x2 cI cD nodes links deg) := by
  refine MetI.of (own := RX0) (cc := cX0_neighborError) (nL := 3) (ret := (some .int)) (by decide) rfl rfl (Nat.le_of_ble_eq_true rfl) rfl ?_
  intro p e s m args below meth c A hA C hr hlk
  unfold f_X0_neighborError at h
  refine wd_aload_n (j := 1) C 0 dX0_neighborError_0 rfl rfl rfl ?_
  refine wd_iload_n (j := 2) C 1 dX0_neighborError_1 rfl rfl rfl ?_
  obtain ⟨u1, hu1, h⟩ := bnd_some h
  refine wd_callVi (j := 5) (q0 := 0) (ci := 0) (As := [.int p1]) (rest := []) (ws' := (w_X0_neighborError x0 x1 x2 cI cD nodes links deg)) C (c_X0_hasNode l D cI cD x0 x1 x2 nodes links p1 u1 hu1) (cwV 1 C.1.2.2.2.2 gX0_neighborError_X0_hasNode rfl rfl rfl (by decide +kernel) ⟨Nat.le_of_ble_eq_true rfl, Nat.le_of_ble_eq_true rfl⟩) rfl rfl [0] [1] rfl rfl rfl rfl (by decide) [1, 0] rfl rfl rfl (Nat.le_of_ble_eq_true rfl) (Nat.le_of_ble_eq_true rfl) (Nat.le_of_ble_eq_true rfl) dX0_neighborError_2 rfl ?_
  refine wd_if_ne (j := 8) (t := 11) C dX0_neighborError_5 (by decide) rfl (fun c2 => ?_) (fun c2 => ?_)
  · replace h := (if_neg c2).symm.trans h
    refine wd_iload_n (j := 12) C 2 dX0_neighborError_11 rfl rfl rfl ?_
    refine wd_if_lt (j := 15) (t := 29) C dX0_neighborError_12 (by decide) rfl (fun c3 => ?_) (fun c3 => ?_)
    · replace h := (if_pos c3).symm.trans h
      refine wd_bipush (j := 31) (v := -6) C dX0_neighborError_29 (by decide) rfl ?_
      obtain rfl := Option.some.inj h
      exact wd_iret C hA hr hlk rfl rfl rfl dX0_neighborError_31
    · replace h := (if_neg c3).symm.trans h
      refine wd_iload_n (j := 16) C 2 dX0_neighborError_15 rfl rfl rfl ?_
      refine wd_aload_n (j := 17) C 0 dX0_neighborError_16 rfl rfl rfl ?_
      refine wd_get (j := 20) (q0 := 0) (f := 0) (ci := 0) (v := .ref x1) C inX0_neighborError_X0 kX0_neighborError_1 rfl (by decide) rfl rfl dX0_neighborError_17 rfl ?_
      refine wd_iload_n (j := 21) C 1 dX0_neighborError_20 rfl rfl rfl ?_
      obtain ⟨g4, h⟩ := grd_some h
      refine wd_iald (j := 22) (q0 := 1) (t0 := 0) C rfl rfl (inB_in g4) dX0_neighborError_21 rfl ?_
      refine wd_icmp_ge (j := 25) (t := 29) C dX0_neighborError_22 (by decide) rfl (fun c5 => ?_) (fun c5 => ?_)
      · replace h := (if_pos c5).symm.trans h
        refine wd_bipush (j := 31) (v := -6) C dX0_neighborError_29 (by decide) rfl ?_
        obtain rfl := Option.some.inj h
        exact wd_iret C hA hr hlk rfl rfl rfl dX0_neighborError_31
      · replace h := (if_neg c5).symm.trans h
        refine wd_iconst (j := 26) (v := 0) C dX0_neighborError_25 (by decide) rfl ?_
        refine wd_goto (t := 31) C dX0_neighborError_26 (by decide) ?_
        obtain rfl := Option.some.inj h
        exact wd_iret C hA hr hlk rfl rfl rfl dX0_neighborError_31
  · replace h := (if_pos c2).symm.trans h
    refine wd_bipush (j := 10) (v := -4) C dX0_neighborError_8 (by decide) rfl ?_
    obtain rfl := Option.some.inj h
    exact wd_iret C hA hr hlk rfl rfl rfl dX0_neighborError_10
abbrev w_X0_rotorAfter (x0 x1 x2 : Nat) (cI cD : ClassId) (nodes : Int32) (links : Int32) (deg : Nat → Int32) : va_W := [(x0, .inr (0, [.ref x1, .ref x2, .int nodes, .int links])), (x1, .inl (cI, 8, .inl deg))]
theorem kX0_rotorAfter_1 : Cond.fieldLink "RotorRouter$Graph" 9 "RotorRouter$Graph" "degrees" "[I" ∈ wsX0_rotorAfter := List.mem_of_getElem? (i := 1) rfl
theorem inX0_rotorAfter_X0 : ∀ w ∈ wsX00, w ∈ wsX0_rotorAfter := fun _ h => List.mem_cons_of_mem _ (List.mem_append_right _ h)
set_option maxRecDepth 100000 in
set_option maxHeartbeats 4000000 in
theorem c_X0_rotorAfter (l : Launch) (D : va_G) (cI cD : ClassId) (x0 x1 x2 : Nat) (nodes : Int32) (links : Int32) (deg : Nat → Int32) (p1 : Int32) (p2 : Int32) (u : Int32) (h : f_X0_rotorAfter deg p1 p2 = some u) : MetI l yX0_rotorAfter wsX0_rotorAfter { frames := 0, cells := 0, slots := 0, locals := 0 } D [(cI, .int), (cD, .double)] [.ref x0, .int p1, .int p2] (w_X0_rotorAfter x0 x1 x2 cI cD nodes links deg) u (w_X0_rotorAfter x0 x1 x2 cI cD nodes links deg) := by
  refine MetI.of (own := RX0) (cc := cX0_rotorAfter) (nL := 4) (ret := (some .int)) (by decide) rfl rfl (Nat.le_of_ble_eq_true rfl) rfl ?_
  intro p e s m args below meth c A hA C hr hlk
  unfold f_X0_rotorAfter at h
  refine wd_iload_n (j := 1) C 2 dX0_rotorAfter_0 rfl rfl rfl ?_
  refine wd_iconst (j := 2) (v := 1) C dX0_rotorAfter_1 (by decide) rfl ?_
  refine wd_iadd (j := 3) C dX0_rotorAfter_2 rfl ?_
  refine wd_istore_n (j := 4) (lv' := [(3, .int (p2 + (1 : Int32))), (0, .ref x0), (1, .int p1), (2, .int p2)]) C dX0_rotorAfter_3 rfl (by decide) rfl rfl ?_
  refine wd_iload_n (j := 5) C 0 dX0_rotorAfter_4 rfl rfl rfl ?_
  refine wd_aload_n (j := 6) C 1 dX0_rotorAfter_5 rfl rfl rfl ?_
  refine wd_get (j := 9) (q0 := 0) (f := 0) (ci := 0) (v := .ref x1) C inX0_rotorAfter_X0 kX0_rotorAfter_1 rfl (by decide) rfl rfl dX0_rotorAfter_6 rfl ?_
  refine wd_iload_n (j := 10) C 2 dX0_rotorAfter_9 rfl rfl rfl ?_
  obtain ⟨g1, h⟩ := grd_some h
  refine wd_iald (j := 11) (q0 := 1) (t0 := 0) C rfl rfl (inB_in g1) dX0_rotorAfter_10 rfl ?_
  refine wd_icmp_ne (j := 14) (t := 18) C dX0_rotorAfter_11 (by decide) rfl (fun c2 => ?_) (fun c2 => ?_)
  · replace h := (if_neg c2).symm.trans h
    refine wd_iload_n (j := 19) C 0 dX0_rotorAfter_18 rfl rfl rfl ?_
    obtain rfl := Option.some.inj h
    exact wd_iret C hA hr hlk rfl rfl rfl dX0_rotorAfter_19
  · replace h := (if_pos c2).symm.trans h
    refine wd_iconst (j := 15) (v := 0) C dX0_rotorAfter_14 (by decide) rfl ?_
    refine wd_goto (t := 19) C dX0_rotorAfter_15 (by decide) ?_
    obtain rfl := Option.some.inj h
    exact wd_iret C hA hr hlk rfl rfl rfl dX0_rotorAfter_19
abbrev w_X0_assignments (x0 x1 x2 : Nat) (cI cD : ClassId) (nodes : Int32) (links : Int32) (deg : Nat → Int32) : va_W := [(x0, .inr (0, [.ref x1, .ref x2, .int nodes, .int links])), (x1, .inl (cI, 8, .inl deg))]
theorem kX0_assignments_1 : Cond.fieldLink "RotorRouter$Graph" 18 "RotorRouter$Graph" "nodes" "I" ∈ wsX0_assignments := List.mem_of_getElem? (i := 1) rfl
theorem kX0_assignments_2 : Cond.fieldLink "RotorRouter$Graph" 9 "RotorRouter$Graph" "degrees" "[I" ∈ wsX0_assignments := List.mem_of_getElem? (i := 2) rfl
theorem inX0_assignments_X0 : ∀ w ∈ wsX00, w ∈ wsX0_assignments := fun _ h => List.mem_cons_of_mem _ (List.mem_append_right _ h)
set_option maxRecDepth 100000 in
set_option maxHeartbeats 4000000 in
theorem lw_X0_assignments_4 (l : Launch) (D : va_G) (cI cD : ClassId) (x0 x1 x2 : Nat) (N : Nat) (links : Int32) (nodes : Int32) (deg : Nat → Int32)  {p : Program} {e : Env} {s : State} {m : MethodId} {args : Array Value} {below : List Frame} {meth : Method} {c : Code} {A : Nat → Prop} {Q : State → Prop} (C : wd_C p m c cX0_assignments 3 s args wsX0_assignments RX0 D [(cI, .int), (cD, .double)] A) : ∀ (n : Nat) (st : Int32 × Int32) (E : Int32), iter (b_X0_assignments_4 nodes deg) n st = some E → (Wd p l e { frames := 0, cells := 0, slots := 0, locals := 0 } s m args below meth c 3 D A 0 0 Q 27 [(1, .int E)] [] (w_X0_assignments x0 x1 x2 cI cD nodes links deg)) → Wd p l e { frames := 0, cells := 0, slots := 0, locals := 0 } s m args below meth c 3 D A 0 0 Q 4 [(0, .ref x0), (1, .int st.1), (2, .int st.2)] [] (w_X0_assignments x0 x1 x2 cI cD nodes links deg) := by
  intro n
  induction n with
  | zero => intro st E h; cases h
  | succ n ih =>
    intro st E h kx
    obtain ⟨b, h, hk⟩ := iter_step h
    unfold b_X0_assignments_4 at h
    refine wd_iload_n (j := 5) C 2 dX0_assignments_4 rfl rfl rfl ?_
    refine wd_aload_n (j := 6) C 0 dX0_assignments_5 rfl rfl rfl ?_
    refine wd_get (j := 9) (q0 := 0) (f := 2) (ci := 0) (v := .int nodes) C inX0_assignments_X0 kX0_assignments_1 rfl (by decide) rfl rfl dX0_assignments_6 rfl ?_
    refine wd_icmp_ge (j := 12) (t := 27) C dX0_assignments_9 (by decide) rfl (fun c1 => ?_) (fun c1 => ?_)
    · replace h := (if_pos c1).symm.trans h
      obtain rfl := Option.some.inj h
      obtain rfl := hk
      refine wd_lv (lv' := [(1, .int st.1)]) [1] rfl ?_
      exact kx
    · replace h := (if_neg c1).symm.trans h
      refine wd_iload_n (j := 13) C 1 dX0_assignments_12 rfl rfl rfl ?_
      refine wd_aload_n (j := 14) C 0 dX0_assignments_13 rfl rfl rfl ?_
      refine wd_get (j := 17) (q0 := 0) (f := 0) (ci := 0) (v := .ref x1) C inX0_assignments_X0 kX0_assignments_2 rfl (by decide) rfl rfl dX0_assignments_14 rfl ?_
      refine wd_iload_n (j := 18) C 2 dX0_assignments_17 rfl rfl rfl ?_
      obtain ⟨g2, h⟩ := grd_some h
      refine wd_iald (j := 19) (q0 := 1) (t0 := 0) C rfl rfl (inB_in g2) dX0_assignments_18 rfl ?_
      refine wd_imul (j := 20) C dX0_assignments_19 rfl ?_
      refine wd_istore_n (j := 21) (lv' := [(1, .int (st.1 * (deg st.2.toNatClampNeg))), (0, .ref x0), (2, .int st.2)]) C dX0_assignments_20 rfl (by decide) rfl rfl ?_
      refine wd_iinc (j := 24) (lv' := [(2, .int (st.2 + 1)), (1, .int (st.1 * (deg st.2.toNatClampNeg))), (0, .ref x0)]) C 2 dX0_assignments_21 rfl rfl (by decide) rfl rfl ?_
      refine wd_goto (t := 4) C dX0_assignments_24 (by decide) ?_
      obtain rfl := Option.some.inj h
      refine wd_lv (lv' := [(0, .ref x0), (1, .int (st.1 * (deg st.2.toNatClampNeg))), (2, .int (st.2 + 1))]) [2, 1, 0] rfl ?_
      exact ih ((st.1 * (deg st.2.toNatClampNeg)), (st.2 + 1)) E hk kx
set_option maxRecDepth 100000 in
set_option maxHeartbeats 4000000 in
theorem c_X0_assignments (l : Launch) (D : va_G) (cI cD : ClassId) (x0 x1 x2 : Nat) (N : Nat) (nodes : Int32) (links : Int32) (deg : Nat → Int32)  (u : Int32) (h : f_X0_assignments N nodes deg = some u) : MetI l yX0_assignments wsX0_assignments { frames := 0, cells := 0, slots := 0, locals := 0 } D [(cI, .int), (cD, .double)] [.ref x0] (w_X0_assignments x0 x1 x2 cI cD nodes links deg) u (w_X0_assignments x0 x1 x2 cI cD nodes links deg) := by
  refine MetI.of (own := RX0) (cc := cX0_assignments) (nL := 3) (ret := (some .int)) (by decide) rfl rfl (Nat.le_of_ble_eq_true rfl) rfl ?_
  intro p e s m args below meth c A hA C hr hlk
  unfold f_X0_assignments at h
  refine wd_iconst (j := 1) (v := 1) C dX0_assignments_0 (by decide) rfl ?_
  refine wd_istore_n (j := 2) (lv' := [(1, .int (1 : Int32)), (0, .ref x0)]) C dX0_assignments_1 rfl (by decide) rfl rfl ?_
  refine wd_iconst (j := 3) (v := 0) C dX0_assignments_2 (by decide) rfl ?_
  refine wd_istore_n (j := 4) (lv' := [(2, .int (0 : Int32)), (1, .int (1 : Int32)), (0, .ref x0)]) C dX0_assignments_3 rfl (by decide) rfl rfl ?_
  refine wd_lv (lv' := [(0, .ref x0), (1, .int (1 : Int32)), (2, .int (0 : Int32))]) [2, 1, 0] rfl ?_
  obtain ⟨u3, hu3, h⟩ := bnd_some h
  refine lw_X0_assignments_4 l D cI cD x0 x1 x2 N links nodes deg C N ((1 : Int32), (0 : Int32)) u3 hu3 ?_
  refine wd_iload_n (j := 28) C 0 dX0_assignments_27 rfl rfl rfl ?_
  obtain rfl := Option.some.inj h
  exact wd_iret C hA hr hlk rfl rfl rfl dX0_assignments_28
abbrev w_X1_placeInGroup  (cI cD : ClassId)  : va_W := []
set_option maxRecDepth 100000 in
set_option maxHeartbeats 4000000 in
theorem c_X1_placeInGroup (l : Launch) (D : va_G) (cI cD : ClassId)   (p0 : Int32) (u : Int32) (h : f_X1_placeInGroup p0 = some u) : MetI l yX1_placeInGroup wsX1_placeInGroup { frames := 0, cells := 0, slots := 0, locals := 0 } D [(cI, .int), (cD, .double)] [.int p0] (w_X1_placeInGroup cI cD) u (w_X1_placeInGroup cI cD) := by
  refine MetI.of (own := RX1) (cc := cX1_placeInGroup) (nL := 1) (ret := (some .int)) (by decide) rfl rfl (Nat.le_of_ble_eq_true rfl) rfl ?_
  intro p e s m args below meth c A hA C hr hlk
  unfold f_X1_placeInGroup at h
  refine wd_iload_n (j := 1) C 0 dX1_placeInGroup_0 rfl rfl rfl ?_
  refine wd_iconst (j := 2) (v := 2) C dX1_placeInGroup_1 (by decide) rfl ?_
  refine wd_isub (j := 3) C dX1_placeInGroup_2 rfl ?_
  refine wd_iconst (j := 4) (v := 3) C dX1_placeInGroup_3 (by decide) rfl ?_
  refine wd_irem (j := 5) C dX1_placeInGroup_4 (by decide) rfl ?_
  obtain rfl := Option.some.inj h
  exact wd_iret C hA hr hlk rfl rfl rfl dX1_placeInGroup_5
abbrev w_X1_isNode (x0 x1 : Nat) (cI cD : ClassId) (len : Int32) (codes : Nat → Int32) : va_W := [(x0, .inr (1, [.ref x1, .int len])), (x1, .inl (cI, 40, .inl codes))]
theorem kX1_isNode_1 : Cond.fieldLink "RotorRouter$InputText" 11 "RotorRouter$InputText" "codes" "[I" ∈ wsX1_isNode := List.mem_of_getElem? (i := 1) rfl
theorem inX1_isNode_X1 : ∀ w ∈ wsX10, w ∈ wsX1_isNode := fun _ h => List.mem_cons_of_mem _ (List.mem_append_right _ h)
set_option maxRecDepth 100000 in
set_option maxHeartbeats 4000000 in
theorem c_X1_isNode (l : Launch) (D : va_G) (cI cD : ClassId) (x0 x1 : Nat) (len : Int32) (codes : Nat → Int32) (p1 : Int32) (u : Int32) (h : f_X1_isNode codes p1 = some u) : MetI l yX1_isNode wsX1_isNode { frames := 0, cells := 0, slots := 0, locals := 0 } D [(cI, .int), (cD, .double)] [.ref x0, .int p1] (w_X1_isNode x0 x1 cI cD len codes) u (w_X1_isNode x0 x1 cI cD len codes) := by
  refine MetI.of (own := RX1) (cc := cX1_isNode) (nL := 2) (ret := (some .boolean)) (by decide) rfl rfl (Nat.le_of_ble_eq_true rfl) rfl ?_
  intro p e s m args below meth c A hA C hr hlk
  unfold f_X1_isNode at h
  refine wd_iload_n (j := 1) C 1 dX1_isNode_0 rfl rfl rfl ?_
  refine wd_bipush (j := 3) (v := 48) C dX1_isNode_1 (by decide) rfl ?_
  refine wd_icmp_lt (j := 6) (t := 20) C dX1_isNode_3 (by decide) rfl (fun c1 => ?_) (fun c1 => ?_)
  · replace h := (if_pos c1).symm.trans h
    refine wd_iconst (j := 21) (v := 0) C dX1_isNode_20 (by decide) rfl ?_
    obtain rfl := Option.some.inj h
    exact wd_iret C hA hr hlk rfl rfl rfl dX1_isNode_21
  · replace h := (if_neg c1).symm.trans h
    refine wd_iload_n (j := 7) C 1 dX1_isNode_6 rfl rfl rfl ?_
    refine wd_aload_n (j := 8) C 0 dX1_isNode_7 rfl rfl rfl ?_
    refine wd_get (j := 11) (q0 := 0) (f := 0) (ci := 1) (v := .ref x1) C inX1_isNode_X1 kX1_isNode_1 rfl (by decide) rfl rfl dX1_isNode_8 rfl ?_
    refine wd_iconst (j := 12) (v := 0) C dX1_isNode_11 (by decide) rfl ?_
    refine wd_iald (j := 13) (q0 := 1) (t0 := 0) C rfl rfl (inB_in (by decide)) dX1_isNode_12 rfl ?_
    refine wd_icmp_ge (j := 16) (t := 20) C dX1_isNode_13 (by decide) rfl (fun c2 => ?_) (fun c2 => ?_)
    · replace h := (if_pos c2).symm.trans h
      refine wd_iconst (j := 21) (v := 0) C dX1_isNode_20 (by decide) rfl ?_
      obtain rfl := Option.some.inj h
      exact wd_iret C hA hr hlk rfl rfl rfl dX1_isNode_21
    · replace h := (if_neg c2).symm.trans h
      refine wd_iconst (j := 17) (v := 1) C dX1_isNode_16 (by decide) rfl ?_
      refine wd_goto (t := 21) C dX1_isNode_17 (by decide) ?_
      obtain rfl := Option.some.inj h
      exact wd_iret C hA hr hlk rfl rfl rfl dX1_isNode_21
abbrev w_X1_isNewLink (x0 x1 : Nat) (cI cD : ClassId) (len : Int32) (codes : Nat → Int32) : va_W := [(x0, .inr (1, [.ref x1, .int len])), (x1, .inl (cI, 40, .inl codes))]
theorem kX1_isNewLink_1 : Cond.fieldLink "RotorRouter$InputText" 11 "RotorRouter$InputText" "codes" "[I" ∈ wsX1_isNewLink := List.mem_of_getElem? (i := 1) rfl
theorem inX1_isNewLink_X1 : ∀ w ∈ wsX10, w ∈ wsX1_isNewLink := fun _ h => List.mem_cons_of_mem _ (List.mem_append_right _ h)
set_option maxRecDepth 100000 in
set_option maxHeartbeats 4000000 in
theorem lw_X1_isNewLink_19 (l : Launch) (D : va_G) (cI cD : ClassId) (x0 x1 : Nat) (N : Nat) (len : Int32) (codes : Nat → Int32) (p1 : Int32) (p2 : Int32) (p3 : Int32) {p : Program} {e : Env} {s : State} {m : MethodId} {args : Array Value} {below : List Frame} {meth : Method} {c : Code} {A : Nat → Prop} {Q : State → Prop} (C : wd_C p m c cX1_isNewLink 7 s args wsX1_isNewLink RX1 D [(cI, .int), (cD, .double)] A) : ∀ (n : Nat) (st : Int32) (E : (Unit) ⊕ (Unit)), iter (b_X1_isNewLink_19 codes p1 p2 p3) n st = some E → (∀ e1, E = .inl e1 → Wd p l e { frames := 0, cells := 0, slots := 0, locals := 0 } s m args below meth c 7 D A 0 0 Q 107 [] [] (w_X1_isNewLink x0 x1 cI cD len codes)) → (∀ e2, E = .inr e2 → Wd p l e { frames := 0, cells := 0, slots := 0, locals := 0 } s m args below meth c 7 D A 0 0 Q 99 [] [] (w_X1_isNewLink x0 x1 cI cD len codes)) → Wd p l e { frames := 0, cells := 0, slots := 0, locals := 0 } s m args below meth c 7 D A 0 0 Q 19 [(0, .ref x0), (1, .int p1), (2, .int p2), (3, .int p3), (4, .int st)] [] (w_X1_isNewLink x0 x1 cI cD len codes) := by
  intro n
  induction n with
  | zero => intro st E h; cases h
  | succ n ih =>
    intro st E h kx1 kx2
    obtain ⟨b, h, hk⟩ := iter_step h
    unfold b_X1_isNewLink_19 at h
    refine wd_iload (j := 21) C 4 dX1_isNewLink_19 rfl rfl ?_
    refine wd_iload_n (j := 22) C 1 dX1_isNewLink_21 rfl rfl rfl ?_
    refine wd_iconst (j := 23) (v := 1) C dX1_isNewLink_22 (by decide) rfl ?_
    refine wd_isub (j := 24) C dX1_isNewLink_23 rfl ?_
    refine wd_icmp_ge (j := 27) (t := 107) C dX1_isNewLink_24 (by decide) rfl (fun c1 => ?_) (fun c1 => ?_)
    · replace h := (if_pos c1).symm.trans h
      obtain rfl := Option.some.inj h
      obtain rfl := hk
      refine wd_lv (lv' := []) [] rfl ?_
      exact kx1 _ rfl
    · replace h := (if_neg c1).symm.trans h
      refine wd_aload_n (j := 28) C 0 dX1_isNewLink_27 rfl rfl rfl ?_
      refine wd_get (j := 31) (q0 := 0) (f := 0) (ci := 1) (v := .ref x1) C inX1_isNewLink_X1 kX1_isNewLink_1 rfl (by decide) rfl rfl dX1_isNewLink_28 rfl ?_
      refine wd_iload (j := 33) C 4 dX1_isNewLink_31 rfl rfl ?_
      obtain ⟨g2, h⟩ := grd_some h
      refine wd_iald (j := 34) (q0 := 1) (t0 := 0) C rfl rfl (inB_in g2) dX1_isNewLink_33 rfl ?_
      refine wd_iload_n (j := 35) C 2 dX1_isNewLink_34 rfl rfl rfl ?_
      refine wd_icmp_ne (j := 38) (t := 55) C dX1_isNewLink_35 (by decide) rfl (fun c3 => ?_) (fun c3 => ?_)
      · replace h := (if_neg c3).symm.trans h
        refine wd_iconst (j := 56) (v := 0) C dX1_isNewLink_55 (by decide) rfl ?_
        refine wd_istore (j := 58) (lv' := [(5, .int (0 : Int32)), (0, .ref x0), (1, .int p1), (2, .int p2), (3, .int p3), (4, .int st)]) C dX1_isNewLink_56 (by decide) rfl rfl ?_
        refine wd_aload_n (j := 59) C 1 dX1_isNewLink_58 rfl rfl rfl ?_
        refine wd_get (j := 62) (q0 := 0) (f := 0) (ci := 1) (v := .ref x1) C inX1_isNewLink_X1 kX1_isNewLink_1 rfl (by decide) rfl rfl dX1_isNewLink_59 rfl ?_
        refine wd_iload (j := 64) C 5 dX1_isNewLink_62 rfl rfl ?_
        obtain ⟨g4, h⟩ := grd_some h
        refine wd_iald (j := 65) (q0 := 1) (t0 := 0) C rfl rfl (inB_in g4) dX1_isNewLink_64 rfl ?_
        refine wd_iload_n (j := 66) C 4 dX1_isNewLink_65 rfl rfl rfl ?_
        refine wd_icmp_ne (j := 69) (t := 86) C dX1_isNewLink_66 (by decide) rfl (fun c5 => ?_) (fun c5 => ?_)
        · replace h := (if_neg c5).symm.trans h
          refine wd_iconst (j := 87) (v := 0) C dX1_isNewLink_86 (by decide) rfl ?_
          refine wd_istore (j := 89) (lv' := [(6, .int (0 : Int32)), (5, .int (0 : Int32)), (0, .ref x0), (1, .int p1), (2, .int p2), (3, .int p3), (4, .int st)]) C dX1_isNewLink_87 (by decide) rfl rfl ?_
          refine wd_iload (j := 91) C 1 dX1_isNewLink_89 rfl rfl ?_
          refine wd_if_ne (j := 94) (t := 99) C dX1_isNewLink_91 (by decide) rfl (fun hc => absurd hc (by decide)) (fun _ => ?_)
          refine wd_iload (j := 96) C 0 dX1_isNewLink_94 rfl rfl ?_
          refine wd_if_eq (j := 99) (t := 101) C dX1_isNewLink_96 (by decide) rfl (fun _ => ?_) (fun hc => absurd hc (by decide))
          refine wd_iinc (j := 104) (lv' := [(4, .int (st + 3)), (6, .int (0 : Int32)), (5, .int (0 : Int32)), (0, .ref x0), (1, .int p1), (2, .int p2), (3, .int p3)]) C 6 dX1_isNewLink_101 rfl rfl (by decide) rfl rfl ?_
          refine wd_goto (t := 19) C dX1_isNewLink_104 (by decide) ?_
          obtain rfl := Option.some.inj h
          refine wd_lv (lv' := [(0, .ref x0), (1, .int p1), (2, .int p2), (3, .int p3), (4, .int (st + 3))]) [3, 4, 5, 6, 0] rfl ?_
          exact ih (st + 3) E hk kx1 kx2
        · replace h := (if_pos c5).symm.trans h
          refine wd_aload_n (j := 70) C 1 dX1_isNewLink_69 rfl rfl rfl ?_
          refine wd_get (j := 73) (q0 := 0) (f := 0) (ci := 1) (v := .ref x1) C inX1_isNewLink_X1 kX1_isNewLink_1 rfl (by decide) rfl rfl dX1_isNewLink_70 rfl ?_
          refine wd_iload (j := 75) C 5 dX1_isNewLink_73 rfl rfl ?_
          refine wd_iconst (j := 76) (v := 1) C dX1_isNewLink_75 (by decide) rfl ?_
          refine wd_iadd (j := 77) C dX1_isNewLink_76 rfl ?_
          obtain ⟨g6, h⟩ := grd_some h
          refine wd_iald (j := 78) (q0 := 1) (t0 := 0) C rfl rfl (inB_in g6) dX1_isNewLink_77 rfl ?_
          refine wd_iload_n (j := 79) C 3 dX1_isNewLink_78 rfl rfl rfl ?_
          refine wd_icmp_ne (j := 82) (t := 86) C dX1_isNewLink_79 (by decide) rfl (fun c7 => ?_) (fun c7 => ?_)
          · replace h := (if_neg c7).symm.trans h
            refine wd_iconst (j := 87) (v := 0) C dX1_isNewLink_86 (by decide) rfl ?_
            refine wd_istore (j := 89) (lv' := [(6, .int (0 : Int32)), (5, .int (0 : Int32)), (0, .ref x0), (1, .int p1), (2, .int p2), (3, .int p3), (4, .int st)]) C dX1_isNewLink_87 (by decide) rfl rfl ?_
            refine wd_iload (j := 91) C 1 dX1_isNewLink_89 rfl rfl ?_
            refine wd_if_ne (j := 94) (t := 99) C dX1_isNewLink_91 (by decide) rfl (fun hc => absurd hc (by decide)) (fun _ => ?_)
            refine wd_iload (j := 96) C 0 dX1_isNewLink_94 rfl rfl ?_
            refine wd_if_eq (j := 99) (t := 101) C dX1_isNewLink_96 (by decide) rfl (fun _ => ?_) (fun hc => absurd hc (by decide))
            refine wd_iinc (j := 104) (lv' := [(4, .int (st + 3)), (6, .int (0 : Int32)), (5, .int (0 : Int32)), (0, .ref x0), (1, .int p1), (2, .int p2), (3, .int p3)]) C 6 dX1_isNewLink_101 rfl rfl (by decide) rfl rfl ?_
            refine wd_goto (t := 19) C dX1_isNewLink_104 (by decide) ?_
            obtain rfl := Option.some.inj h
            refine wd_lv (lv' := [(0, .ref x0), (1, .int p1), (2, .int p2), (3, .int p3), (4, .int (st + 3))]) [3, 4, 5, 6, 0] rfl ?_
            exact ih (st + 3) E hk kx1 kx2
          · replace h := (if_pos c7).symm.trans h
            refine wd_iconst (j := 83) (v := 1) C dX1_isNewLink_82 (by decide) rfl ?_
            refine wd_goto (t := 87) C dX1_isNewLink_83 (by decide) ?_
            refine wd_istore (j := 89) (lv' := [(6, .int (1 : Int32)), (5, .int (0 : Int32)), (0, .ref x0), (1, .int p1), (2, .int p2), (3, .int p3), (4, .int st)]) C dX1_isNewLink_87 (by decide) rfl rfl ?_
            refine wd_iload (j := 91) C 1 dX1_isNewLink_89 rfl rfl ?_
            refine wd_if_ne (j := 94) (t := 99) C dX1_isNewLink_91 (by decide) rfl (fun hc => absurd hc (by decide)) (fun _ => ?_)
            refine wd_iload (j := 96) C 0 dX1_isNewLink_94 rfl rfl ?_
            refine wd_if_eq (j := 99) (t := 101) C dX1_isNewLink_96 (by decide) rfl (fun hc => absurd hc (by decide)) (fun _ => ?_)
            obtain rfl := Option.some.inj h
            obtain rfl := hk
            refine wd_lv (lv' := []) [] rfl ?_
            exact kx2 _ rfl
      · replace h := (if_pos c3).symm.trans h
        refine wd_aload_n (j := 39) C 0 dX1_isNewLink_38 rfl rfl rfl ?_
        refine wd_get (j := 42) (q0 := 0) (f := 0) (ci := 1) (v := .ref x1) C inX1_isNewLink_X1 kX1_isNewLink_1 rfl (by decide) rfl rfl dX1_isNewLink_39 rfl ?_
        refine wd_iload (j := 44) C 4 dX1_isNewLink_42 rfl rfl ?_
        refine wd_iconst (j := 45) (v := 1) C dX1_isNewLink_44 (by decide) rfl ?_
        refine wd_iadd (j := 46) C dX1_isNewLink_45 rfl ?_
        obtain ⟨g8, h⟩ := grd_some h
        refine wd_iald (j := 47) (q0 := 1) (t0 := 0) C rfl rfl (inB_in g8) dX1_isNewLink_46 rfl ?_
        refine wd_iload_n (j := 48) C 3 dX1_isNewLink_47 rfl rfl rfl ?_
        refine wd_icmp_ne (j := 51) (t := 55) C dX1_isNewLink_48 (by decide) rfl (fun c9 => ?_) (fun c9 => ?_)
        · replace h := (if_neg c9).symm.trans h
          refine wd_iconst (j := 56) (v := 0) C dX1_isNewLink_55 (by decide) rfl ?_
          refine wd_istore (j := 58) (lv' := [(5, .int (0 : Int32)), (0, .ref x0), (1, .int p1), (2, .int p2), (3, .int p3), (4, .int st)]) C dX1_isNewLink_56 (by decide) rfl rfl ?_
          refine wd_aload_n (j := 59) C 1 dX1_isNewLink_58 rfl rfl rfl ?_
          refine wd_get (j := 62) (q0 := 0) (f := 0) (ci := 1) (v := .ref x1) C inX1_isNewLink_X1 kX1_isNewLink_1 rfl (by decide) rfl rfl dX1_isNewLink_59 rfl ?_
          refine wd_iload (j := 64) C 5 dX1_isNewLink_62 rfl rfl ?_
          obtain ⟨g10, h⟩ := grd_some h
          refine wd_iald (j := 65) (q0 := 1) (t0 := 0) C rfl rfl (inB_in g10) dX1_isNewLink_64 rfl ?_
          refine wd_iload_n (j := 66) C 4 dX1_isNewLink_65 rfl rfl rfl ?_
          refine wd_icmp_ne (j := 69) (t := 86) C dX1_isNewLink_66 (by decide) rfl (fun c11 => ?_) (fun c11 => ?_)
          · replace h := (if_neg c11).symm.trans h
            refine wd_iconst (j := 87) (v := 0) C dX1_isNewLink_86 (by decide) rfl ?_
            refine wd_istore (j := 89) (lv' := [(6, .int (0 : Int32)), (5, .int (0 : Int32)), (0, .ref x0), (1, .int p1), (2, .int p2), (3, .int p3), (4, .int st)]) C dX1_isNewLink_87 (by decide) rfl rfl ?_
            refine wd_iload (j := 91) C 1 dX1_isNewLink_89 rfl rfl ?_
            refine wd_if_ne (j := 94) (t := 99) C dX1_isNewLink_91 (by decide) rfl (fun hc => absurd hc (by decide)) (fun _ => ?_)
            refine wd_iload (j := 96) C 0 dX1_isNewLink_94 rfl rfl ?_
            refine wd_if_eq (j := 99) (t := 101) C dX1_isNewLink_96 (by decide) rfl (fun _ => ?_) (fun hc => absurd hc (by decide))
            refine wd_iinc (j := 104) (lv' := [(4, .int (st + 3)), (6, .int (0 : Int32)), (5, .int (0 : Int32)), (0, .ref x0), (1, .int p1), (2, .int p2), (3, .int p3)]) C 6 dX1_isNewLink_101 rfl rfl (by decide) rfl rfl ?_
            refine wd_goto (t := 19) C dX1_isNewLink_104 (by decide) ?_
            obtain rfl := Option.some.inj h
            refine wd_lv (lv' := [(0, .ref x0), (1, .int p1), (2, .int p2), (3, .int p3), (4, .int (st + 3))]) [3, 4, 5, 6, 0] rfl ?_
            exact ih (st + 3) E hk kx1 kx2
          · replace h := (if_pos c11).symm.trans h
            refine wd_aload_n (j := 70) C 1 dX1_isNewLink_69 rfl rfl rfl ?_
            refine wd_get (j := 73) (q0 := 0) (f := 0) (ci := 1) (v := .ref x1) C inX1_isNewLink_X1 kX1_isNewLink_1 rfl (by decide) rfl rfl dX1_isNewLink_70 rfl ?_
            refine wd_iload (j := 75) C 5 dX1_isNewLink_73 rfl rfl ?_
            refine wd_iconst (j := 76) (v := 1) C dX1_isNewLink_75 (by decide) rfl ?_
            refine wd_iadd (j := 77) C dX1_isNewLink_76 rfl ?_
            obtain ⟨g12, h⟩ := grd_some h
            refine wd_iald (j := 78) (q0 := 1) (t0 := 0) C rfl rfl (inB_in g12) dX1_isNewLink_77 rfl ?_
            refine wd_iload_n (j := 79) C 3 dX1_isNewLink_78 rfl rfl rfl ?_
            refine wd_icmp_ne (j := 82) (t := 86) C dX1_isNewLink_79 (by decide) rfl (fun c13 => ?_) (fun c13 => ?_)
            · replace h := (if_neg c13).symm.trans h
              refine wd_iconst (j := 87) (v := 0) C dX1_isNewLink_86 (by decide) rfl ?_
              refine wd_istore (j := 89) (lv' := [(6, .int (0 : Int32)), (5, .int (0 : Int32)), (0, .ref x0), (1, .int p1), (2, .int p2), (3, .int p3), (4, .int st)]) C dX1_isNewLink_87 (by decide) rfl rfl ?_
              refine wd_iload (j := 91) C 1 dX1_isNewLink_89 rfl rfl ?_
              refine wd_if_ne (j := 94) (t := 99) C dX1_isNewLink_91 (by decide) rfl (fun hc => absurd hc (by decide)) (fun _ => ?_)
              refine wd_iload (j := 96) C 0 dX1_isNewLink_94 rfl rfl ?_
              refine wd_if_eq (j := 99) (t := 101) C dX1_isNewLink_96 (by decide) rfl (fun _ => ?_) (fun hc => absurd hc (by decide))
              refine wd_iinc (j := 104) (lv' := [(4, .int (st + 3)), (6, .int (0 : Int32)), (5, .int (0 : Int32)), (0, .ref x0), (1, .int p1), (2, .int p2), (3, .int p3)]) C 6 dX1_isNewLink_101 rfl rfl (by decide) rfl rfl ?_
              refine wd_goto (t := 19) C dX1_isNewLink_104 (by decide) ?_
              obtain rfl := Option.some.inj h
              refine wd_lv (lv' := [(0, .ref x0), (1, .int p1), (2, .int p2), (3, .int p3), (4, .int (st + 3))]) [3, 4, 5, 6, 0] rfl ?_
              exact ih (st + 3) E hk kx1 kx2
            · replace h := (if_pos c13).symm.trans h
              refine wd_iconst (j := 83) (v := 1) C dX1_isNewLink_82 (by decide) rfl ?_
              refine wd_goto (t := 87) C dX1_isNewLink_83 (by decide) ?_
              refine wd_istore (j := 89) (lv' := [(6, .int (1 : Int32)), (5, .int (0 : Int32)), (0, .ref x0), (1, .int p1), (2, .int p2), (3, .int p3), (4, .int st)]) C dX1_isNewLink_87 (by decide) rfl rfl ?_
              refine wd_iload (j := 91) C 1 dX1_isNewLink_89 rfl rfl ?_
              refine wd_if_ne (j := 94) (t := 99) C dX1_isNewLink_91 (by decide) rfl (fun hc => absurd hc (by decide)) (fun _ => ?_)
              refine wd_iload (j := 96) C 0 dX1_isNewLink_94 rfl rfl ?_
              refine wd_if_eq (j := 99) (t := 101) C dX1_isNewLink_96 (by decide) rfl (fun hc => absurd hc (by decide)) (fun _ => ?_)
              obtain rfl := Option.some.inj h
              obtain rfl := hk
              refine wd_lv (lv' := []) [] rfl ?_
              exact kx2 _ rfl
        · replace h := (if_pos c9).symm.trans h
          refine wd_iconst (j := 52) (v := 1) C dX1_isNewLink_51 (by decide) rfl ?_
          refine wd_goto (t := 56) C dX1_isNewLink_52 (by decide) ?_
          refine wd_istore (j := 58) (lv' := [(5, .int (1 : Int32)), (0, .ref x0), (1, .int p1), (2, .int p2), (3, .int p3), (4, .int st)]) C dX1_isNewLink_56 (by decide) rfl rfl ?_
          refine wd_aload_n (j := 59) C 1 dX1_isNewLink_58 rfl rfl rfl ?_
          refine wd_get (j := 62) (q0 := 0) (f := 0) (ci := 1) (v := .ref x1) C inX1_isNewLink_X1 kX1_isNewLink_1 rfl (by decide) rfl rfl dX1_isNewLink_59 rfl ?_
          refine wd_iload (j := 64) C 5 dX1_isNewLink_62 rfl rfl ?_
          obtain ⟨g14, h⟩ := grd_some h
          refine wd_iald (j := 65) (q0 := 1) (t0 := 0) C rfl rfl (inB_in g14) dX1_isNewLink_64 rfl ?_
          refine wd_iload_n (j := 66) C 4 dX1_isNewLink_65 rfl rfl rfl ?_
          refine wd_icmp_ne (j := 69) (t := 86) C dX1_isNewLink_66 (by decide) rfl (fun c15 => ?_) (fun c15 => ?_)
          · replace h := (if_neg c15).symm.trans h
            refine wd_iconst (j := 87) (v := 0) C dX1_isNewLink_86 (by decide) rfl ?_
            refine wd_istore (j := 89) (lv' := [(6, .int (0 : Int32)), (5, .int (1 : Int32)), (0, .ref x0), (1, .int p1), (2, .int p2), (3, .int p3), (4, .int st)]) C dX1_isNewLink_87 (by decide) rfl rfl ?_
            refine wd_iload (j := 91) C 1 dX1_isNewLink_89 rfl rfl ?_
            refine wd_if_ne (j := 94) (t := 99) C dX1_isNewLink_91 (by decide) rfl (fun _ => ?_) (fun hc => absurd hc (by decide))
            obtain rfl := Option.some.inj h
            obtain rfl := hk
            refine wd_lv (lv' := []) [] rfl ?_
            exact kx2 _ rfl
          · replace h := (if_pos c15).symm.trans h
            refine wd_aload_n (j := 70) C 1 dX1_isNewLink_69 rfl rfl rfl ?_
            refine wd_get (j := 73) (q0 := 0) (f := 0) (ci := 1) (v := .ref x1) C inX1_isNewLink_X1 kX1_isNewLink_1 rfl (by decide) rfl rfl dX1_isNewLink_70 rfl ?_
            refine wd_iload (j := 75) C 5 dX1_isNewLink_73 rfl rfl ?_
            refine wd_iconst (j := 76) (v := 1) C dX1_isNewLink_75 (by decide) rfl ?_
            refine wd_iadd (j := 77) C dX1_isNewLink_76 rfl ?_
            obtain ⟨g16, h⟩ := grd_some h
            refine wd_iald (j := 78) (q0 := 1) (t0 := 0) C rfl rfl (inB_in g16) dX1_isNewLink_77 rfl ?_
            refine wd_iload_n (j := 79) C 3 dX1_isNewLink_78 rfl rfl rfl ?_
            refine wd_icmp_ne (j := 82) (t := 86) C dX1_isNewLink_79 (by decide) rfl (fun c17 => ?_) (fun c17 => ?_)
            · replace h := (if_neg c17).symm.trans h
              refine wd_iconst (j := 87) (v := 0) C dX1_isNewLink_86 (by decide) rfl ?_
              refine wd_istore (j := 89) (lv' := [(6, .int (0 : Int32)), (5, .int (1 : Int32)), (0, .ref x0), (1, .int p1), (2, .int p2), (3, .int p3), (4, .int st)]) C dX1_isNewLink_87 (by decide) rfl rfl ?_
              refine wd_iload (j := 91) C 1 dX1_isNewLink_89 rfl rfl ?_
              refine wd_if_ne (j := 94) (t := 99) C dX1_isNewLink_91 (by decide) rfl (fun _ => ?_) (fun hc => absurd hc (by decide))
              obtain rfl := Option.some.inj h
              obtain rfl := hk
              refine wd_lv (lv' := []) [] rfl ?_
              exact kx2 _ rfl
            · replace h := (if_pos c17).symm.trans h
              refine wd_iconst (j := 83) (v := 1) C dX1_isNewLink_82 (by decide) rfl ?_
              refine wd_goto (t := 87) C dX1_isNewLink_83 (by decide) ?_
              refine wd_istore (j := 89) (lv' := [(6, .int (1 : Int32)), (5, .int (1 : Int32)), (0, .ref x0), (1, .int p1), (2, .int p2), (3, .int p3), (4, .int st)]) C dX1_isNewLink_87 (by decide) rfl rfl ?_
              refine wd_iload (j := 91) C 1 dX1_isNewLink_89 rfl rfl ?_
              refine wd_if_ne (j := 94) (t := 99) C dX1_isNewLink_91 (by decide) rfl (fun _ => ?_) (fun hc => absurd hc (by decide))
              obtain rfl := Option.some.inj h
              obtain rfl := hk
              refine wd_lv (lv' := []) [] rfl ?_
              exact kx2 _ rfl
set_option maxRecDepth 100000 in
set_option maxHeartbeats 4000000 in
theorem c_X1_isNewLink (l : Launch) (D : va_G) (cI cD : ClassId) (x0 x1 : Nat) (N : Nat) (len : Int32) (codes : Nat → Int32) (p1 : Int32) (u : Int32) (h : f_X1_isNewLink N codes p1 = some u) : MetI l yX1_isNewLink wsX1_isNewLink { frames := 0, cells := 0, slots := 0, locals := 0 } D [(cI, .int), (cD, .double)] [.ref x0, .int p1] (w_X1_isNewLink x0 x1 cI cD len codes) u (w_X1_isNewLink x0 x1 cI cD len codes) := by
  refine MetI.of (own := RX1) (cc := cX1_isNewLink) (nL := 7) (ret := (some .boolean)) (by decide) rfl rfl (Nat.le_of_ble_eq_true rfl) rfl ?_
  intro p e s m args below meth c A hA C hr hlk
  unfold f_X1_isNewLink at h
  refine wd_aload_n (j := 1) C 0 dX1_isNewLink_0 rfl rfl rfl ?_
  refine wd_get (j := 4) (q0 := 0) (f := 0) (ci := 1) (v := .ref x1) C inX1_isNewLink_X1 kX1_isNewLink_1 rfl (by decide) rfl rfl dX1_isNewLink_1 rfl ?_
  refine wd_iload_n (j := 5) C 1 dX1_isNewLink_4 rfl rfl rfl ?_
  refine wd_iconst (j := 6) (v := 1) C dX1_isNewLink_5 (by decide) rfl ?_
  refine wd_isub (j := 7) C dX1_isNewLink_6 rfl ?_
  obtain ⟨g18, h⟩ := grd_some h
  refine wd_iald (j := 8) (q0 := 1) (t0 := 0) C rfl rfl (inB_in g18) dX1_isNewLink_7 rfl ?_
  refine wd_istore_n (j := 9) (lv' := [(2, .int (codes (p1 - (1 : Int32)).toNatClampNeg)), (0, .ref x0), (1, .int p1)]) C dX1_isNewLink_8 rfl (by decide) rfl rfl ?_
  refine wd_aload_n (j := 10) C 1 dX1_isNewLink_9 rfl rfl rfl ?_
  refine wd_get (j := 13) (q0 := 0) (f := 0) (ci := 1) (v := .ref x1) C inX1_isNewLink_X1 kX1_isNewLink_1 rfl (by decide) rfl rfl dX1_isNewLink_10 rfl ?_
  refine wd_iload_n (j := 14) C 2 dX1_isNewLink_13 rfl rfl rfl ?_
  obtain ⟨g19, h⟩ := grd_some h
  refine wd_iald (j := 15) (q0 := 1) (t0 := 0) C rfl rfl (inB_in g19) dX1_isNewLink_14 rfl ?_
  refine wd_istore_n (j := 16) (lv' := [(3, .int (codes p1.toNatClampNeg)), (2, .int (codes (p1 - (1 : Int32)).toNatClampNeg)), (0, .ref x0), (1, .int p1)]) C dX1_isNewLink_15 rfl (by decide) rfl rfl ?_
  refine wd_iconst (j := 17) (v := 2) C dX1_isNewLink_16 (by decide) rfl ?_
  refine wd_istore (j := 19) (lv' := [(4, .int (2 : Int32)), (3, .int (codes p1.toNatClampNeg)), (2, .int (codes (p1 - (1 : Int32)).toNatClampNeg)), (0, .ref x0), (1, .int p1)]) C dX1_isNewLink_17 (by decide) rfl rfl ?_
  refine wd_lv (lv' := [(0, .ref x0), (1, .int p1), (2, .int (codes (p1 - (1 : Int32)).toNatClampNeg)), (3, .int (codes p1.toNatClampNeg)), (4, .int (2 : Int32))]) [3, 4, 2, 1, 0] rfl ?_
  obtain ⟨u20, hu20, h⟩ := bnd_some h
  refine lw_X1_isNewLink_19 l D cI cD x0 x1 N len codes p1 (codes (p1 - (1 : Int32)).toNatClampNeg) (codes p1.toNatClampNeg) C N (2 : Int32) u20 hu20 (fun u20a he => ?_) (fun u20b he => ?_)
  · subst he
    refine wd_iconst (j := 108) (v := 1) C dX1_isNewLink_107 (by decide) rfl ?_
    obtain rfl := Option.some.inj h
    exact wd_iret C hA hr hlk rfl rfl rfl dX1_isNewLink_108
  · subst he
    refine wd_iconst (j := 100) (v := 0) C dX1_isNewLink_99 (by decide) rfl ?_
    obtain rfl := Option.some.inj h
    exact wd_iret C hA hr hlk rfl rfl rfl dX1_isNewLink_100
abbrev w_X1_keepsRules (x0 x1 : Nat) (cI cD : ClassId) (len : Int32) (codes : Nat → Int32) : va_W := [(x0, .inr (1, [.ref x1, .int len])), (x1, .inl (cI, 40, .inl codes))]
theorem kX1_keepsRules_1 : Cond.fieldLink "RotorRouter$InputText" 11 "RotorRouter$InputText" "codes" "[I" ∈ wsX1_keepsRules := List.mem_of_getElem? (i := 1) rfl
theorem inX1_keepsRules_X1 : ∀ w ∈ wsX10, w ∈ wsX1_keepsRules := fun _ h => List.mem_cons_of_mem _ (List.mem_append_right _ h)
set_option maxRecDepth 100000 in
set_option maxHeartbeats 4000000 in
theorem c_X1_keepsRules (l : Launch) (D : va_G) (cI cD : ClassId) (x0 x1 : Nat) (N : Nat) (len : Int32) (codes : Nat → Int32) (p1 : Int32) (u : Int32) (h : f_X1_keepsRules N codes p1 = some u) : MetI l yX1_keepsRules wsX1_keepsRules { frames := 1, cells := 0, slots := 0, locals := 26 } D [(cI, .int), (cD, .double)] [.ref x0, .int p1] (w_X1_keepsRules x0 x1 cI cD len codes) u (w_X1_keepsRules x0 x1 cI cD len codes) := by
  refine MetI.of (own := RX1) (cc := cX1_keepsRules) (nL := 4) (ret := (some .boolean)) (by decide) rfl rfl (Nat.le_of_ble_eq_true rfl) rfl ?_
  intro p e s m args below meth c A hA C hr hlk
  unfold f_X1_keepsRules at h
  refine wd_aload_n (j := 1) C 0 dX1_keepsRules_0 rfl rfl rfl ?_
  refine wd_get (j := 4) (q0 := 0) (f := 0) (ci := 1) (v := .ref x1) C inX1_keepsRules_X1 kX1_keepsRules_1 rfl (by decide) rfl rfl dX1_keepsRules_1 rfl ?_
  refine wd_iload_n (j := 5) C 1 dX1_keepsRules_4 rfl rfl rfl ?_
  obtain ⟨g1, h⟩ := grd_some h
  refine wd_iald (j := 6) (q0 := 1) (t0 := 0) C rfl rfl (inB_in g1) dX1_keepsRules_5 rfl ?_
  refine wd_istore_n (j := 7) (lv' := [(2, .int (codes p1.toNatClampNeg)), (0, .ref x0), (1, .int p1)]) C dX1_keepsRules_6 rfl (by decide) rfl rfl ?_
  refine wd_iload_n (j := 8) C 2 dX1_keepsRules_7 rfl rfl rfl ?_
  refine wd_if_ne (j := 11) (t := 29) C dX1_keepsRules_8 (by decide) rfl (fun c2 => ?_) (fun c2 => ?_)
  · replace h := (if_neg c2).symm.trans h
    refine wd_iload_n (j := 30) C 2 dX1_keepsRules_29 rfl rfl rfl ?_
    refine wd_iconst (j := 31) (v := 1) C dX1_keepsRules_30 (by decide) rfl ?_
    refine wd_icmp_ne (j := 34) (t := 46) C dX1_keepsRules_31 (by decide) rfl (fun c3 => ?_) (fun c3 => ?_)
    · replace h := (if_neg c3).symm.trans h
      refine wd_iload_n (j := 47) C 2 dX1_keepsRules_46 rfl rfl rfl ?_
      obtain ⟨u4, hu4, h⟩ := bnd_some h
      refine wd_callSi (j := 50) (As := [.int p1]) (rest := []) (ws' := (w_X1_keepsRules x0 x1 cI cD len codes)) C (c_X1_placeInGroup l D cI cD p1 u4 hu4) (va_cwS 1 C.1.2.2.2.2 gX1_keepsRules_X1_placeInGroup rfl rfl rfl (by decide +kernel) ⟨Nat.le_of_ble_eq_true rfl, Nat.le_of_ble_eq_true rfl⟩) [] [0, 1] rfl rfl rfl rfl (by decide) [0, 1] rfl rfl rfl (Nat.le_of_ble_eq_true rfl) (Nat.le_of_ble_eq_true rfl) (Nat.le_of_ble_eq_true rfl) dX1_keepsRules_47 rfl ?_
      refine wd_istore_n (j := 51) (lv' := [(3, .int u4), (2, .int (codes p1.toNatClampNeg)), (0, .ref x0), (1, .int p1)]) C dX1_keepsRules_50 rfl (by decide) rfl rfl ?_
      refine wd_iload_n (j := 52) C 0 dX1_keepsRules_51 rfl rfl rfl ?_
      refine wd_if_ne (j := 55) (t := 61) C dX1_keepsRules_52 (by decide) rfl (fun c5 => ?_) (fun c5 => ?_)
      · replace h := (if_neg c5).symm.trans h
        refine wd_iload_n (j := 62) C 0 dX1_keepsRules_61 rfl rfl rfl ?_
        refine wd_iconst (j := 63) (v := 1) C dX1_keepsRules_62 (by decide) rfl ?_
        refine wd_icmp_ne (j := 66) (t := 100) C dX1_keepsRules_63 (by decide) rfl (fun c6 => ?_) (fun c6 => ?_)
        · replace h := (if_neg c6).symm.trans h
          refine wd_iload_n (j := 101) C 1 dX1_keepsRules_100 rfl rfl rfl ?_
          refine wd_bipush (j := 103) (v := 44) C dX1_keepsRules_101 (by decide) rfl ?_
          refine wd_icmp_ne (j := 106) (t := 116) C dX1_keepsRules_103 (by decide) rfl (fun c7 => ?_) (fun c7 => ?_)
          · replace h := (if_neg c7).symm.trans h
            refine wd_iconst (j := 117) (v := 0) C dX1_keepsRules_116 (by decide) rfl ?_
            obtain rfl := Option.some.inj h
            exact wd_iret C hA hr hlk rfl rfl rfl dX1_keepsRules_117
          · replace h := (if_pos c7).symm.trans h
            refine wd_iload_n (j := 107) C 3 dX1_keepsRules_106 rfl rfl rfl ?_
            refine wd_bipush (j := 109) (v := 34) C dX1_keepsRules_107 (by decide) rfl ?_
            refine wd_icmp_gt (j := 112) (t := 116) C dX1_keepsRules_109 (by decide) rfl (fun c8 => ?_) (fun c8 => ?_)
            · replace h := (if_pos c8).symm.trans h
              refine wd_iconst (j := 117) (v := 0) C dX1_keepsRules_116 (by decide) rfl ?_
              obtain rfl := Option.some.inj h
              exact wd_iret C hA hr hlk rfl rfl rfl dX1_keepsRules_117
            · replace h := (if_neg c8).symm.trans h
              refine wd_iconst (j := 113) (v := 1) C dX1_keepsRules_112 (by decide) rfl ?_
              refine wd_goto (t := 117) C dX1_keepsRules_113 (by decide) ?_
              obtain rfl := Option.some.inj h
              exact wd_iret C hA hr hlk rfl rfl rfl dX1_keepsRules_117
        · replace h := (if_pos c6).symm.trans h
          refine wd_aload_n (j := 67) C 2 dX1_keepsRules_66 rfl rfl rfl ?_
          refine wd_iload_n (j := 68) C 1 dX1_keepsRules_67 rfl rfl rfl ?_
          obtain ⟨u9, hu9, h⟩ := bnd_some h
          refine wd_callVi (j := 71) (q0 := 0) (ci := 1) (As := [.int (codes p1.toNatClampNeg)]) (rest := []) (ws' := (w_X1_keepsRules x0 x1 cI cD len codes)) C (c_X1_isNode l D cI cD x0 x1 len codes (codes p1.toNatClampNeg) u9 hu9) (cwV 1 C.1.2.2.2.2 gX1_keepsRules_X1_isNode rfl rfl rfl (by decide +kernel) ⟨Nat.le_of_ble_eq_true rfl, Nat.le_of_ble_eq_true rfl⟩) rfl rfl [0, 1] [] rfl rfl rfl rfl (by decide) [0, 1] rfl rfl rfl (Nat.le_of_ble_eq_true rfl) (Nat.le_of_ble_eq_true rfl) (Nat.le_of_ble_eq_true rfl) dX1_keepsRules_68 rfl ?_
          refine wd_if_eq (j := 74) (t := 98) C dX1_keepsRules_71 (by decide) rfl (fun c10 => ?_) (fun c10 => ?_)
          · replace h := (if_pos c10).symm.trans h
            refine wd_iconst (j := 99) (v := 0) C dX1_keepsRules_98 (by decide) rfl ?_
            obtain rfl := Option.some.inj h
            exact wd_iret C hA hr hlk rfl rfl rfl dX1_keepsRules_99
          · replace h := (if_neg c10).symm.trans h
            refine wd_iload_n (j := 75) C 1 dX1_keepsRules_74 rfl rfl rfl ?_
            refine wd_aload_n (j := 76) C 2 dX1_keepsRules_75 rfl rfl rfl ?_
            refine wd_get (j := 79) (q0 := 0) (f := 0) (ci := 1) (v := .ref x1) C inX1_keepsRules_X1 kX1_keepsRules_1 rfl (by decide) rfl rfl dX1_keepsRules_76 rfl ?_
            refine wd_iload_n (j := 80) C 3 dX1_keepsRules_79 rfl rfl rfl ?_
            refine wd_iconst (j := 81) (v := 1) C dX1_keepsRules_80 (by decide) rfl ?_
            refine wd_isub (j := 82) C dX1_keepsRules_81 rfl ?_
            obtain ⟨g11, h⟩ := grd_some h
            refine wd_iald (j := 83) (q0 := 1) (t0 := 0) C rfl rfl (inB_in g11) dX1_keepsRules_82 rfl ?_
            refine wd_icmp_eq (j := 86) (t := 98) C dX1_keepsRules_83 (by decide) rfl (fun c12 => ?_) (fun c12 => ?_)
            · replace h := (if_pos c12).symm.trans h
              refine wd_iconst (j := 99) (v := 0) C dX1_keepsRules_98 (by decide) rfl ?_
              obtain rfl := Option.some.inj h
              exact wd_iret C hA hr hlk rfl rfl rfl dX1_keepsRules_99
            · replace h := (if_neg c12).symm.trans h
              refine wd_aload_n (j := 87) C 2 dX1_keepsRules_86 rfl rfl rfl ?_
              refine wd_iload_n (j := 88) C 3 dX1_keepsRules_87 rfl rfl rfl ?_
              obtain ⟨u13, hu13, h⟩ := bnd_some h
              refine wd_callVi (j := 91) (q0 := 0) (ci := 1) (As := [.int p1]) (rest := []) (ws' := (w_X1_keepsRules x0 x1 cI cD len codes)) C (c_X1_isNewLink l D cI cD x0 x1 N len codes p1 u13 hu13) (cwV 1 C.1.2.2.2.2 gX1_keepsRules_X1_isNewLink rfl rfl rfl (by decide +kernel) ⟨Nat.le_of_ble_eq_true rfl, Nat.le_of_ble_eq_true rfl⟩) rfl rfl [0, 1] [] rfl rfl rfl rfl (by decide) [0, 1] rfl rfl rfl (Nat.le_of_ble_eq_true rfl) (Nat.le_of_ble_eq_true rfl) (Nat.le_of_ble_eq_true rfl) dX1_keepsRules_88 rfl ?_
              refine wd_if_eq (j := 94) (t := 98) C dX1_keepsRules_91 (by decide) rfl (fun c14 => ?_) (fun c14 => ?_)
              · replace h := (if_pos c14).symm.trans h
                refine wd_iconst (j := 99) (v := 0) C dX1_keepsRules_98 (by decide) rfl ?_
                obtain rfl := Option.some.inj h
                exact wd_iret C hA hr hlk rfl rfl rfl dX1_keepsRules_99
              · replace h := (if_neg c14).symm.trans h
                refine wd_iconst (j := 95) (v := 1) C dX1_keepsRules_94 (by decide) rfl ?_
                refine wd_goto (t := 99) C dX1_keepsRules_95 (by decide) ?_
                obtain rfl := Option.some.inj h
                exact wd_iret C hA hr hlk rfl rfl rfl dX1_keepsRules_99
      · replace h := (if_pos c5).symm.trans h
        refine wd_aload_n (j := 56) C 2 dX1_keepsRules_55 rfl rfl rfl ?_
        refine wd_iload_n (j := 57) C 1 dX1_keepsRules_56 rfl rfl rfl ?_
        obtain ⟨u15, hu15, h⟩ := bnd_some h
        refine wd_callVi (j := 60) (q0 := 0) (ci := 1) (As := [.int (codes p1.toNatClampNeg)]) (rest := []) (ws' := (w_X1_keepsRules x0 x1 cI cD len codes)) C (c_X1_isNode l D cI cD x0 x1 len codes (codes p1.toNatClampNeg) u15 hu15) (cwV 1 C.1.2.2.2.2 gX1_keepsRules_X1_isNode rfl rfl rfl (by decide +kernel) ⟨Nat.le_of_ble_eq_true rfl, Nat.le_of_ble_eq_true rfl⟩) rfl rfl [0, 1] [] rfl rfl rfl rfl (by decide) [0, 1] rfl rfl rfl (Nat.le_of_ble_eq_true rfl) (Nat.le_of_ble_eq_true rfl) (Nat.le_of_ble_eq_true rfl) dX1_keepsRules_57 rfl ?_
        obtain ⟨g16, h⟩ := grd_some h
        obtain rfl := Option.some.inj h
        exact wd_iret C hA hr hlk (z01_in g16) rfl rfl dX1_keepsRules_60
    · replace h := (if_pos c3).symm.trans h
      refine wd_iload_n (j := 35) C 0 dX1_keepsRules_34 rfl rfl rfl ?_
      refine wd_bipush (j := 37) (v := 58) C dX1_keepsRules_35 (by decide) rfl ?_
      refine wd_icmp_ne (j := 40) (t := 44) C dX1_keepsRules_37 (by decide) rfl (fun c17 => ?_) (fun c17 => ?_)
      · replace h := (if_neg c17).symm.trans h
        refine wd_iconst (j := 45) (v := 0) C dX1_keepsRules_44 (by decide) rfl ?_
        obtain rfl := Option.some.inj h
        exact wd_iret C hA hr hlk rfl rfl rfl dX1_keepsRules_45
      · replace h := (if_pos c17).symm.trans h
        refine wd_iconst (j := 41) (v := 1) C dX1_keepsRules_40 (by decide) rfl ?_
        refine wd_goto (t := 45) C dX1_keepsRules_41 (by decide) ?_
        obtain rfl := Option.some.inj h
        exact wd_iret C hA hr hlk rfl rfl rfl dX1_keepsRules_45
  · replace h := (if_pos c2).symm.trans h
    refine wd_iload_n (j := 12) C 0 dX1_keepsRules_11 rfl rfl rfl ?_
    refine wd_bipush (j := 14) (v := 50) C dX1_keepsRules_12 (by decide) rfl ?_
    refine wd_icmp_lt (j := 17) (t := 27) C dX1_keepsRules_14 (by decide) rfl (fun c18 => ?_) (fun c18 => ?_)
    · replace h := (if_pos c18).symm.trans h
      refine wd_iconst (j := 28) (v := 0) C dX1_keepsRules_27 (by decide) rfl ?_
      obtain rfl := Option.some.inj h
      exact wd_iret C hA hr hlk rfl rfl rfl dX1_keepsRules_28
    · replace h := (if_neg c18).symm.trans h
      refine wd_iload_n (j := 18) C 0 dX1_keepsRules_17 rfl rfl rfl ?_
      refine wd_bipush (j := 20) (v := 56) C dX1_keepsRules_18 (by decide) rfl ?_
      refine wd_icmp_gt (j := 23) (t := 27) C dX1_keepsRules_20 (by decide) rfl (fun c19 => ?_) (fun c19 => ?_)
      · replace h := (if_pos c19).symm.trans h
        refine wd_iconst (j := 28) (v := 0) C dX1_keepsRules_27 (by decide) rfl ?_
        obtain rfl := Option.some.inj h
        exact wd_iret C hA hr hlk rfl rfl rfl dX1_keepsRules_28
      · replace h := (if_neg c19).symm.trans h
        refine wd_iconst (j := 24) (v := 1) C dX1_keepsRules_23 (by decide) rfl ?_
        refine wd_goto (t := 28) C dX1_keepsRules_24 (by decide) ?_
        obtain rfl := Option.some.inj h
        exact wd_iret C hA hr hlk rfl rfl rfl dX1_keepsRules_28
abbrev w_X1_firstBrokenIndex (x0 x1 : Nat) (cI cD : ClassId) (len : Int32) (codes : Nat → Int32) : va_W := [(x0, .inr (1, [.ref x1, .int len])), (x1, .inl (cI, 40, .inl codes))]
theorem kX1_firstBrokenIndex_1 : Cond.fieldLink "RotorRouter$InputText" 15 "RotorRouter$InputText" "length" "I" ∈ wsX1_firstBrokenIndex := List.mem_of_getElem? (i := 1) rfl
theorem inX1_firstBrokenIndex_X1 : ∀ w ∈ wsX10, w ∈ wsX1_firstBrokenIndex := fun _ h => List.mem_cons_of_mem _ (List.mem_append_right _ h)
set_option maxRecDepth 100000 in
set_option maxHeartbeats 4000000 in
theorem lw_X1_firstBrokenIndex_2 (l : Launch) (D : va_G) (cI cD : ClassId) (x0 x1 : Nat) (N : Nat) (len : Int32) (codes : Nat → Int32)  {p : Program} {e : Env} {s : State} {m : MethodId} {args : Array Value} {below : List Frame} {meth : Method} {c : Code} {A : Nat → Prop} {Q : State → Prop} (C : wd_C p m c cX1_firstBrokenIndex 2 s args wsX1_firstBrokenIndex RX1 D [(cI, .int), (cD, .double)] A) : ∀ (n : Nat) (st : Int32) (E : Int32), iter (b_X1_firstBrokenIndex_2 N len codes) n st = some E → (Wd p l e { frames := 2, cells := 0, slots := 0, locals := 49 } s m args below meth c 2 D A 0 0 Q 24 [(1, .int E)] [] (w_X1_firstBrokenIndex x0 x1 cI cD len codes)) → Wd p l e { frames := 2, cells := 0, slots := 0, locals := 49 } s m args below meth c 2 D A 0 0 Q 2 [(0, .ref x0), (1, .int st)] [] (w_X1_firstBrokenIndex x0 x1 cI cD len codes) := by
  intro n
  induction n with
  | zero => intro st E h; cases h
  | succ n ih =>
    intro st E h kx
    obtain ⟨b, h, hk⟩ := iter_step h
    unfold b_X1_firstBrokenIndex_2 at h
    refine wd_iload_n (j := 3) C 1 dX1_firstBrokenIndex_2 rfl rfl rfl ?_
    refine wd_aload_n (j := 4) C 0 dX1_firstBrokenIndex_3 rfl rfl rfl ?_
    refine wd_get (j := 7) (q0 := 0) (f := 1) (ci := 1) (v := .int len) C inX1_firstBrokenIndex_X1 kX1_firstBrokenIndex_1 rfl (by decide) rfl rfl dX1_firstBrokenIndex_4 rfl ?_
    refine wd_icmp_ge (j := 10) (t := 24) C dX1_firstBrokenIndex_7 (by decide) rfl (fun c1 => ?_) (fun c1 => ?_)
    · replace h := (if_pos c1).symm.trans h
      obtain rfl := Option.some.inj h
      obtain rfl := hk
      refine wd_lv (lv' := [(1, .int st)]) [1] rfl ?_
      exact kx
    · replace h := (if_neg c1).symm.trans h
      refine wd_aload_n (j := 11) C 0 dX1_firstBrokenIndex_10 rfl rfl rfl ?_
      refine wd_iload_n (j := 12) C 1 dX1_firstBrokenIndex_11 rfl rfl rfl ?_
      obtain ⟨u2, hu2, h⟩ := bnd_some h
      refine wd_callVi (j := 15) (q0 := 0) (ci := 1) (As := [.int st]) (rest := []) (ws' := (w_X1_firstBrokenIndex x0 x1 cI cD len codes)) C (c_X1_keepsRules l D cI cD x0 x1 N len codes st u2 hu2) (cwV 1 C.1.2.2.2.2 gX1_firstBrokenIndex_X1_keepsRules rfl rfl rfl (by decide +kernel) ⟨Nat.le_of_ble_eq_true rfl, Nat.le_of_ble_eq_true rfl⟩) rfl rfl [0, 1] [] rfl rfl rfl rfl (by decide) [0, 1] rfl rfl rfl (Nat.le_of_ble_eq_true rfl) (Nat.le_of_ble_eq_true rfl) (Nat.le_of_ble_eq_true rfl) dX1_firstBrokenIndex_12 rfl ?_
      refine wd_if_eq (j := 18) (t := 24) C dX1_firstBrokenIndex_15 (by decide) rfl (fun c3 => ?_) (fun c3 => ?_)
      · replace h := (if_pos c3).symm.trans h
        obtain rfl := Option.some.inj h
        obtain rfl := hk
        refine wd_lv (lv' := [(1, .int st)]) [1] rfl ?_
        exact kx
      · replace h := (if_neg c3).symm.trans h
        refine wd_iinc (j := 21) (lv' := [(1, .int (st + 1)), (0, .ref x0)]) C 1 dX1_firstBrokenIndex_18 rfl rfl (by decide) rfl rfl ?_
        refine wd_goto (t := 2) C dX1_firstBrokenIndex_21 (by decide) ?_
        obtain rfl := Option.some.inj h
        refine wd_lv (lv' := [(0, .ref x0), (1, .int (st + 1))]) [1, 0] rfl ?_
        exact ih (st + 1) E hk kx
set_option maxRecDepth 100000 in
set_option maxHeartbeats 4000000 in
theorem c_X1_firstBrokenIndex (l : Launch) (D : va_G) (cI cD : ClassId) (x0 x1 : Nat) (N : Nat) (len : Int32) (codes : Nat → Int32)  (u : Int32) (h : f_X1_firstBrokenIndex N len codes = some u) : MetI l yX1_firstBrokenIndex wsX1_firstBrokenIndex { frames := 2, cells := 0, slots := 0, locals := 49 } D [(cI, .int), (cD, .double)] [.ref x0] (w_X1_firstBrokenIndex x0 x1 cI cD len codes) u (w_X1_firstBrokenIndex x0 x1 cI cD len codes) := by
  refine MetI.of (own := RX1) (cc := cX1_firstBrokenIndex) (nL := 2) (ret := (some .int)) (by decide) rfl rfl (Nat.le_of_ble_eq_true rfl) rfl ?_
  intro p e s m args below meth c A hA C hr hlk
  unfold f_X1_firstBrokenIndex at h
  refine wd_iconst (j := 1) (v := 0) C dX1_firstBrokenIndex_0 (by decide) rfl ?_
  refine wd_istore_n (j := 2) (lv' := [(1, .int (0 : Int32)), (0, .ref x0)]) C dX1_firstBrokenIndex_1 rfl (by decide) rfl rfl ?_
  refine wd_lv (lv' := [(0, .ref x0), (1, .int (0 : Int32))]) [1, 0] rfl ?_
  obtain ⟨u4, hu4, h⟩ := bnd_some h
  refine lw_X1_firstBrokenIndex_2 l D cI cD x0 x1 N len codes C N (0 : Int32) u4 hu4 ?_
  refine wd_iload_n (j := 25) C 0 dX1_firstBrokenIndex_24 rfl rfl rfl ?_
  obtain rfl := Option.some.inj h
  exact wd_iret C hA hr hlk rfl rfl rfl dX1_firstBrokenIndex_25
abbrev w_X1_isComplete (x0 x1 : Nat) (cI cD : ClassId) (len : Int32) (codes : Nat → Int32) : va_W := [(x0, .inr (1, [.ref x1, .int len])), (x1, .inl (cI, 40, .inl codes))]
theorem kX1_isComplete_1 : Cond.fieldLink "RotorRouter$InputText" 15 "RotorRouter$InputText" "length" "I" ∈ wsX1_isComplete := List.mem_of_getElem? (i := 1) rfl
theorem inX1_isComplete_X1 : ∀ w ∈ wsX10, w ∈ wsX1_isComplete := fun _ h => List.mem_cons_of_mem _ (List.mem_append_right _ h)
set_option maxRecDepth 100000 in
set_option maxHeartbeats 4000000 in
theorem c_X1_isComplete (l : Launch) (D : va_G) (cI cD : ClassId) (x0 x1 : Nat) (N : Nat) (len : Int32) (codes : Nat → Int32)  (u : Int32) (h : f_X1_isComplete N len codes = some u) : MetI l yX1_isComplete wsX1_isComplete { frames := 3, cells := 0, slots := 0, locals := 70 } D [(cI, .int), (cD, .double)] [.ref x0] (w_X1_isComplete x0 x1 cI cD len codes) u (w_X1_isComplete x0 x1 cI cD len codes) := by
  refine MetI.of (own := RX1) (cc := cX1_isComplete) (nL := 1) (ret := (some .boolean)) (by decide) rfl rfl (Nat.le_of_ble_eq_true rfl) rfl ?_
  intro p e s m args below meth c A hA C hr hlk
  unfold f_X1_isComplete at h
  refine wd_aload_n (j := 1) C 0 dX1_isComplete_0 rfl rfl rfl ?_
  refine wd_get (j := 4) (q0 := 0) (f := 1) (ci := 1) (v := .int len) C inX1_isComplete_X1 kX1_isComplete_1 rfl (by decide) rfl rfl dX1_isComplete_1 rfl ?_
  refine wd_iconst (j := 5) (v := 2) C dX1_isComplete_4 (by decide) rfl ?_
  refine wd_icmp_le (j := 8) (t := 36) C dX1_isComplete_5 (by decide) rfl (fun c1 => ?_) (fun c1 => ?_)
  · replace h := (if_pos c1).symm.trans h
    refine wd_iconst (j := 37) (v := 0) C dX1_isComplete_36 (by decide) rfl ?_
    obtain rfl := Option.some.inj h
    exact wd_iret C hA hr hlk rfl rfl rfl dX1_isComplete_37
  · replace h := (if_neg c1).symm.trans h
    refine wd_aload_n (j := 9) C 0 dX1_isComplete_8 rfl rfl rfl ?_
    refine wd_get (j := 12) (q0 := 0) (f := 1) (ci := 1) (v := .int len) C inX1_isComplete_X1 kX1_isComplete_1 rfl (by decide) rfl rfl dX1_isComplete_9 rfl ?_
    refine wd_iconst (j := 13) (v := 1) C dX1_isComplete_12 (by decide) rfl ?_
    refine wd_isub (j := 14) C dX1_isComplete_13 rfl ?_
    obtain ⟨u2, hu2, h⟩ := bnd_some h
    refine wd_callSi (j := 17) (As := [.int (len - (1 : Int32))]) (rest := []) (ws' := (w_X1_isComplete x0 x1 cI cD len codes)) C (c_X1_placeInGroup l D cI cD (len - (1 : Int32)) u2 hu2) (va_cwS 1 C.1.2.2.2.2 gX1_isComplete_X1_placeInGroup rfl rfl rfl (by decide +kernel) ⟨Nat.le_of_ble_eq_true rfl, Nat.le_of_ble_eq_true rfl⟩) [] [0, 1] rfl rfl rfl rfl (by decide) [0, 1] rfl rfl rfl (Nat.le_of_ble_eq_true rfl) (Nat.le_of_ble_eq_true rfl) (Nat.le_of_ble_eq_true rfl) dX1_isComplete_14 rfl ?_
    refine wd_iconst (j := 18) (v := 1) C dX1_isComplete_17 (by decide) rfl ?_
    refine wd_icmp_ne (j := 21) (t := 36) C dX1_isComplete_18 (by decide) rfl (fun c3 => ?_) (fun c3 => ?_)
    · replace h := (if_neg c3).symm.trans h
      refine wd_iconst (j := 37) (v := 0) C dX1_isComplete_36 (by decide) rfl ?_
      obtain rfl := Option.some.inj h
      exact wd_iret C hA hr hlk rfl rfl rfl dX1_isComplete_37
    · replace h := (if_pos c3).symm.trans h
      refine wd_aload_n (j := 22) C 0 dX1_isComplete_21 rfl rfl rfl ?_
      obtain ⟨u4, hu4, h⟩ := bnd_some h
      refine wd_callVi (j := 25) (q0 := 0) (ci := 1) (As := []) (rest := []) (ws' := (w_X1_isComplete x0 x1 cI cD len codes)) C (c_X1_firstBrokenIndex l D cI cD x0 x1 N len codes u4 hu4) (cwV 0 C.1.2.2.2.2 gX1_isComplete_X1_firstBrokenIndex rfl rfl rfl (by decide +kernel) ⟨Nat.le_of_ble_eq_true rfl, Nat.le_of_ble_eq_true rfl⟩) rfl rfl [0, 1] [] rfl rfl rfl rfl (by decide) [0, 1] rfl rfl rfl (Nat.le_of_ble_eq_true rfl) (Nat.le_of_ble_eq_true rfl) (Nat.le_of_ble_eq_true rfl) dX1_isComplete_22 rfl ?_
      refine wd_aload_n (j := 26) C 0 dX1_isComplete_25 rfl rfl rfl ?_
      refine wd_get (j := 29) (q0 := 0) (f := 1) (ci := 1) (v := .int len) C inX1_isComplete_X1 kX1_isComplete_1 rfl (by decide) rfl rfl dX1_isComplete_26 rfl ?_
      refine wd_icmp_ne (j := 32) (t := 36) C dX1_isComplete_29 (by decide) rfl (fun c5 => ?_) (fun c5 => ?_)
      · replace h := (if_neg c5).symm.trans h
        refine wd_iconst (j := 37) (v := 0) C dX1_isComplete_36 (by decide) rfl ?_
        obtain rfl := Option.some.inj h
        exact wd_iret C hA hr hlk rfl rfl rfl dX1_isComplete_37
      · replace h := (if_pos c5).symm.trans h
        refine wd_iconst (j := 33) (v := 1) C dX1_isComplete_32 (by decide) rfl ?_
        refine wd_goto (t := 37) C dX1_isComplete_33 (by decide) ?_
        obtain rfl := Option.some.inj h
        exact wd_iret C hA hr hlk rfl rfl rfl dX1_isComplete_37
abbrev w_X1_isConnected (x0 x1 : Nat) (cI cD : ClassId) (len : Int32) (codes : Nat → Int32) : va_W := [(x0, .inr (1, [.ref x1, .int len])), (x1, .inl (cI, 40, .inl codes))]
set_option maxRecDepth 100000 in
set_option maxHeartbeats 4000000 in
theorem lw_X1_isConnected_14 (l : Launch) (D : va_G) (cI cD : ClassId) (x0 x1 : Nat) (N : Nat) (len : Int32) (codes : Nat → Int32) (p2 : Int32) {p : Program} {e : Env} {s : State} {m : MethodId} {args : Array Value} {below : List Frame} {meth : Method} {c : Code} {A : Nat → Prop} {Q : State → Prop} (C : wd_C p m c cX1_isConnected 5 s args wsX1_isConnected RX1 D [(cI, .int), (cD, .double)] A) : ∀ (n : Nat) (st : Int32 × Int32) (E : Int32), iter (b_X1_isConnected_14 len codes) n st = some E → (Wd p l e { frames := 1, cells := 0, slots := 0, locals := 21 } s m args below meth c 5 D A 0 0 Q 57 [(0, .ref x0), (1, .int E), (2, .int p2)] [] (w_X1_isConnected x0 x1 cI cD len codes)) → Wd p l e { frames := 1, cells := 0, slots := 0, locals := 21 } s m args below meth c 5 D A 0 0 Q 14 [(0, .ref x0), (1, .int st.1), (2, .int p2), (3, .int st.2)] [] (w_X1_isConnected x0 x1 cI cD len codes) := by
  intro n
  induction n with
  | zero => intro st E h; cases h
  | succ n ih =>
    intro st E h kx
    obtain ⟨b, h, hk⟩ := iter_step h
    unfold b_X1_isConnected_14 at h
    refine wd_iload_n (j := 15) C 3 dX1_isConnected_14 rfl rfl rfl ?_
    refine wd_aload_n (j := 16) C 0 dX1_isConnected_15 rfl rfl rfl ?_
    obtain ⟨u1, hu1, h⟩ := bnd_some h
    refine wd_callVi (j := 19) (q0 := 0) (ci := 1) (As := []) (rest := [.int st.2]) (ws' := (w_X1_isConnected x0 x1 cI cD len codes)) C (c_X1_links l D cI cD x0 x1 len u1 hu1) (cwV 0 C.1.2.2.2.2 gX1_isConnected_X1_links rfl rfl rfl (by decide +kernel) ⟨Nat.le_of_ble_eq_true rfl, Nat.le_of_ble_eq_true rfl⟩) rfl rfl [0] [1] rfl rfl rfl rfl (by decide) [1, 0] rfl rfl rfl (Nat.le_of_ble_eq_true rfl) (Nat.le_of_ble_eq_true rfl) (Nat.le_of_ble_eq_true rfl) dX1_isConnected_16 rfl ?_
    refine wd_icmp_ge (j := 22) (t := 57) C dX1_isConnected_19 (by decide) rfl (fun c2 => ?_) (fun c2 => ?_)
    · replace h := (if_pos c2).symm.trans h
      obtain rfl := Option.some.inj h
      obtain rfl := hk
      refine wd_lv (lv' := [(0, .ref x0), (1, .int st.1), (2, .int p2)]) [0, 1, 2] rfl ?_
      exact kx
    · replace h := (if_neg c2).symm.trans h
      refine wd_iconst (j := 23) (v := 1) C dX1_isConnected_22 (by decide) rfl ?_
      refine wd_aload_n (j := 24) C 0 dX1_isConnected_23 rfl rfl rfl ?_
      refine wd_iload_n (j := 25) C 3 dX1_isConnected_24 rfl rfl rfl ?_
      obtain ⟨u3, hu3, h⟩ := bnd_some h
      refine wd_callVi (j := 28) (q0 := 0) (ci := 1) (As := [.int st.2]) (rest := [.int (1 : Int32)]) (ws' := (w_X1_isConnected x0 x1 cI cD len codes)) C (c_X1_firstNode l D cI cD x0 x1 len codes st.2 u3 hu3) (cwV 1 C.1.2.2.2.2 gX1_isConnected_X1_firstNode rfl rfl rfl (by decide +kernel) ⟨Nat.le_of_ble_eq_true rfl, Nat.le_of_ble_eq_true rfl⟩) rfl rfl [0, 1] [] rfl rfl rfl rfl (by decide) [0, 1] rfl rfl rfl (Nat.le_of_ble_eq_true rfl) (Nat.le_of_ble_eq_true rfl) (Nat.le_of_ble_eq_true rfl) dX1_isConnected_25 rfl ?_
      refine wd_ishl (j := 29) C dX1_isConnected_28 rfl ?_
      refine wd_iconst (j := 30) (v := 1) C dX1_isConnected_29 (by decide) rfl ?_
      refine wd_aload_n (j := 31) C 0 dX1_isConnected_30 rfl rfl rfl ?_
      refine wd_iload_n (j := 32) C 3 dX1_isConnected_31 rfl rfl rfl ?_
      obtain ⟨u4, hu4, h⟩ := bnd_some h
      refine wd_callVi (j := 35) (q0 := 0) (ci := 1) (As := [.int st.2]) (rest := [.int (1 : Int32), .int ((1 : Int32) <<< (u3 &&& 31))]) (ws' := (w_X1_isConnected x0 x1 cI cD len codes)) C (c_X1_secondNode l D cI cD x0 x1 len codes st.2 u4 hu4) (cwV 1 C.1.2.2.2.2 gX1_isConnected_X1_secondNode rfl rfl rfl (by decide +kernel) ⟨Nat.le_of_ble_eq_true rfl, Nat.le_of_ble_eq_true rfl⟩) rfl rfl [0, 1] [] rfl rfl rfl rfl (by decide) [0, 1] rfl rfl rfl (Nat.le_of_ble_eq_true rfl) (Nat.le_of_ble_eq_true rfl) (Nat.le_of_ble_eq_true rfl) dX1_isConnected_32 rfl ?_
      refine wd_ishl (j := 36) C dX1_isConnected_35 rfl ?_
      refine wd_ior (j := 37) C dX1_isConnected_36 rfl ?_
      refine wd_istore (j := 39) (lv' := [(4, .int (((1 : Int32) <<< (u3 &&& 31)) ||| ((1 : Int32) <<< (u4 &&& 31)))), (0, .ref x0), (1, .int st.1), (2, .int p2), (3, .int st.2)]) C dX1_isConnected_37 (by decide) rfl rfl ?_
      refine wd_iload_n (j := 40) C 2 dX1_isConnected_39 rfl rfl rfl ?_
      refine wd_iload (j := 42) C 0 dX1_isConnected_40 rfl rfl ?_
      refine wd_iand (j := 43) C dX1_isConnected_42 rfl ?_
      refine wd_if_eq (j := 46) (t := 51) C dX1_isConnected_43 (by decide) rfl (fun c5 => ?_) (fun c5 => ?_)
      · replace h := (if_pos c5).symm.trans h
        refine wd_iinc (j := 54) (lv' := [(3, .int (st.2 + 1)), (4, .int (((1 : Int32) <<< (u3 &&& 31)) ||| ((1 : Int32) <<< (u4 &&& 31)))), (0, .ref x0), (1, .int st.1), (2, .int p2)]) C 4 dX1_isConnected_51 rfl rfl (by decide) rfl rfl ?_
        refine wd_goto (t := 14) C dX1_isConnected_54 (by decide) ?_
        obtain rfl := Option.some.inj h
        refine wd_lv (lv' := [(0, .ref x0), (1, .int st.1), (2, .int p2), (3, .int (st.2 + 1))]) [2, 3, 4, 0] rfl ?_
        exact ih (st.1, (st.2 + 1)) E hk kx
      · replace h := (if_neg c5).symm.trans h
        refine wd_iload_n (j := 47) C 2 dX1_isConnected_46 rfl rfl rfl ?_
        refine wd_iload (j := 49) C 0 dX1_isConnected_47 rfl rfl ?_
        refine wd_ior (j := 50) C dX1_isConnected_49 rfl ?_
        refine wd_istore_n (j := 51) (lv' := [(1, .int (st.1 ||| (((1 : Int32) <<< (u3 &&& 31)) ||| ((1 : Int32) <<< (u4 &&& 31))))), (4, .int (((1 : Int32) <<< (u3 &&& 31)) ||| ((1 : Int32) <<< (u4 &&& 31)))), (0, .ref x0), (2, .int p2), (3, .int st.2)]) C dX1_isConnected_50 rfl (by decide) rfl rfl ?_
        refine wd_iinc (j := 54) (lv' := [(3, .int (st.2 + 1)), (1, .int (st.1 ||| (((1 : Int32) <<< (u3 &&& 31)) ||| ((1 : Int32) <<< (u4 &&& 31))))), (4, .int (((1 : Int32) <<< (u3 &&& 31)) ||| ((1 : Int32) <<< (u4 &&& 31)))), (0, .ref x0), (2, .int p2)]) C 4 dX1_isConnected_51 rfl rfl (by decide) rfl rfl ?_
        refine wd_goto (t := 14) C dX1_isConnected_54 (by decide) ?_
        obtain rfl := Option.some.inj h
        refine wd_lv (lv' := [(0, .ref x0), (1, .int (st.1 ||| (((1 : Int32) <<< (u3 &&& 31)) ||| ((1 : Int32) <<< (u4 &&& 31))))), (2, .int p2), (3, .int (st.2 + 1))]) [3, 1, 4, 0] rfl ?_
        exact ih ((st.1 ||| (((1 : Int32) <<< (u3 &&& 31)) ||| ((1 : Int32) <<< (u4 &&& 31)))), (st.2 + 1)) E hk kx
set_option maxRecDepth 100000 in
set_option maxHeartbeats 4000000 in
theorem lw_X1_isConnected_4 (l : Launch) (D : va_G) (cI cD : ClassId) (x0 x1 : Nat) (N : Nat) (len : Int32) (codes : Nat → Int32)  {p : Program} {e : Env} {s : State} {m : MethodId} {args : Array Value} {below : List Frame} {meth : Method} {c : Code} {A : Nat → Prop} {Q : State → Prop} (C : wd_C p m c cX1_isConnected 5 s args wsX1_isConnected RX1 D [(cI, .int), (cD, .double)] A) : ∀ (n : Nat) (st : Int32 × Int32) (E : Int32), iter (b_X1_isConnected_4 N len codes) n st = some E → (Wd p l e { frames := 1, cells := 0, slots := 0, locals := 21 } s m args below meth c 5 D A 0 0 Q 63 [(0, .ref x0), (1, .int E)] [] (w_X1_isConnected x0 x1 cI cD len codes)) → Wd p l e { frames := 1, cells := 0, slots := 0, locals := 21 } s m args below meth c 5 D A 0 0 Q 4 [(0, .ref x0), (1, .int st.1), (2, .int st.2)] [] (w_X1_isConnected x0 x1 cI cD len codes) := by
  intro n
  induction n with
  | zero => intro st E h; cases h
  | succ n ih =>
    intro st E h kx
    obtain ⟨b, h, hk⟩ := iter_step h
    unfold b_X1_isConnected_4 at h
    refine wd_iload_n (j := 5) C 2 dX1_isConnected_4 rfl rfl rfl ?_
    refine wd_aload_n (j := 6) C 0 dX1_isConnected_5 rfl rfl rfl ?_
    obtain ⟨u6, hu6, h⟩ := bnd_some h
    refine wd_callVi (j := 9) (q0 := 0) (ci := 1) (As := []) (rest := [.int st.2]) (ws' := (w_X1_isConnected x0 x1 cI cD len codes)) C (c_X1_nodes l D cI cD x0 x1 len codes u6 hu6) (cwV 0 C.1.2.2.2.2 gX1_isConnected_X1_nodes rfl rfl rfl (by decide +kernel) ⟨Nat.le_of_ble_eq_true rfl, Nat.le_of_ble_eq_true rfl⟩) rfl rfl [0, 1] [] rfl rfl rfl rfl (by decide) [0, 1] rfl rfl rfl (Nat.le_of_ble_eq_true rfl) (Nat.le_of_ble_eq_true rfl) (Nat.le_of_ble_eq_true rfl) dX1_isConnected_6 rfl ?_
    refine wd_icmp_ge (j := 12) (t := 63) C dX1_isConnected_9 (by decide) rfl (fun c7 => ?_) (fun c7 => ?_)
    · replace h := (if_pos c7).symm.trans h
      obtain rfl := Option.some.inj h
      obtain rfl := hk
      refine wd_lv (lv' := [(0, .ref x0), (1, .int st.1)]) [0, 1] rfl ?_
      exact kx
    · replace h := (if_neg c7).symm.trans h
      refine wd_iconst (j := 13) (v := 0) C dX1_isConnected_12 (by decide) rfl ?_
      refine wd_istore_n (j := 14) (lv' := [(3, .int (0 : Int32)), (0, .ref x0), (1, .int st.1), (2, .int st.2)]) C dX1_isConnected_13 rfl (by decide) rfl rfl ?_
      refine wd_lv (lv' := [(0, .ref x0), (1, .int st.1), (2, .int st.2), (3, .int (0 : Int32))]) [1, 2, 3, 0] rfl ?_
      obtain ⟨u8, hu8, h⟩ := bnd_some h
      refine lw_X1_isConnected_14 l D cI cD x0 x1 N len codes st.2 C N (st.1, (0 : Int32)) u8 hu8 ?_
      refine wd_iinc (j := 60) (lv' := [(2, .int (st.2 + 1)), (0, .ref x0), (1, .int u8)]) C 2 dX1_isConnected_57 rfl rfl (by decide) rfl rfl ?_
      refine wd_goto (t := 4) C dX1_isConnected_60 (by decide) ?_
      obtain rfl := Option.some.inj h
      refine wd_lv (lv' := [(0, .ref x0), (1, .int u8), (2, .int (st.2 + 1))]) [1, 2, 0] rfl ?_
      exact ih (u8, (st.2 + 1)) E hk kx
set_option maxRecDepth 100000 in
set_option maxHeartbeats 4000000 in
theorem c_X1_isConnected (l : Launch) (D : va_G) (cI cD : ClassId) (x0 x1 : Nat) (N : Nat) (len : Int32) (codes : Nat → Int32)  (u : Int32) (h : f_X1_isConnected N len codes = some u) : MetI l yX1_isConnected wsX1_isConnected { frames := 1, cells := 0, slots := 0, locals := 21 } D [(cI, .int), (cD, .double)] [.ref x0] (w_X1_isConnected x0 x1 cI cD len codes) u (w_X1_isConnected x0 x1 cI cD len codes) := by
  refine MetI.of (own := RX1) (cc := cX1_isConnected) (nL := 5) (ret := (some .boolean)) (by decide) rfl rfl (Nat.le_of_ble_eq_true rfl) rfl ?_
  intro p e s m args below meth c A hA C hr hlk
  unfold f_X1_isConnected at h
  refine wd_iconst (j := 1) (v := 1) C dX1_isConnected_0 (by decide) rfl ?_
  refine wd_istore_n (j := 2) (lv' := [(1, .int (1 : Int32)), (0, .ref x0)]) C dX1_isConnected_1 rfl (by decide) rfl rfl ?_
  refine wd_iconst (j := 3) (v := 1) C dX1_isConnected_2 (by decide) rfl ?_
  refine wd_istore_n (j := 4) (lv' := [(2, .int (1 : Int32)), (1, .int (1 : Int32)), (0, .ref x0)]) C dX1_isConnected_3 rfl (by decide) rfl rfl ?_
  refine wd_lv (lv' := [(0, .ref x0), (1, .int (1 : Int32)), (2, .int (1 : Int32))]) [2, 1, 0] rfl ?_
  obtain ⟨u9, hu9, h⟩ := bnd_some h
  refine lw_X1_isConnected_4 l D cI cD x0 x1 N len codes C N ((1 : Int32), (1 : Int32)) u9 hu9 ?_
  refine wd_iload_n (j := 64) C 1 dX1_isConnected_63 rfl rfl rfl ?_
  refine wd_iconst (j := 65) (v := 1) C dX1_isConnected_64 (by decide) rfl ?_
  refine wd_aload_n (j := 66) C 0 dX1_isConnected_65 rfl rfl rfl ?_
  obtain ⟨u10, hu10, h⟩ := bnd_some h
  refine wd_callVi (j := 69) (q0 := 0) (ci := 1) (As := []) (rest := [.int (1 : Int32), .int u9]) (ws' := (w_X1_isConnected x0 x1 cI cD len codes)) C (c_X1_nodes l D cI cD x0 x1 len codes u10 hu10) (cwV 0 C.1.2.2.2.2 gX1_isConnected_X1_nodes rfl rfl rfl (by decide +kernel) ⟨Nat.le_of_ble_eq_true rfl, Nat.le_of_ble_eq_true rfl⟩) rfl rfl [0, 1] [] rfl rfl rfl rfl (by decide) [0, 1] rfl rfl rfl (Nat.le_of_ble_eq_true rfl) (Nat.le_of_ble_eq_true rfl) (Nat.le_of_ble_eq_true rfl) dX1_isConnected_66 rfl ?_
  refine wd_ishl (j := 70) C dX1_isConnected_69 rfl ?_
  refine wd_iconst (j := 71) (v := 1) C dX1_isConnected_70 (by decide) rfl ?_
  refine wd_isub (j := 72) C dX1_isConnected_71 rfl ?_
  refine wd_icmp_ne (j := 75) (t := 79) C dX1_isConnected_72 (by decide) rfl (fun c11 => ?_) (fun c11 => ?_)
  · replace h := (if_neg c11).symm.trans h
    refine wd_iconst (j := 80) (v := 0) C dX1_isConnected_79 (by decide) rfl ?_
    obtain rfl := Option.some.inj h
    exact wd_iret C hA hr hlk rfl rfl rfl dX1_isConnected_80
  · replace h := (if_pos c11).symm.trans h
    refine wd_iconst (j := 76) (v := 1) C dX1_isConnected_75 (by decide) rfl ?_
    refine wd_goto (t := 80) C dX1_isConnected_76 (by decide) ?_
    obtain rfl := Option.some.inj h
    exact wd_iret C hA hr hlk rfl rfl rfl dX1_isConnected_80
abbrev w_X2_start (x0 x1 x2 : Nat) (cI cD : ClassId) (node : Int32) (prot : Nat → Int32) (src : Nat → Int32) : va_W := [(x0, .inr (2, [.ref x1, .int node])), (x1, .inl (cI, 8, .inl prot)), (x2, .inl (cI, 8, .inl src))]
theorem kX2_start_1 : Cond.fieldLink "RotorRouter$Probe" 15 "RotorRouter$Probe" "node" "I" ∈ wsX2_start := List.mem_of_getElem? (i := 1) rfl
theorem kX2_start_2 : Cond.fieldLink "RotorRouter$Probe" 9 "RotorRouter$Probe" "rotors" "[I" ∈ wsX2_start := List.mem_of_getElem? (i := 2) rfl
theorem kX2_start_3 : Cond.methodLink "RotorRouter$Probe" 19 arraycopyName ∈ wsX2_start := List.mem_of_getElem? (i := 3) rfl
theorem kX2_start_4 : Cond.native arraycopyName ∈ wsX2_start := List.mem_of_getElem? (i := 4) rfl
theorem kX2_start_5 : Cond.static arraycopyName ∈ wsX2_start := List.mem_of_getElem? (i := 5) rfl
theorem kX2_start_6 : Cond.initialized "java/lang/System" ∈ wsX2_start := List.mem_of_getElem? (i := 6) rfl
theorem inX2_start_X2 : ∀ w ∈ wsX20, w ∈ wsX2_start := fun _ h => List.mem_cons_of_mem _ (List.mem_append_right _ h)
set_option maxRecDepth 100000 in
set_option maxHeartbeats 4000000 in
theorem c_X2_start (l : Launch) (D : va_G) (cI cD : ClassId) (x0 x1 x2 : Nat) (node : Int32) (prot : Nat → Int32) (src : Nat → Int32) (p1 : Int32) (u : Int32 × (Nat → Int32)) (h : f_X2_start node prot src p1 = some u) : MetV l yX2_start wsX2_start { frames := 1, cells := 0, slots := 0, locals := 40 } D [(cI, .int), (cD, .double)] [.ref x0, .int p1, .ref x2] (w_X2_start x0 x1 x2 cI cD node prot src) (w_X2_start x0 x1 x2 cI cD u.1 u.2 src) := by
  refine MetV.of (own := RX2) (cc := cX2_start) (nL := 3) (ret := none) (by decide) rfl rfl (Nat.le_of_ble_eq_true rfl) rfl ?_
  intro p e s m args below meth c A hA C hr hlk
  unfold f_X2_start at h
  refine wd_aload_n (j := 1) C 0 dX2_start_0 rfl rfl rfl ?_
  refine wd_iload_n (j := 2) C 1 dX2_start_1 rfl rfl rfl ?_
  refine wd_put (j := 5) (q0 := 0) (f := 1) (ci := 2) (ws' := (w_X2_start x0 x1 x2 cI cD p1 prot src)) C inX2_start_X2 tyX2 tyX2_ok nmX2 kX2_start_1 rfl (by decide) rfl rfl rfl rfl (Nat.le_of_ble_eq_true rfl) rfl dX2_start_2 rfl ?_
  refine wd_aload_n (j := 6) C 2 dX2_start_5 rfl rfl rfl ?_
  refine wd_iconst (j := 7) (v := 0) C dX2_start_6 (by decide) rfl ?_
  refine wd_aload_n (j := 8) C 0 dX2_start_7 rfl rfl rfl ?_
  refine wd_get (j := 11) (q0 := 0) (f := 0) (ci := 2) (v := .ref x1) C inX2_start_X2 kX2_start_2 rfl (by decide) rfl rfl dX2_start_8 rfl ?_
  refine wd_iconst (j := 12) (v := 0) C dX2_start_11 (by decide) rfl ?_
  refine wd_bipush (j := 14) (v := 8) C dX2_start_12 (by decide) rfl ?_
  refine wd_copy (j := 17) (q0 := 2) (q1 := 1) (t0 := 0) (sp0 := 0) (dp0 := 0) (w0 := 8) (ws' := (w_X2_start x0 x1 x2 cI cD p1 (va_cpy src prot 0 0 8) src)) C kX2_start_3 kX2_start_4 kX2_start_5 kX2_start_6 rfl rfl rfl (by decide) (by decide) (by decide) (by decide) (by decide) (by decide) (by decide) (by decide) (Nat.le_of_ble_eq_true rfl) (by decide) rfl dX2_start_14 rfl ?_
  obtain rfl := Option.some.inj h
  exact wd_vret C hA hr hlk rfl dX2_start_17
abbrev w_X2_move (x0 x1 x2 x3 x4 : Nat) (cI cD : ClassId) (node : Int32) (prot : Nat → Int32) (nodes : Int32) (links : Int32) (deg : Nat → Int32) (nbr : Nat → Int32) : va_W := [(x0, .inr (2, [.ref x1, .int node])), (x1, .inl (cI, 8, .inl prot)), (x2, .inr (0, [.ref x3, .ref x4, .int nodes, .int links])), (x3, .inl (cI, 8, .inl deg)), (x4, .inl (cI, 56, .inl nbr))]
theorem kX2_move_1 : Cond.fieldLink "RotorRouter$Probe" 15 "RotorRouter$Probe" "node" "I" ∈ wsX2_move := List.mem_of_getElem? (i := 1) rfl
theorem kX2_move_2 : Cond.fieldLink "RotorRouter$Probe" 25 "RotorRouter$Graph" "neighbors" "[I" ∈ wsX2_move := List.mem_of_getElem? (i := 2) rfl
theorem kX2_move_3 : Cond.fieldLink "RotorRouter$Probe" 9 "RotorRouter$Probe" "rotors" "[I" ∈ wsX2_move := List.mem_of_getElem? (i := 3) rfl
theorem inX2_move_X2 : ∀ w ∈ wsX20, w ∈ wsX2_move := fun _ h => List.mem_cons_of_mem _ (List.mem_append_left _ (List.mem_append_right _ h))
theorem inX2_move_X0 : ∀ w ∈ wsX00, w ∈ wsX2_move := fun _ h => List.mem_cons_of_mem _ (List.mem_append_right _ h)
set_option maxRecDepth 100000 in
set_option maxHeartbeats 4000000 in
theorem c_X2_move (l : Launch) (D : va_G) (cI cD : ClassId) (x0 x1 x2 x3 x4 : Nat) (node : Int32) (prot : Nat → Int32) (nodes : Int32) (links : Int32) (deg : Nat → Int32) (nbr : Nat → Int32)  (u : Int32 × (Nat → Int32)) (h : f_X2_move node prot deg nbr = some u) : MetV l yX2_move wsX2_move { frames := 1, cells := 0, slots := 0, locals := 23 } D [(cI, .int), (cD, .double)] [.ref x0, .ref x2] (w_X2_move x0 x1 x2 x3 x4 cI cD node prot nodes links deg nbr) (w_X2_move x0 x1 x2 x3 x4 cI cD u.1 u.2 nodes links deg nbr) := by
  refine MetV.of (own := RX2) (cc := cX2_move) (nL := 3) (ret := none) (by decide) rfl rfl (Nat.le_of_ble_eq_true rfl) rfl ?_
  intro p e s m args below meth c A hA C hr hlk
  unfold f_X2_move at h
  refine wd_aload_n (j := 1) C 0 dX2_move_0 rfl rfl rfl ?_
  refine wd_get (j := 4) (q0 := 0) (f := 1) (ci := 2) (v := .int node) C inX2_move_X2 kX2_move_1 rfl (by decide) rfl rfl dX2_move_1 rfl ?_
  refine wd_istore_n (j := 5) (lv' := [(2, .int node), (0, .ref x0), (1, .ref x2)]) C dX2_move_4 rfl (by decide) rfl rfl ?_
  refine wd_aload_n (j := 6) C 1 dX2_move_5 rfl rfl rfl ?_
  refine wd_aload_n (j := 7) C 2 dX2_move_6 rfl rfl rfl ?_
  refine wd_get (j := 10) (q0 := 2) (f := 1) (ci := 0) (v := .ref x4) C inX2_move_X0 kX2_move_2 rfl (by decide) rfl rfl dX2_move_7 rfl ?_
  refine wd_iload_n (j := 11) C 0 dX2_move_10 rfl rfl rfl ?_
  refine wd_aload_n (j := 12) C 1 dX2_move_11 rfl rfl rfl ?_
  refine wd_get (j := 15) (q0 := 0) (f := 0) (ci := 2) (v := .ref x1) C inX2_move_X2 kX2_move_3 rfl (by decide) rfl rfl dX2_move_12 rfl ?_
  refine wd_iload_n (j := 16) C 0 dX2_move_15 rfl rfl rfl ?_
  obtain ⟨g1, h⟩ := grd_some h
  refine wd_iald (j := 17) (q0 := 1) (t0 := 0) C rfl rfl (inB_in g1) dX2_move_16 rfl ?_
  obtain ⟨u2, hu2, h⟩ := bnd_some h
  refine wd_callSi (j := 20) (As := [.int node, .int (prot node.toNatClampNeg)]) (rest := [.ref x4, .ref x0]) (ws' := (w_X2_move x0 x1 x2 x3 x4 cI cD node prot nodes links deg nbr)) C (c_X0_slot l D cI cD node (prot node.toNatClampNeg) u2 hu2) (va_cwS 2 C.1.2.2.2.2 gX2_move_X0_slot rfl rfl rfl (by decide +kernel) ⟨Nat.le_of_ble_eq_true rfl, Nat.le_of_ble_eq_true rfl⟩) [] [0, 1, 2, 3, 4] rfl rfl rfl rfl (by decide) [0, 1, 2, 3, 4] rfl rfl rfl (Nat.le_of_ble_eq_true rfl) (Nat.le_of_ble_eq_true rfl) (Nat.le_of_ble_eq_true rfl) dX2_move_17 rfl ?_
  obtain ⟨g3, h⟩ := grd_some h
  refine wd_iald (j := 21) (q0 := 4) (t0 := 0) C rfl rfl (inB_in g3) dX2_move_20 rfl ?_
  refine wd_put (j := 24) (q0 := 0) (f := 1) (ci := 2) (ws' := (w_X2_move x0 x1 x2 x3 x4 cI cD (nbr u2.toNatClampNeg) prot nodes links deg nbr)) C inX2_move_X2 tyX2 tyX2_ok nmX2 kX2_move_1 rfl (by decide) rfl rfl rfl rfl (Nat.le_of_ble_eq_true rfl) rfl dX2_move_21 rfl ?_
  refine wd_aload_n (j := 25) C 1 dX2_move_24 rfl rfl rfl ?_
  refine wd_get (j := 28) (q0 := 0) (f := 0) (ci := 2) (v := .ref x1) C inX2_move_X2 kX2_move_3 rfl (by decide) rfl rfl dX2_move_25 rfl ?_
  refine wd_iload_n (j := 29) C 0 dX2_move_28 rfl rfl rfl ?_
  refine wd_aload_n (j := 30) C 2 dX2_move_29 rfl rfl rfl ?_
  refine wd_iload_n (j := 31) C 0 dX2_move_30 rfl rfl rfl ?_
  refine wd_aload_n (j := 32) C 1 dX2_move_31 rfl rfl rfl ?_
  refine wd_get (j := 35) (q0 := 0) (f := 0) (ci := 2) (v := .ref x1) C inX2_move_X2 kX2_move_3 rfl (by decide) rfl rfl dX2_move_32 rfl ?_
  refine wd_iload_n (j := 36) C 0 dX2_move_35 rfl rfl rfl ?_
  obtain ⟨g4, h⟩ := grd_some h
  refine wd_iald (j := 37) (q0 := 1) (t0 := 0) C rfl rfl (inB_in g4) dX2_move_36 rfl ?_
  obtain ⟨u5, hu5, h⟩ := bnd_some h
  refine wd_callVi (j := 40) (q0 := 0) (ci := 0) (As := [.int node, .int (prot node.toNatClampNeg)]) (rest := [.int node, .ref x1]) (ws' := (w_X2_move x0 x1 x2 x3 x4 cI cD (nbr u2.toNatClampNeg) prot nodes links deg nbr)) C (c_X0_rotorAfter l D cI cD x2 x3 x4 nodes links deg node (prot node.toNatClampNeg) u5 hu5) (cwV 2 C.1.2.2.2.2 gX2_move_X0_rotorAfter rfl rfl rfl (by decide +kernel) ⟨Nat.le_of_ble_eq_true rfl, Nat.le_of_ble_eq_true rfl⟩) rfl rfl [2, 3] [0, 1, 4] rfl rfl rfl rfl (by decide) [0, 1, 3, 4, 2] rfl rfl rfl (Nat.le_of_ble_eq_true rfl) (Nat.le_of_ble_eq_true rfl) (Nat.le_of_ble_eq_true rfl) dX2_move_37 rfl ?_
  obtain ⟨g6, h⟩ := grd_some h
  refine wd_iast (j := 41) (q0 := 1) (t0 := 0) (ws' := (w_X2_move x0 x1 x2 x3 x4 cI cD (nbr u2.toNatClampNeg) (upd prot node.toNatClampNeg u5) nodes links deg nbr)) C rfl rfl (inB_in g6) rfl dX2_move_40 rfl ?_
  obtain rfl := Option.some.inj h
  exact wd_vret C hA hr hlk rfl dX2_move_41
abbrev w_X2_isSameAs (x0 x1 x2 x3 : Nat) (cI cD : ClassId) (node : Int32) (prot : Nat → Int32) (node2 : Int32) (prot2 : Nat → Int32) : va_W := [(x0, .inr (2, [.ref x1, .int node])), (x1, .inl (cI, 8, .inl prot)), (x2, .inr (2, [.ref x3, .int node2])), (x3, .inl (cI, 8, .inl prot2))]
theorem kX2_isSameAs_1 : Cond.fieldLink "RotorRouter$Probe" 15 "RotorRouter$Probe" "node" "I" ∈ wsX2_isSameAs := List.mem_of_getElem? (i := 1) rfl
theorem kX2_isSameAs_2 : Cond.fieldLink "RotorRouter$Probe" 9 "RotorRouter$Probe" "rotors" "[I" ∈ wsX2_isSameAs := List.mem_of_getElem? (i := 2) rfl
theorem inX2_isSameAs_X2 : ∀ w ∈ wsX20, w ∈ wsX2_isSameAs := fun _ h => List.mem_cons_of_mem _ (List.mem_append_right _ h)
set_option maxRecDepth 100000 in
set_option maxHeartbeats 4000000 in
theorem lw_X2_isSameAs_15 (l : Launch) (D : va_G) (cI cD : ClassId) (x0 x1 x2 x3 : Nat) (N : Nat) (node : Int32) (node2 : Int32) (prot : Nat → Int32) (prot2 : Nat → Int32) (p2 : Int32) {p : Program} {e : Env} {s : State} {m : MethodId} {args : Array Value} {below : List Frame} {meth : Method} {c : Code} {A : Nat → Prop} {Q : State → Prop} (C : wd_C p m c cX2_isSameAs 4 s args wsX2_isSameAs RX2 D [(cI, .int), (cD, .double)] A) : ∀ (n : Nat) (st : Int32) (E : (Unit) ⊕ (Unit)), iter (b_X2_isSameAs_15 prot prot2 p2) n st = some E → (∀ e1, E = .inl e1 → Wd p l e { frames := 0, cells := 0, slots := 0, locals := 0 } s m args below meth c 4 D A 0 0 Q 43 [] [] (w_X2_isSameAs x0 x1 x2 x3 cI cD node prot node2 prot2)) → (∀ e2, E = .inr e2 → Wd p l e { frames := 0, cells := 0, slots := 0, locals := 0 } s m args below meth c 4 D A 0 0 Q 35 [] [] (w_X2_isSameAs x0 x1 x2 x3 cI cD node prot node2 prot2)) → Wd p l e { frames := 0, cells := 0, slots := 0, locals := 0 } s m args below meth c 4 D A 0 0 Q 15 [(0, .ref x0), (1, .ref x2), (2, .int p2), (3, .int st)] [] (w_X2_isSameAs x0 x1 x2 x3 cI cD node prot node2 prot2) := by
  intro n
  induction n with
  | zero => intro st E h; cases h
  | succ n ih =>
    intro st E h kx1 kx2
    obtain ⟨b, h, hk⟩ := iter_step h
    unfold b_X2_isSameAs_15 at h
    refine wd_iload_n (j := 16) C 3 dX2_isSameAs_15 rfl rfl rfl ?_
    refine wd_iload_n (j := 17) C 2 dX2_isSameAs_16 rfl rfl rfl ?_
    refine wd_icmp_ge (j := 20) (t := 43) C dX2_isSameAs_17 (by decide) rfl (fun c1 => ?_) (fun c1 => ?_)
    · replace h := (if_pos c1).symm.trans h
      obtain rfl := Option.some.inj h
      obtain rfl := hk
      refine wd_lv (lv' := []) [] rfl ?_
      exact kx1 _ rfl
    · replace h := (if_neg c1).symm.trans h
      refine wd_aload_n (j := 21) C 0 dX2_isSameAs_20 rfl rfl rfl ?_
      refine wd_get (j := 24) (q0 := 0) (f := 0) (ci := 2) (v := .ref x1) C inX2_isSameAs_X2 kX2_isSameAs_2 rfl (by decide) rfl rfl dX2_isSameAs_21 rfl ?_
      refine wd_iload_n (j := 25) C 3 dX2_isSameAs_24 rfl rfl rfl ?_
      obtain ⟨g2, h⟩ := grd_some h
      refine wd_iald (j := 26) (q0 := 1) (t0 := 0) C rfl rfl (inB_in g2) dX2_isSameAs_25 rfl ?_
      refine wd_aload_n (j := 27) C 1 dX2_isSameAs_26 rfl rfl rfl ?_
      refine wd_get (j := 30) (q0 := 2) (f := 0) (ci := 2) (v := .ref x3) C inX2_isSameAs_X2 kX2_isSameAs_2 rfl (by decide) rfl rfl dX2_isSameAs_27 rfl ?_
      refine wd_iload_n (j := 31) C 3 dX2_isSameAs_30 rfl rfl rfl ?_
      obtain ⟨g3, h⟩ := grd_some h
      refine wd_iald (j := 32) (q0 := 3) (t0 := 0) C rfl rfl (inB_in g3) dX2_isSameAs_31 rfl ?_
      refine wd_icmp_eq (j := 35) (t := 37) C dX2_isSameAs_32 (by decide) rfl (fun c4 => ?_) (fun c4 => ?_)
      · replace h := (if_pos c4).symm.trans h
        refine wd_iinc (j := 40) (lv' := [(3, .int (st + 1)), (0, .ref x0), (1, .ref x2), (2, .int p2)]) C 3 dX2_isSameAs_37 rfl rfl (by decide) rfl rfl ?_
        refine wd_goto (t := 15) C dX2_isSameAs_40 (by decide) ?_
        obtain rfl := Option.some.inj h
        refine wd_lv (lv' := [(0, .ref x0), (1, .ref x2), (2, .int p2), (3, .int (st + 1))]) [1, 2, 3, 0] rfl ?_
        exact ih (st + 1) E hk kx1 kx2
      · replace h := (if_neg c4).symm.trans h
        obtain rfl := Option.some.inj h
        obtain rfl := hk
        refine wd_lv (lv' := []) [] rfl ?_
        exact kx2 _ rfl
set_option maxRecDepth 100000 in
set_option maxHeartbeats 4000000 in
theorem c_X2_isSameAs (l : Launch) (D : va_G) (cI cD : ClassId) (x0 x1 x2 x3 : Nat) (N : Nat) (node : Int32) (prot : Nat → Int32) (node2 : Int32) (prot2 : Nat → Int32) (p2 : Int32) (u : Int32) (h : f_X2_isSameAs N node prot node2 prot2 p2 = some u) : MetI l yX2_isSameAs wsX2_isSameAs { frames := 0, cells := 0, slots := 0, locals := 0 } D [(cI, .int), (cD, .double)] [.ref x0, .ref x2, .int p2] (w_X2_isSameAs x0 x1 x2 x3 cI cD node prot node2 prot2) u (w_X2_isSameAs x0 x1 x2 x3 cI cD node prot node2 prot2) := by
  refine MetI.of (own := RX2) (cc := cX2_isSameAs) (nL := 4) (ret := (some .boolean)) (by decide) rfl rfl (Nat.le_of_ble_eq_true rfl) rfl ?_
  intro p e s m args below meth c A hA C hr hlk
  unfold f_X2_isSameAs at h
  refine wd_aload_n (j := 1) C 0 dX2_isSameAs_0 rfl rfl rfl ?_
  refine wd_get (j := 4) (q0 := 0) (f := 1) (ci := 2) (v := .int node) C inX2_isSameAs_X2 kX2_isSameAs_1 rfl (by decide) rfl rfl dX2_isSameAs_1 rfl ?_
  refine wd_aload_n (j := 5) C 1 dX2_isSameAs_4 rfl rfl rfl ?_
  refine wd_get (j := 8) (q0 := 2) (f := 1) (ci := 2) (v := .int node2) C inX2_isSameAs_X2 kX2_isSameAs_1 rfl (by decide) rfl rfl dX2_isSameAs_5 rfl ?_
  refine wd_icmp_eq (j := 11) (t := 13) C dX2_isSameAs_8 (by decide) rfl (fun c5 => ?_) (fun c5 => ?_)
  · replace h := (if_pos c5).symm.trans h
    refine wd_iconst (j := 14) (v := 0) C dX2_isSameAs_13 (by decide) rfl ?_
    refine wd_istore_n (j := 15) (lv' := [(3, .int (0 : Int32)), (0, .ref x0), (1, .ref x2), (2, .int p2)]) C dX2_isSameAs_14 rfl (by decide) rfl rfl ?_
    refine wd_lv (lv' := [(0, .ref x0), (1, .ref x2), (2, .int p2), (3, .int (0 : Int32))]) [1, 2, 3, 0] rfl ?_
    obtain ⟨u6, hu6, h⟩ := bnd_some h
    refine lw_X2_isSameAs_15 l D cI cD x0 x1 x2 x3 N node node2 prot prot2 p2 C N (0 : Int32) u6 hu6 (fun u6a he => ?_) (fun u6b he => ?_)
    · subst he
      refine wd_iconst (j := 44) (v := 1) C dX2_isSameAs_43 (by decide) rfl ?_
      obtain rfl := Option.some.inj h
      exact wd_iret C hA hr hlk rfl rfl rfl dX2_isSameAs_44
    · subst he
      refine wd_iconst (j := 36) (v := 0) C dX2_isSameAs_35 (by decide) rfl ?_
      obtain rfl := Option.some.inj h
      exact wd_iret C hA hr hlk rfl rfl rfl dX2_isSameAs_36
  · replace h := (if_neg c5).symm.trans h
    refine wd_iconst (j := 12) (v := 0) C dX2_isSameAs_11 (by decide) rfl ?_
    obtain rfl := Option.some.inj h
    exact wd_iret C hA hr hlk rfl rfl rfl dX2_isSameAs_12
abbrev w_X3_reset (x0 x1 x2 x3 x4 : Nat) (cI cD : ClassId) (wk : Int32) (rot : Nat → Int32) (arv : Nat → Int32) (dep : Nat → Int32) : va_W := [(x0, .inr (3, [.ref x1, .ref x2, .ref x3, .ref x4, .int wk])), (x1, .inl (cI, 8, .inl rot)), (x2, .inl (cI, 8, .inl arv)), (x3, .inl (cI, 56, .inl dep))]
theorem kX3_reset_1 : Cond.fieldLink "RotorRouter$State" 9 "RotorRouter$State" "rotors" "[I" ∈ wsX3_reset := List.mem_of_getElem? (i := 1) rfl
theorem kX3_reset_2 : Cond.fieldLink "RotorRouter$State" 15 "RotorRouter$State" "arrived" "[I" ∈ wsX3_reset := List.mem_of_getElem? (i := 2) rfl
theorem kX3_reset_3 : Cond.fieldLink "RotorRouter$State" 18 "RotorRouter$State" "departed" "[I" ∈ wsX3_reset := List.mem_of_getElem? (i := 3) rfl
theorem kX3_reset_4 : Cond.fieldLink "RotorRouter$State" 24 "RotorRouter$State" "walkers" "I" ∈ wsX3_reset := List.mem_of_getElem? (i := 4) rfl
theorem inX3_reset_X3 : ∀ w ∈ wsX30, w ∈ wsX3_reset := fun _ h => List.mem_cons_of_mem _ (List.mem_append_right _ h)
set_option maxRecDepth 100000 in
set_option maxHeartbeats 4000000 in
theorem lw_X3_reset_30 (l : Launch) (D : va_G) (cI cD : ClassId) (x0 x1 x2 x3 x4 : Nat) (N : Nat) (wk : Int32) (rot : Nat → Int32) (arv : Nat → Int32)  {p : Program} {e : Env} {s : State} {m : MethodId} {args : Array Value} {below : List Frame} {meth : Method} {c : Code} {A : Nat → Prop} {Q : State → Prop} (C : wd_C p m c cX3_reset 2 s args wsX3_reset RX3 D [(cI, .int), (cD, .double)] A) : ∀ (n : Nat) (st : Int32 × (Nat → Int32)) (E : (Nat → Int32)), iter (b_X3_reset_30) n st = some E → (Wd p l e { frames := 0, cells := 0, slots := 0, locals := 0 } s m args below meth c 2 D A 0 0 Q 49 [(0, .ref x0)] [] (w_X3_reset x0 x1 x2 x3 x4 cI cD wk rot arv E)) → Wd p l e { frames := 0, cells := 0, slots := 0, locals := 0 } s m args below meth c 2 D A 0 0 Q 30 [(0, .ref x0), (1, .int st.1)] [] (w_X3_reset x0 x1 x2 x3 x4 cI cD wk rot arv st.2) := by
  intro n
  induction n with
  | zero => intro st E h; cases h
  | succ n ih =>
    intro st E h kx
    obtain ⟨b, h, hk⟩ := iter_step h
    unfold b_X3_reset_30 at h
    refine wd_iload_n (j := 31) C 1 dX3_reset_30 rfl rfl rfl ?_
    refine wd_bipush (j := 33) (v := 56) C dX3_reset_31 (by decide) rfl ?_
    refine wd_icmp_ge (j := 36) (t := 49) C dX3_reset_33 (by decide) rfl (fun c1 => ?_) (fun c1 => ?_)
    · replace h := (if_pos c1).symm.trans h
      obtain rfl := Option.some.inj h
      obtain rfl := hk
      refine wd_lv (lv' := [(0, .ref x0)]) [0] rfl ?_
      exact kx
    · replace h := (if_neg c1).symm.trans h
      refine wd_aload_n (j := 37) C 0 dX3_reset_36 rfl rfl rfl ?_
      refine wd_get (j := 40) (q0 := 0) (f := 2) (ci := 3) (v := .ref x3) C inX3_reset_X3 kX3_reset_3 rfl (by decide) rfl rfl dX3_reset_37 rfl ?_
      refine wd_iload_n (j := 41) C 1 dX3_reset_40 rfl rfl rfl ?_
      refine wd_iconst (j := 42) (v := 0) C dX3_reset_41 (by decide) rfl ?_
      obtain ⟨g2, h⟩ := grd_some h
      refine wd_iast (j := 43) (q0 := 3) (t0 := 0) (ws' := (w_X3_reset x0 x1 x2 x3 x4 cI cD wk rot arv (upd st.2 st.1.toNatClampNeg (0 : Int32)))) C rfl rfl (inB_in g2) rfl dX3_reset_42 rfl ?_
      refine wd_iinc (j := 46) (lv' := [(1, .int (st.1 + 1)), (0, .ref x0)]) C 1 dX3_reset_43 rfl rfl (by decide) rfl rfl ?_
      refine wd_goto (t := 30) C dX3_reset_46 (by decide) ?_
      obtain rfl := Option.some.inj h
      refine wd_lv (lv' := [(0, .ref x0), (1, .int (st.1 + 1))]) [1, 0] rfl ?_
      exact ih ((st.1 + 1), (upd st.2 st.1.toNatClampNeg (0 : Int32))) E hk kx
set_option maxRecDepth 100000 in
set_option maxHeartbeats 4000000 in
theorem lw_X3_reset_2 (l : Launch) (D : va_G) (cI cD : ClassId) (x0 x1 x2 x3 x4 : Nat) (N : Nat) (wk : Int32) (dep : Nat → Int32)  {p : Program} {e : Env} {s : State} {m : MethodId} {args : Array Value} {below : List Frame} {meth : Method} {c : Code} {A : Nat → Prop} {Q : State → Prop} (C : wd_C p m c cX3_reset 2 s args wsX3_reset RX3 D [(cI, .int), (cD, .double)] A) : ∀ (n : Nat) (st : Int32 × (Nat → Int32) × (Nat → Int32)) (E : (Nat → Int32) × (Nat → Int32)), iter (b_X3_reset_2) n st = some E → (Wd p l e { frames := 0, cells := 0, slots := 0, locals := 0 } s m args below meth c 2 D A 0 0 Q 28 [(0, .ref x0)] [] (w_X3_reset x0 x1 x2 x3 x4 cI cD wk E.1 E.2 dep)) → Wd p l e { frames := 0, cells := 0, slots := 0, locals := 0 } s m args below meth c 2 D A 0 0 Q 2 [(0, .ref x0), (1, .int st.1)] [] (w_X3_reset x0 x1 x2 x3 x4 cI cD wk st.2.1 st.2.2 dep) := by
  intro n
  induction n with
  | zero => intro st E h; cases h
  | succ n ih =>
    intro st E h kx
    obtain ⟨b, h, hk⟩ := iter_step h
    unfold b_X3_reset_2 at h
    refine wd_iload_n (j := 3) C 1 dX3_reset_2 rfl rfl rfl ?_
    refine wd_bipush (j := 5) (v := 8) C dX3_reset_3 (by decide) rfl ?_
    refine wd_icmp_ge (j := 8) (t := 28) C dX3_reset_5 (by decide) rfl (fun c3 => ?_) (fun c3 => ?_)
    · replace h := (if_pos c3).symm.trans h
      obtain rfl := Option.some.inj h
      obtain rfl := hk
      refine wd_lv (lv' := [(0, .ref x0)]) [0] rfl ?_
      exact kx
    · replace h := (if_neg c3).symm.trans h
      refine wd_aload_n (j := 9) C 0 dX3_reset_8 rfl rfl rfl ?_
      refine wd_get (j := 12) (q0 := 0) (f := 0) (ci := 3) (v := .ref x1) C inX3_reset_X3 kX3_reset_1 rfl (by decide) rfl rfl dX3_reset_9 rfl ?_
      refine wd_iload_n (j := 13) C 1 dX3_reset_12 rfl rfl rfl ?_
      refine wd_iconst (j := 14) (v := 0) C dX3_reset_13 (by decide) rfl ?_
      obtain ⟨g4, h⟩ := grd_some h
      refine wd_iast (j := 15) (q0 := 1) (t0 := 0) (ws' := (w_X3_reset x0 x1 x2 x3 x4 cI cD wk (upd st.2.1 st.1.toNatClampNeg (0 : Int32)) st.2.2 dep)) C rfl rfl (inB_in g4) rfl dX3_reset_14 rfl ?_
      refine wd_aload_n (j := 16) C 0 dX3_reset_15 rfl rfl rfl ?_
      refine wd_get (j := 19) (q0 := 0) (f := 1) (ci := 3) (v := .ref x2) C inX3_reset_X3 kX3_reset_2 rfl (by decide) rfl rfl dX3_reset_16 rfl ?_
      refine wd_iload_n (j := 20) C 1 dX3_reset_19 rfl rfl rfl ?_
      refine wd_iconst (j := 21) (v := 0) C dX3_reset_20 (by decide) rfl ?_
      obtain ⟨g5, h⟩ := grd_some h
      refine wd_iast (j := 22) (q0 := 2) (t0 := 0) (ws' := (w_X3_reset x0 x1 x2 x3 x4 cI cD wk (upd st.2.1 st.1.toNatClampNeg (0 : Int32)) (upd st.2.2 st.1.toNatClampNeg (0 : Int32)) dep)) C rfl rfl (inB_in g5) rfl dX3_reset_21 rfl ?_
      refine wd_iinc (j := 25) (lv' := [(1, .int (st.1 + 1)), (0, .ref x0)]) C 1 dX3_reset_22 rfl rfl (by decide) rfl rfl ?_
      refine wd_goto (t := 2) C dX3_reset_25 (by decide) ?_
      obtain rfl := Option.some.inj h
      refine wd_lv (lv' := [(0, .ref x0), (1, .int (st.1 + 1))]) [1, 0] rfl ?_
      exact ih ((st.1 + 1), (upd st.2.1 st.1.toNatClampNeg (0 : Int32)), (upd st.2.2 st.1.toNatClampNeg (0 : Int32))) E hk kx
set_option maxRecDepth 100000 in
set_option maxHeartbeats 4000000 in
theorem c_X3_reset (l : Launch) (D : va_G) (cI cD : ClassId) (x0 x1 x2 x3 x4 : Nat) (N : Nat) (wk : Int32) (rot : Nat → Int32) (arv : Nat → Int32) (dep : Nat → Int32)  (u : Int32 × (Nat → Int32) × (Nat → Int32) × (Nat → Int32)) (h : f_X3_reset N wk rot arv dep = some u) : MetV l yX3_reset wsX3_reset { frames := 0, cells := 0, slots := 0, locals := 0 } D [(cI, .int), (cD, .double)] [.ref x0] (w_X3_reset x0 x1 x2 x3 x4 cI cD wk rot arv dep) (w_X3_reset x0 x1 x2 x3 x4 cI cD u.1 u.2.1 u.2.2.1 u.2.2.2) := by
  refine MetV.of (own := RX3) (cc := cX3_reset) (nL := 2) (ret := none) (by decide) rfl rfl (Nat.le_of_ble_eq_true rfl) rfl ?_
  intro p e s m args below meth c A hA C hr hlk
  unfold f_X3_reset at h
  refine wd_iconst (j := 1) (v := 0) C dX3_reset_0 (by decide) rfl ?_
  refine wd_istore_n (j := 2) (lv' := [(1, .int (0 : Int32)), (0, .ref x0)]) C dX3_reset_1 rfl (by decide) rfl rfl ?_
  refine wd_lv (lv' := [(0, .ref x0), (1, .int (0 : Int32))]) [1, 0] rfl ?_
  obtain ⟨u6, hu6, h⟩ := bnd_some h
  refine lw_X3_reset_2 l D cI cD x0 x1 x2 x3 x4 N wk dep C N ((0 : Int32), rot, arv) u6 hu6 ?_
  refine wd_iconst (j := 29) (v := 0) C dX3_reset_28 (by decide) rfl ?_
  refine wd_istore_n (j := 30) (lv' := [(1, .int (0 : Int32)), (0, .ref x0)]) C dX3_reset_29 rfl (by decide) rfl rfl ?_
  refine wd_lv (lv' := [(0, .ref x0), (1, .int (0 : Int32))]) [1, 0] rfl ?_
  obtain ⟨u7, hu7, h⟩ := bnd_some h
  refine lw_X3_reset_30 l D cI cD x0 x1 x2 x3 x4 N wk u6.1 u6.2 C N ((0 : Int32), dep) u7 hu7 ?_
  refine wd_aload_n (j := 50) C 0 dX3_reset_49 rfl rfl rfl ?_
  refine wd_iconst (j := 51) (v := 0) C dX3_reset_50 (by decide) rfl ?_
  refine wd_put (j := 54) (q0 := 0) (f := 4) (ci := 3) (ws' := (w_X3_reset x0 x1 x2 x3 x4 cI cD (0 : Int32) u6.1 u6.2 u7)) C inX3_reset_X3 tyX3 tyX3_ok nmX3 kX3_reset_4 rfl (by decide) rfl rfl rfl rfl (Nat.le_of_ble_eq_true rfl) rfl dX3_reset_51 rfl ?_
  obtain rfl := Option.some.inj h
  exact wd_vret C hA hr hlk rfl dX3_reset_54
abbrev w_X3_copyFrom (x0 x1 x2 x3 x4 x5 x6 x7 x8 x9 : Nat) (cI cD : ClassId) (wk : Int32) (rot : Nat → Int32) (arv : Nat → Int32) (dep : Nat → Int32) (pos : Nat → Int32) (wk2 : Int32) (rot2 : Nat → Int32) (arv2 : Nat → Int32) (dep2 : Nat → Int32) (pos2 : Nat → Int32) : va_W := [(x0, .inr (3, [.ref x1, .ref x2, .ref x3, .ref x4, .int wk])), (x1, .inl (cI, 8, .inl rot)), (x2, .inl (cI, 8, .inl arv)), (x3, .inl (cI, 56, .inl dep)), (x4, .inl (cI, 4, .inl pos)), (x5, .inr (3, [.ref x6, .ref x7, .ref x8, .ref x9, .int wk2])), (x6, .inl (cI, 8, .inl rot2)), (x7, .inl (cI, 8, .inl arv2)), (x8, .inl (cI, 56, .inl dep2)), (x9, .inl (cI, 4, .inl pos2))]
theorem kX3_copyFrom_1 : Cond.fieldLink "RotorRouter$State" 9 "RotorRouter$State" "rotors" "[I" ∈ wsX3_copyFrom := List.mem_of_getElem? (i := 1) rfl
theorem kX3_copyFrom_2 : Cond.methodLink "RotorRouter$State" 28 arraycopyName ∈ wsX3_copyFrom := List.mem_of_getElem? (i := 2) rfl
theorem kX3_copyFrom_3 : Cond.native arraycopyName ∈ wsX3_copyFrom := List.mem_of_getElem? (i := 3) rfl
theorem kX3_copyFrom_4 : Cond.static arraycopyName ∈ wsX3_copyFrom := List.mem_of_getElem? (i := 4) rfl
theorem kX3_copyFrom_5 : Cond.initialized "java/lang/System" ∈ wsX3_copyFrom := List.mem_of_getElem? (i := 5) rfl
theorem kX3_copyFrom_6 : Cond.fieldLink "RotorRouter$State" 15 "RotorRouter$State" "arrived" "[I" ∈ wsX3_copyFrom := List.mem_of_getElem? (i := 6) rfl
theorem kX3_copyFrom_7 : Cond.fieldLink "RotorRouter$State" 18 "RotorRouter$State" "departed" "[I" ∈ wsX3_copyFrom := List.mem_of_getElem? (i := 7) rfl
theorem kX3_copyFrom_8 : Cond.fieldLink "RotorRouter$State" 21 "RotorRouter$State" "positions" "[I" ∈ wsX3_copyFrom := List.mem_of_getElem? (i := 8) rfl
theorem kX3_copyFrom_9 : Cond.fieldLink "RotorRouter$State" 24 "RotorRouter$State" "walkers" "I" ∈ wsX3_copyFrom := List.mem_of_getElem? (i := 9) rfl
theorem inX3_copyFrom_X3 : ∀ w ∈ wsX30, w ∈ wsX3_copyFrom := fun _ h => List.mem_cons_of_mem _ (List.mem_append_right _ h)
set_option maxRecDepth 100000 in
set_option maxHeartbeats 4000000 in
theorem c_X3_copyFrom (l : Launch) (D : va_G) (cI cD : ClassId) (x0 x1 x2 x3 x4 x5 x6 x7 x8 x9 : Nat) (wk : Int32) (rot : Nat → Int32) (arv : Nat → Int32) (dep : Nat → Int32) (pos : Nat → Int32) (wk2 : Int32) (rot2 : Nat → Int32) (arv2 : Nat → Int32) (dep2 : Nat → Int32) (pos2 : Nat → Int32)  (u : Int32 × (Nat → Int32) × (Nat → Int32) × (Nat → Int32) × (Nat → Int32)) (h : f_X3_copyFrom wk rot arv dep pos wk2 rot2 arv2 dep2 pos2 = some u) : MetV l yX3_copyFrom wsX3_copyFrom { frames := 1, cells := 0, slots := 0, locals := 40 } D [(cI, .int), (cD, .double)] [.ref x0, .ref x5] (w_X3_copyFrom x0 x1 x2 x3 x4 x5 x6 x7 x8 x9 cI cD wk rot arv dep pos wk2 rot2 arv2 dep2 pos2) (w_X3_copyFrom x0 x1 x2 x3 x4 x5 x6 x7 x8 x9 cI cD u.1 u.2.1 u.2.2.1 u.2.2.2.1 u.2.2.2.2 wk2 rot2 arv2 dep2 pos2) := by
  refine MetV.of (own := RX3) (cc := cX3_copyFrom) (nL := 2) (ret := none) (by decide) rfl rfl (Nat.le_of_ble_eq_true rfl) rfl ?_
  intro p e s m args below meth c A hA C hr hlk
  unfold f_X3_copyFrom at h
  refine wd_aload_n (j := 1) C 1 dX3_copyFrom_0 rfl rfl rfl ?_
  refine wd_get (j := 4) (q0 := 5) (f := 0) (ci := 3) (v := .ref x6) C inX3_copyFrom_X3 kX3_copyFrom_1 rfl (by decide) rfl rfl dX3_copyFrom_1 rfl ?_
  refine wd_iconst (j := 5) (v := 0) C dX3_copyFrom_4 (by decide) rfl ?_
  refine wd_aload_n (j := 6) C 0 dX3_copyFrom_5 rfl rfl rfl ?_
  refine wd_get (j := 9) (q0 := 0) (f := 0) (ci := 3) (v := .ref x1) C inX3_copyFrom_X3 kX3_copyFrom_1 rfl (by decide) rfl rfl dX3_copyFrom_6 rfl ?_
  refine wd_iconst (j := 10) (v := 0) C dX3_copyFrom_9 (by decide) rfl ?_
  refine wd_bipush (j := 12) (v := 8) C dX3_copyFrom_10 (by decide) rfl ?_
  refine wd_copy (j := 15) (q0 := 6) (q1 := 1) (t0 := 0) (sp0 := 0) (dp0 := 0) (w0 := 8) (ws' := (w_X3_copyFrom x0 x1 x2 x3 x4 x5 x6 x7 x8 x9 cI cD wk (va_cpy rot2 rot 0 0 8) arv dep pos wk2 rot2 arv2 dep2 pos2)) C kX3_copyFrom_2 kX3_copyFrom_3 kX3_copyFrom_4 kX3_copyFrom_5 rfl rfl rfl (by decide) (by decide) (by decide) (by decide) (by decide) (by decide) (by decide) (by decide) (Nat.le_of_ble_eq_true rfl) (by decide) rfl dX3_copyFrom_12 rfl ?_
  refine wd_aload_n (j := 16) C 1 dX3_copyFrom_15 rfl rfl rfl ?_
  refine wd_get (j := 19) (q0 := 5) (f := 1) (ci := 3) (v := .ref x7) C inX3_copyFrom_X3 kX3_copyFrom_6 rfl (by decide) rfl rfl dX3_copyFrom_16 rfl ?_
  refine wd_iconst (j := 20) (v := 0) C dX3_copyFrom_19 (by decide) rfl ?_
  refine wd_aload_n (j := 21) C 0 dX3_copyFrom_20 rfl rfl rfl ?_
  refine wd_get (j := 24) (q0 := 0) (f := 1) (ci := 3) (v := .ref x2) C inX3_copyFrom_X3 kX3_copyFrom_6 rfl (by decide) rfl rfl dX3_copyFrom_21 rfl ?_
  refine wd_iconst (j := 25) (v := 0) C dX3_copyFrom_24 (by decide) rfl ?_
  refine wd_bipush (j := 27) (v := 8) C dX3_copyFrom_25 (by decide) rfl ?_
  refine wd_copy (j := 30) (q0 := 7) (q1 := 2) (t0 := 0) (sp0 := 0) (dp0 := 0) (w0 := 8) (ws' := (w_X3_copyFrom x0 x1 x2 x3 x4 x5 x6 x7 x8 x9 cI cD wk (va_cpy rot2 rot 0 0 8) (va_cpy arv2 arv 0 0 8) dep pos wk2 rot2 arv2 dep2 pos2)) C kX3_copyFrom_2 kX3_copyFrom_3 kX3_copyFrom_4 kX3_copyFrom_5 rfl rfl rfl (by decide) (by decide) (by decide) (by decide) (by decide) (by decide) (by decide) (by decide) (Nat.le_of_ble_eq_true rfl) (by decide) rfl dX3_copyFrom_27 rfl ?_
  refine wd_aload_n (j := 31) C 1 dX3_copyFrom_30 rfl rfl rfl ?_
  refine wd_get (j := 34) (q0 := 5) (f := 2) (ci := 3) (v := .ref x8) C inX3_copyFrom_X3 kX3_copyFrom_7 rfl (by decide) rfl rfl dX3_copyFrom_31 rfl ?_
  refine wd_iconst (j := 35) (v := 0) C dX3_copyFrom_34 (by decide) rfl ?_
  refine wd_aload_n (j := 36) C 0 dX3_copyFrom_35 rfl rfl rfl ?_
  refine wd_get (j := 39) (q0 := 0) (f := 2) (ci := 3) (v := .ref x3) C inX3_copyFrom_X3 kX3_copyFrom_7 rfl (by decide) rfl rfl dX3_copyFrom_36 rfl ?_
  refine wd_iconst (j := 40) (v := 0) C dX3_copyFrom_39 (by decide) rfl ?_
  refine wd_bipush (j := 42) (v := 56) C dX3_copyFrom_40 (by decide) rfl ?_
  refine wd_copy (j := 45) (q0 := 8) (q1 := 3) (t0 := 0) (sp0 := 0) (dp0 := 0) (w0 := 56) (ws' := (w_X3_copyFrom x0 x1 x2 x3 x4 x5 x6 x7 x8 x9 cI cD wk (va_cpy rot2 rot 0 0 8) (va_cpy arv2 arv 0 0 8) (va_cpy dep2 dep 0 0 56) pos wk2 rot2 arv2 dep2 pos2)) C kX3_copyFrom_2 kX3_copyFrom_3 kX3_copyFrom_4 kX3_copyFrom_5 rfl rfl rfl (by decide) (by decide) (by decide) (by decide) (by decide) (by decide) (by decide) (by decide) (Nat.le_of_ble_eq_true rfl) (by decide) rfl dX3_copyFrom_42 rfl ?_
  refine wd_aload_n (j := 46) C 1 dX3_copyFrom_45 rfl rfl rfl ?_
  refine wd_get (j := 49) (q0 := 5) (f := 3) (ci := 3) (v := .ref x9) C inX3_copyFrom_X3 kX3_copyFrom_8 rfl (by decide) rfl rfl dX3_copyFrom_46 rfl ?_
  refine wd_iconst (j := 50) (v := 0) C dX3_copyFrom_49 (by decide) rfl ?_
  refine wd_aload_n (j := 51) C 0 dX3_copyFrom_50 rfl rfl rfl ?_
  refine wd_get (j := 54) (q0 := 0) (f := 3) (ci := 3) (v := .ref x4) C inX3_copyFrom_X3 kX3_copyFrom_8 rfl (by decide) rfl rfl dX3_copyFrom_51 rfl ?_
  refine wd_iconst (j := 55) (v := 0) C dX3_copyFrom_54 (by decide) rfl ?_
  refine wd_iconst (j := 56) (v := 4) C dX3_copyFrom_55 (by decide) rfl ?_
  refine wd_copy (j := 59) (q0 := 9) (q1 := 4) (t0 := 0) (sp0 := 0) (dp0 := 0) (w0 := 4) (ws' := (w_X3_copyFrom x0 x1 x2 x3 x4 x5 x6 x7 x8 x9 cI cD wk (va_cpy rot2 rot 0 0 8) (va_cpy arv2 arv 0 0 8) (va_cpy dep2 dep 0 0 56) (va_cpy pos2 pos 0 0 4) wk2 rot2 arv2 dep2 pos2)) C kX3_copyFrom_2 kX3_copyFrom_3 kX3_copyFrom_4 kX3_copyFrom_5 rfl rfl rfl (by decide) (by decide) (by decide) (by decide) (by decide) (by decide) (by decide) (by decide) (Nat.le_of_ble_eq_true rfl) (by decide) rfl dX3_copyFrom_56 rfl ?_
  refine wd_aload_n (j := 60) C 0 dX3_copyFrom_59 rfl rfl rfl ?_
  refine wd_aload_n (j := 61) C 1 dX3_copyFrom_60 rfl rfl rfl ?_
  refine wd_get (j := 64) (q0 := 5) (f := 4) (ci := 3) (v := .int wk2) C inX3_copyFrom_X3 kX3_copyFrom_9 rfl (by decide) rfl rfl dX3_copyFrom_61 rfl ?_
  refine wd_put (j := 67) (q0 := 0) (f := 4) (ci := 3) (ws' := (w_X3_copyFrom x0 x1 x2 x3 x4 x5 x6 x7 x8 x9 cI cD wk2 (va_cpy rot2 rot 0 0 8) (va_cpy arv2 arv 0 0 8) (va_cpy dep2 dep 0 0 56) (va_cpy pos2 pos 0 0 4) wk2 rot2 arv2 dep2 pos2)) C inX3_copyFrom_X3 tyX3 tyX3_ok nmX3 kX3_copyFrom_9 rfl (by decide) rfl rfl rfl rfl (Nat.le_of_ble_eq_true rfl) rfl dX3_copyFrom_64 rfl ?_
  obtain rfl := Option.some.inj h
  exact wd_vret C hA hr hlk rfl dX3_copyFrom_67
abbrev w_X3_hasWalker (x0 x1 x2 x3 x4 : Nat) (cI cD : ClassId) (wk : Int32) : va_W := [(x0, .inr (3, [.ref x1, .ref x2, .ref x3, .ref x4, .int wk]))]
theorem kX3_hasWalker_1 : Cond.fieldLink "RotorRouter$State" 24 "RotorRouter$State" "walkers" "I" ∈ wsX3_hasWalker := List.mem_of_getElem? (i := 1) rfl
theorem inX3_hasWalker_X3 : ∀ w ∈ wsX30, w ∈ wsX3_hasWalker := fun _ h => List.mem_cons_of_mem _ (List.mem_append_right _ h)
set_option maxRecDepth 100000 in
set_option maxHeartbeats 4000000 in
theorem c_X3_hasWalker (l : Launch) (D : va_G) (cI cD : ClassId) (x0 x1 x2 x3 x4 : Nat) (wk : Int32) (p1 : Int32) (u : Int32) (h : f_X3_hasWalker wk p1 = some u) : MetI l yX3_hasWalker wsX3_hasWalker { frames := 0, cells := 0, slots := 0, locals := 0 } D [(cI, .int), (cD, .double)] [.ref x0, .int p1] (w_X3_hasWalker x0 x1 x2 x3 x4 cI cD wk) u (w_X3_hasWalker x0 x1 x2 x3 x4 cI cD wk) := by
  refine MetI.of (own := RX3) (cc := cX3_hasWalker) (nL := 2) (ret := (some .boolean)) (by decide) rfl rfl (Nat.le_of_ble_eq_true rfl) rfl ?_
  intro p e s m args below meth c A hA C hr hlk
  unfold f_X3_hasWalker at h
  refine wd_iload_n (j := 1) C 1 dX3_hasWalker_0 rfl rfl rfl ?_
  refine wd_if_lt (j := 4) (t := 16) C dX3_hasWalker_1 (by decide) rfl (fun c1 => ?_) (fun c1 => ?_)
  · replace h := (if_pos c1).symm.trans h
    refine wd_iconst (j := 17) (v := 0) C dX3_hasWalker_16 (by decide) rfl ?_
    obtain rfl := Option.some.inj h
    exact wd_iret C hA hr hlk rfl rfl rfl dX3_hasWalker_17
  · replace h := (if_neg c1).symm.trans h
    refine wd_iload_n (j := 5) C 1 dX3_hasWalker_4 rfl rfl rfl ?_
    refine wd_aload_n (j := 6) C 0 dX3_hasWalker_5 rfl rfl rfl ?_
    refine wd_get (j := 9) (q0 := 0) (f := 4) (ci := 3) (v := .int wk) C inX3_hasWalker_X3 kX3_hasWalker_1 rfl (by decide) rfl rfl dX3_hasWalker_6 rfl ?_
    refine wd_icmp_ge (j := 12) (t := 16) C dX3_hasWalker_9 (by decide) rfl (fun c2 => ?_) (fun c2 => ?_)
    · replace h := (if_pos c2).symm.trans h
      refine wd_iconst (j := 17) (v := 0) C dX3_hasWalker_16 (by decide) rfl ?_
      obtain rfl := Option.some.inj h
      exact wd_iret C hA hr hlk rfl rfl rfl dX3_hasWalker_17
    · replace h := (if_neg c2).symm.trans h
      refine wd_iconst (j := 13) (v := 1) C dX3_hasWalker_12 (by decide) rfl ?_
      refine wd_goto (t := 17) C dX3_hasWalker_13 (by decide) ?_
      obtain rfl := Option.some.inj h
      exact wd_iret C hA hr hlk rfl rfl rfl dX3_hasWalker_17
abbrev w_X3_move (x0 x1 x2 x3 x4 x5 x6 x7 : Nat) (cI cD : ClassId) (wk : Int32) (rot : Nat → Int32) (arv : Nat → Int32) (dep : Nat → Int32) (pos : Nat → Int32) (nodes : Int32) (links : Int32) (deg : Nat → Int32) (nbr : Nat → Int32) : va_W := [(x0, .inr (3, [.ref x1, .ref x2, .ref x3, .ref x4, .int wk])), (x1, .inl (cI, 8, .inl rot)), (x2, .inl (cI, 8, .inl arv)), (x3, .inl (cI, 56, .inl dep)), (x4, .inl (cI, 4, .inl pos)), (x5, .inr (0, [.ref x6, .ref x7, .int nodes, .int links])), (x6, .inl (cI, 8, .inl deg)), (x7, .inl (cI, 56, .inl nbr))]
theorem kX3_move_1 : Cond.fieldLink "RotorRouter$State" 21 "RotorRouter$State" "positions" "[I" ∈ wsX3_move := List.mem_of_getElem? (i := 1) rfl
theorem kX3_move_2 : Cond.fieldLink "RotorRouter$State" 9 "RotorRouter$State" "rotors" "[I" ∈ wsX3_move := List.mem_of_getElem? (i := 2) rfl
theorem kX3_move_3 : Cond.fieldLink "RotorRouter$State" 40 "RotorRouter$Graph" "neighbors" "[I" ∈ wsX3_move := List.mem_of_getElem? (i := 3) rfl
theorem kX3_move_4 : Cond.fieldLink "RotorRouter$State" 18 "RotorRouter$State" "departed" "[I" ∈ wsX3_move := List.mem_of_getElem? (i := 4) rfl
theorem kX3_move_5 : Cond.fieldLink "RotorRouter$State" 15 "RotorRouter$State" "arrived" "[I" ∈ wsX3_move := List.mem_of_getElem? (i := 5) rfl
theorem inX3_move_X3 : ∀ w ∈ wsX30, w ∈ wsX3_move := fun _ h => List.mem_cons_of_mem _ (List.mem_append_left _ (List.mem_append_right _ h))
theorem inX3_move_X0 : ∀ w ∈ wsX00, w ∈ wsX3_move := fun _ h => List.mem_cons_of_mem _ (List.mem_append_right _ h)
set_option maxRecDepth 100000 in
set_option maxHeartbeats 4000000 in
theorem c_X3_move (l : Launch) (D : va_G) (cI cD : ClassId) (x0 x1 x2 x3 x4 x5 x6 x7 : Nat) (wk : Int32) (rot : Nat → Int32) (arv : Nat → Int32) (dep : Nat → Int32) (pos : Nat → Int32) (nodes : Int32) (links : Int32) (deg : Nat → Int32) (nbr : Nat → Int32) (p1 : Int32) (u : (Nat → Int32) × (Nat → Int32) × (Nat → Int32) × (Nat → Int32)) (h : f_X3_move rot arv dep pos deg nbr p1 = some u) : MetV l yX3_move wsX3_move { frames := 1, cells := 0, slots := 0, locals := 23 } D [(cI, .int), (cD, .double)] [.ref x0, .int p1, .ref x5] (w_X3_move x0 x1 x2 x3 x4 x5 x6 x7 cI cD wk rot arv dep pos nodes links deg nbr) (w_X3_move x0 x1 x2 x3 x4 x5 x6 x7 cI cD wk u.1 u.2.1 u.2.2.1 u.2.2.2 nodes links deg nbr) := by
  refine MetV.of (own := RX3) (cc := cX3_move) (nL := 6) (ret := none) (by decide) rfl rfl (Nat.le_of_ble_eq_true rfl) rfl ?_
  intro p e s m args below meth c A hA C hr hlk
  unfold f_X3_move at h
  refine wd_aload_n (j := 1) C 0 dX3_move_0 rfl rfl rfl ?_
  refine wd_get (j := 4) (q0 := 0) (f := 3) (ci := 3) (v := .ref x4) C inX3_move_X3 kX3_move_1 rfl (by decide) rfl rfl dX3_move_1 rfl ?_
  refine wd_iload_n (j := 5) C 1 dX3_move_4 rfl rfl rfl ?_
  obtain ⟨g1, h⟩ := grd_some h
  refine wd_iald (j := 6) (q0 := 4) (t0 := 0) C rfl rfl (inB_in g1) dX3_move_5 rfl ?_
  refine wd_istore_n (j := 7) (lv' := [(3, .int (pos p1.toNatClampNeg)), (0, .ref x0), (1, .int p1), (2, .ref x5)]) C dX3_move_6 rfl (by decide) rfl rfl ?_
  refine wd_iload_n (j := 8) C 0 dX3_move_7 rfl rfl rfl ?_
  refine wd_aload_n (j := 9) C 1 dX3_move_8 rfl rfl rfl ?_
  refine wd_get (j := 12) (q0 := 0) (f := 0) (ci := 3) (v := .ref x1) C inX3_move_X3 kX3_move_2 rfl (by decide) rfl rfl dX3_move_9 rfl ?_
  refine wd_iload_n (j := 13) C 0 dX3_move_12 rfl rfl rfl ?_
  obtain ⟨g2, h⟩ := grd_some h
  refine wd_iald (j := 14) (q0 := 1) (t0 := 0) C rfl rfl (inB_in g2) dX3_move_13 rfl ?_
  obtain ⟨u3, hu3, h⟩ := bnd_some h
  refine wd_callSi (j := 17) (As := [.int (pos p1.toNatClampNeg), .int (rot (pos p1.toNatClampNeg).toNatClampNeg)]) (rest := []) (ws' := (w_X3_move x0 x1 x2 x3 x4 x5 x6 x7 cI cD wk rot arv dep pos nodes links deg nbr)) C (c_X0_slot l D cI cD (pos p1.toNatClampNeg) (rot (pos p1.toNatClampNeg).toNatClampNeg) u3 hu3) (va_cwS 2 C.1.2.2.2.2 gX3_move_X0_slot rfl rfl rfl (by decide +kernel) ⟨Nat.le_of_ble_eq_true rfl, Nat.le_of_ble_eq_true rfl⟩) [] [0, 1, 2, 3, 4, 5, 6, 7] rfl rfl rfl rfl (by decide) [0, 1, 2, 3, 4, 5, 6, 7] rfl rfl rfl (Nat.le_of_ble_eq_true rfl) (Nat.le_of_ble_eq_true rfl) (Nat.le_of_ble_eq_true rfl) dX3_move_14 rfl ?_
  refine wd_istore (j := 19) (lv' := [(4, .int u3), (3, .int (pos p1.toNatClampNeg)), (0, .ref x0), (1, .int p1), (2, .ref x5)]) C dX3_move_17 (by decide) rfl rfl ?_
  refine wd_aload_n (j := 20) C 4 dX3_move_19 rfl rfl rfl ?_
  refine wd_get (j := 23) (q0 := 5) (f := 1) (ci := 0) (v := .ref x7) C inX3_move_X0 kX3_move_3 rfl (by decide) rfl rfl dX3_move_20 rfl ?_
  refine wd_iload (j := 25) C 0 dX3_move_23 rfl rfl ?_
  obtain ⟨g4, h⟩ := grd_some h
  refine wd_iald (j := 26) (q0 := 7) (t0 := 0) C rfl rfl (inB_in g4) dX3_move_25 rfl ?_
  refine wd_istore (j := 28) (lv' := [(5, .int (nbr u3.toNatClampNeg)), (4, .int u3), (3, .int (pos p1.toNatClampNeg)), (0, .ref x0), (1, .int p1), (2, .ref x5)]) C dX3_move_26 (by decide) rfl rfl ?_
  refine wd_aload_n (j := 29) C 3 dX3_move_28 rfl rfl rfl ?_
  refine wd_get (j := 32) (q0 := 0) (f := 2) (ci := 3) (v := .ref x3) C inX3_move_X3 kX3_move_4 rfl (by decide) rfl rfl dX3_move_29 rfl ?_
  refine wd_iload (j := 34) C 1 dX3_move_32 rfl rfl ?_
  refine wd_dup2 (j := 35) C dX3_move_34 rfl rfl rfl ?_
  obtain ⟨g5, h⟩ := grd_some h
  refine wd_iald (j := 36) (q0 := 3) (t0 := 0) C rfl rfl (inB_in g5) dX3_move_35 rfl ?_
  refine wd_iconst (j := 37) (v := 1) C dX3_move_36 (by decide) rfl ?_
  refine wd_iadd (j := 38) C dX3_move_37 rfl ?_
  obtain ⟨g6, h⟩ := grd_some h
  refine wd_iast (j := 39) (q0 := 3) (t0 := 0) (ws' := (w_X3_move x0 x1 x2 x3 x4 x5 x6 x7 cI cD wk rot arv (upd dep u3.toNatClampNeg ((dep u3.toNatClampNeg) + (1 : Int32))) pos nodes links deg nbr)) C rfl rfl (inB_in g6) rfl dX3_move_38 rfl ?_
  refine wd_aload_n (j := 40) C 3 dX3_move_39 rfl rfl rfl ?_
  refine wd_get (j := 43) (q0 := 0) (f := 1) (ci := 3) (v := .ref x2) C inX3_move_X3 kX3_move_5 rfl (by decide) rfl rfl dX3_move_40 rfl ?_
  refine wd_iload (j := 45) C 0 dX3_move_43 rfl rfl ?_
  refine wd_dup2 (j := 46) C dX3_move_45 rfl rfl rfl ?_
  obtain ⟨g7, h⟩ := grd_some h
  refine wd_iald (j := 47) (q0 := 2) (t0 := 0) C rfl rfl (inB_in g7) dX3_move_46 rfl ?_
  refine wd_iconst (j := 48) (v := 1) C dX3_move_47 (by decide) rfl ?_
  refine wd_iadd (j := 49) C dX3_move_48 rfl ?_
  obtain ⟨g8, h⟩ := grd_some h
  refine wd_iast (j := 50) (q0 := 2) (t0 := 0) (ws' := (w_X3_move x0 x1 x2 x3 x4 x5 x6 x7 cI cD wk rot (upd arv (nbr u3.toNatClampNeg).toNatClampNeg ((arv (nbr u3.toNatClampNeg).toNatClampNeg) + (1 : Int32))) (upd dep u3.toNatClampNeg ((dep u3.toNatClampNeg) + (1 : Int32))) pos nodes links deg nbr)) C rfl rfl (inB_in g8) rfl dX3_move_49 rfl ?_
  refine wd_aload_n (j := 51) C 3 dX3_move_50 rfl rfl rfl ?_
  refine wd_get (j := 54) (q0 := 0) (f := 0) (ci := 3) (v := .ref x1) C inX3_move_X3 kX3_move_2 rfl (by decide) rfl rfl dX3_move_51 rfl ?_
  refine wd_iload_n (j := 55) C 2 dX3_move_54 rfl rfl rfl ?_
  refine wd_aload_n (j := 56) C 5 dX3_move_55 rfl rfl rfl ?_
  refine wd_iload_n (j := 57) C 2 dX3_move_56 rfl rfl rfl ?_
  refine wd_aload_n (j := 58) C 3 dX3_move_57 rfl rfl rfl ?_
  refine wd_get (j := 61) (q0 := 0) (f := 0) (ci := 3) (v := .ref x1) C inX3_move_X3 kX3_move_2 rfl (by decide) rfl rfl dX3_move_58 rfl ?_
  refine wd_iload_n (j := 62) C 2 dX3_move_61 rfl rfl rfl ?_
  obtain ⟨g9, h⟩ := grd_some h
  refine wd_iald (j := 63) (q0 := 1) (t0 := 0) C rfl rfl (inB_in g9) dX3_move_62 rfl ?_
  obtain ⟨u10, hu10, h⟩ := bnd_some h
  refine wd_callVi (j := 66) (q0 := 0) (ci := 0) (As := [.int (pos p1.toNatClampNeg), .int (rot (pos p1.toNatClampNeg).toNatClampNeg)]) (rest := [.int (pos p1.toNatClampNeg), .ref x1]) (ws' := (w_X3_move x0 x1 x2 x3 x4 x5 x6 x7 cI cD wk rot (upd arv (nbr u3.toNatClampNeg).toNatClampNeg ((arv (nbr u3.toNatClampNeg).toNatClampNeg) + (1 : Int32))) (upd dep u3.toNatClampNeg ((dep u3.toNatClampNeg) + (1 : Int32))) pos nodes links deg nbr)) C (c_X0_rotorAfter l D cI cD x5 x6 x7 nodes links deg (pos p1.toNatClampNeg) (rot (pos p1.toNatClampNeg).toNatClampNeg) u10 hu10) (cwV 2 C.1.2.2.2.2 gX3_move_X0_rotorAfter rfl rfl rfl (by decide +kernel) ⟨Nat.le_of_ble_eq_true rfl, Nat.le_of_ble_eq_true rfl⟩) rfl rfl [5, 6] [0, 1, 2, 3, 4, 7] rfl rfl rfl rfl (by decide) [0, 1, 2, 3, 4, 6, 7, 5] rfl rfl rfl (Nat.le_of_ble_eq_true rfl) (Nat.le_of_ble_eq_true rfl) (Nat.le_of_ble_eq_true rfl) dX3_move_63 rfl ?_
  obtain ⟨g11, h⟩ := grd_some h
  refine wd_iast (j := 67) (q0 := 1) (t0 := 0) (ws' := (w_X3_move x0 x1 x2 x3 x4 x5 x6 x7 cI cD wk (upd rot (pos p1.toNatClampNeg).toNatClampNeg u10) (upd arv (nbr u3.toNatClampNeg).toNatClampNeg ((arv (nbr u3.toNatClampNeg).toNatClampNeg) + (1 : Int32))) (upd dep u3.toNatClampNeg ((dep u3.toNatClampNeg) + (1 : Int32))) pos nodes links deg nbr)) C rfl rfl (inB_in g11) rfl dX3_move_66 rfl ?_
  refine wd_aload_n (j := 68) C 3 dX3_move_67 rfl rfl rfl ?_
  refine wd_get (j := 71) (q0 := 0) (f := 3) (ci := 3) (v := .ref x4) C inX3_move_X3 kX3_move_1 rfl (by decide) rfl rfl dX3_move_68 rfl ?_
  refine wd_iload_n (j := 72) C 4 dX3_move_71 rfl rfl rfl ?_
  refine wd_iload (j := 74) C 0 dX3_move_72 rfl rfl ?_
  obtain ⟨g12, h⟩ := grd_some h
  refine wd_iast (j := 75) (q0 := 4) (t0 := 0) (ws' := (w_X3_move x0 x1 x2 x3 x4 x5 x6 x7 cI cD wk (upd rot (pos p1.toNatClampNeg).toNatClampNeg u10) (upd arv (nbr u3.toNatClampNeg).toNatClampNeg ((arv (nbr u3.toNatClampNeg).toNatClampNeg) + (1 : Int32))) (upd dep u3.toNatClampNeg ((dep u3.toNatClampNeg) + (1 : Int32))) (upd pos p1.toNatClampNeg (nbr u3.toNatClampNeg)) nodes links deg nbr)) C rfl rfl (inB_in g12) rfl dX3_move_74 rfl ?_
  obtain rfl := Option.some.inj h
  exact wd_vret C hA hr hlk rfl dX3_move_75
end
