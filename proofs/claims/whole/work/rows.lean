section
-- ===== PART A: goes FIRST, ahead of the names: the tables' words, and 'selects' of the private methods out of them =====
/-- a private method of a class that the tables say can be made, by its rows of tables_1 -/
def lw_okq (q : MethodName × Nat) : Prop := (q.1.cls ≠ "java/lang/invoke/MethodHandle" ∧ q.1.cls ≠ "java/lang/invoke/VarHandle") ∧ Cond.instantiable q.1.cls q.2 ∈ tables_1 ∧ Cond.privateMethod q.1 ∈ tables_1 ∧ Cond.instanceMethod q.1 ∈ tables_1
theorem lw_p0 : lw_okq (⟨"RadioCues", "holdState", "()V"⟩, 7) := ⟨⟨by decide +kernel, by decide +kernel⟩, List.mem_of_getElem? (i := 18) (by decide +kernel), List.mem_of_getElem? (i := 285) (by decide +kernel), List.mem_of_getElem? (i := 286) (by decide +kernel)⟩
theorem lw_p1 : lw_okq (⟨"RadioCues", "recorded", "(I)I"⟩, 7) := ⟨⟨by decide +kernel, by decide +kernel⟩, List.mem_of_getElem? (i := 18) (by decide +kernel), List.mem_of_getElem? (i := 338) (by decide +kernel), List.mem_of_getElem? (i := 339) (by decide +kernel)⟩
theorem lw_p2 : lw_okq (⟨"RadioCues", "dropOldestState", "()V"⟩, 7) := ⟨⟨by decide +kernel, by decide +kernel⟩, List.mem_of_getElem? (i := 18) (by decide +kernel), List.mem_of_getElem? (i := 342) (by decide +kernel), List.mem_of_getElem? (i := 343) (by decide +kernel)⟩
theorem lw_p3 : lw_okq (⟨"RadioCues", "missedInTrial", "()I"⟩, 7) := ⟨⟨by decide +kernel, by decide +kernel⟩, List.mem_of_getElem? (i := 18) (by decide +kernel), List.mem_of_getElem? (i := 590) (by decide +kernel), List.mem_of_getElem? (i := 591) (by decide +kernel)⟩
theorem lw_p4 : lw_okq (⟨"RadioCues", "missesWith", "(I)Z"⟩, 7) := ⟨⟨by decide +kernel, by decide +kernel⟩, List.mem_of_getElem? (i := 18) (by decide +kernel), List.mem_of_getElem? (i := 600) (by decide +kernel), List.mem_of_getElem? (i := 601) (by decide +kernel)⟩
theorem lw_p5 : lw_okq (⟨"RadioCues", "answerOfOrder", "()I"⟩, 7) := ⟨⟨by decide +kernel, by decide +kernel⟩, List.mem_of_getElem? (i := 18) (by decide +kernel), List.mem_of_getElem? (i := 726) (by decide +kernel), List.mem_of_getElem? (i := 727) (by decide +kernel)⟩
theorem lw_p6 : lw_okq (⟨"RadioCuesModel", "changes", "()V"⟩, 12) := ⟨⟨by decide +kernel, by decide +kernel⟩, List.mem_of_getElem? (i := 742) (by decide +kernel), List.mem_of_getElem? (i := 798) (by decide +kernel), List.mem_of_getElem? (i := 799) (by decide +kernel)⟩
theorem lw_p7 : lw_okq (⟨"RadioCuesModel", "reel", "(II)I"⟩, 12) := ⟨⟨by decide +kernel, by decide +kernel⟩, List.mem_of_getElem? (i := 742) (by decide +kernel), List.mem_of_getElem? (i := 809) (by decide +kernel), List.mem_of_getElem? (i := 810) (by decide +kernel)⟩
theorem lw_p8 : lw_okq (⟨"RadioCuesModel", "turn", "(III)V"⟩, 12) := ⟨⟨by decide +kernel, by decide +kernel⟩, List.mem_of_getElem? (i := 742) (by decide +kernel), List.mem_of_getElem? (i := 816) (by decide +kernel), List.mem_of_getElem? (i := 817) (by decide +kernel)⟩
theorem lw_p9 : lw_okq (⟨"RadioCuesModel", "isSound", "(II)Z"⟩, 12) := ⟨⟨by decide +kernel, by decide +kernel⟩, List.mem_of_getElem? (i := 742) (by decide +kernel), List.mem_of_getElem? (i := 824) (by decide +kernel), List.mem_of_getElem? (i := 825) (by decide +kernel)⟩
theorem lw_p10 : lw_okq (⟨"RadioCuesModel", "opens", "(I)I"⟩, 12) := ⟨⟨by decide +kernel, by decide +kernel⟩, List.mem_of_getElem? (i := 742) (by decide +kernel), List.mem_of_getElem? (i := 828) (by decide +kernel), List.mem_of_getElem? (i := 829) (by decide +kernel)⟩
theorem lw_p11 : lw_okq (⟨"RadioCuesModel", "of", "(II)I"⟩, 12) := ⟨⟨by decide +kernel, by decide +kernel⟩, List.mem_of_getElem? (i := 742) (by decide +kernel), List.mem_of_getElem? (i := 832) (by decide +kernel), List.mem_of_getElem? (i := 833) (by decide +kernel)⟩
theorem lw_p12 : lw_okq (⟨"RadioCuesModel", "lay", "(III)V"⟩, 12) := ⟨⟨by decide +kernel, by decide +kernel⟩, List.mem_of_getElem? (i := 742) (by decide +kernel), List.mem_of_getElem? (i := 836) (by decide +kernel), List.mem_of_getElem? (i := 837) (by decide +kernel)⟩
theorem lw_p13 : lw_okq (⟨"RadioCuesModel", "isCue", "(I)Z"⟩, 12) := ⟨⟨by decide +kernel, by decide +kernel⟩, List.mem_of_getElem? (i := 742) (by decide +kernel), List.mem_of_getElem? (i := 844) (by decide +kernel), List.mem_of_getElem? (i := 845) (by decide +kernel)⟩
theorem lw_p14 : lw_okq (⟨"RadioCuesModel", "closes", "(I)V"⟩, 12) := ⟨⟨by decide +kernel, by decide +kernel⟩, List.mem_of_getElem? (i := 742) (by decide +kernel), List.mem_of_getElem? (i := 848) (by decide +kernel), List.mem_of_getElem? (i := 849) (by decide +kernel)⟩
theorem lw_p15 : lw_okq (⟨"RadioCuesModel", "whyNotMoved", "(II)I"⟩, 12) := ⟨⟨by decide +kernel, by decide +kernel⟩, List.mem_of_getElem? (i := 742) (by decide +kernel), List.mem_of_getElem? (i := 856) (by decide +kernel), List.mem_of_getElem? (i := 857) (by decide +kernel)⟩
def lw_privs_1 : List (MethodName × Nat) := [(⟨"RadioCues", "holdState", "()V"⟩, 7), (⟨"RadioCues", "recorded", "(I)I"⟩, 7), (⟨"RadioCues", "dropOldestState", "()V"⟩, 7), (⟨"RadioCues", "missedInTrial", "()I"⟩, 7), (⟨"RadioCues", "missesWith", "(I)Z"⟩, 7), (⟨"RadioCues", "answerOfOrder", "()I"⟩, 7), (⟨"RadioCuesModel", "changes", "()V"⟩, 12), (⟨"RadioCuesModel", "reel", "(II)I"⟩, 12), (⟨"RadioCuesModel", "turn", "(III)V"⟩, 12), (⟨"RadioCuesModel", "isSound", "(II)Z"⟩, 12), (⟨"RadioCuesModel", "opens", "(I)I"⟩, 12), (⟨"RadioCuesModel", "of", "(II)I"⟩, 12), (⟨"RadioCuesModel", "lay", "(III)V"⟩, 12), (⟨"RadioCuesModel", "isCue", "(I)Z"⟩, 12), (⟨"RadioCuesModel", "closes", "(I)V"⟩, 12), (⟨"RadioCuesModel", "whyNotMoved", "(II)I"⟩, 12)]
theorem lw_r1 : ∀ q ∈ lw_privs_1, lw_okq q := List.forall_mem_cons.mpr ⟨lw_p0, List.forall_mem_cons.mpr ⟨lw_p1, List.forall_mem_cons.mpr ⟨lw_p2, List.forall_mem_cons.mpr ⟨lw_p3, List.forall_mem_cons.mpr ⟨lw_p4, List.forall_mem_cons.mpr ⟨lw_p5, List.forall_mem_cons.mpr ⟨lw_p6, List.forall_mem_cons.mpr ⟨lw_p7, List.forall_mem_cons.mpr ⟨lw_p8, List.forall_mem_cons.mpr ⟨lw_p9, List.forall_mem_cons.mpr ⟨lw_p10, List.forall_mem_cons.mpr ⟨lw_p11, List.forall_mem_cons.mpr ⟨lw_p12, List.forall_mem_cons.mpr ⟨lw_p13, List.forall_mem_cons.mpr ⟨lw_p14, List.forall_mem_cons.mpr ⟨lw_p15, fun _ h => absurd h List.not_mem_nil⟩⟩⟩⟩⟩⟩⟩⟩⟩⟩⟩⟩⟩⟩⟩⟩
theorem lw_p16 : lw_okq (⟨"RadioCuesModel", "moves", "(II)I"⟩, 12) := ⟨⟨by decide +kernel, by decide +kernel⟩, List.mem_of_getElem? (i := 742) (by decide +kernel), List.mem_of_getElem? (i := 860) (by decide +kernel), List.mem_of_getElem? (i := 861) (by decide +kernel)⟩
theorem lw_p17 : lw_okq (⟨"RadioCuesModel", "passes", "()I"⟩, 12) := ⟨⟨by decide +kernel, by decide +kernel⟩, List.mem_of_getElem? (i := 742) (by decide +kernel), List.mem_of_getElem? (i := 876) (by decide +kernel), List.mem_of_getElem? (i := 877) (by decide +kernel)⟩
theorem lw_p18 : lw_okq (⟨"RadioCuesModel", "comes", "(I)I"⟩, 12) := ⟨⟨by decide +kernel, by decide +kernel⟩, List.mem_of_getElem? (i := 742) (by decide +kernel), List.mem_of_getElem? (i := 880) (by decide +kernel), List.mem_of_getElem? (i := 881) (by decide +kernel)⟩
theorem lw_p19 : lw_okq (⟨"RadioCuesModel", "beginning", "(II)I"⟩, 12) := ⟨⟨by decide +kernel, by decide +kernel⟩, List.mem_of_getElem? (i := 742) (by decide +kernel), List.mem_of_getElem? (i := 884) (by decide +kernel), List.mem_of_getElem? (i := 885) (by decide +kernel)⟩
theorem lw_p20 : lw_okq (⟨"RadioCuesModel", "starts", "(II)V"⟩, 12) := ⟨⟨by decide +kernel, by decide +kernel⟩, List.mem_of_getElem? (i := 742) (by decide +kernel), List.mem_of_getElem? (i := 888) (by decide +kernel), List.mem_of_getElem? (i := 889) (by decide +kernel)⟩
theorem lw_p21 : lw_okq (⟨"RadioCuesModel", "heard", "()I"⟩, 12) := ⟨⟨by decide +kernel, by decide +kernel⟩, List.mem_of_getElem? (i := 742) (by decide +kernel), List.mem_of_getElem? (i := 895) (by decide +kernel), List.mem_of_getElem? (i := 896) (by decide +kernel)⟩
theorem lw_p22 : lw_okq (⟨"RadioCuesModel", "gives", "(II)I"⟩, 12) := ⟨⟨by decide +kernel, by decide +kernel⟩, List.mem_of_getElem? (i := 742) (by decide +kernel), List.mem_of_getElem? (i := 899) (by decide +kernel), List.mem_of_getElem? (i := 900) (by decide +kernel)⟩
theorem lw_p23 : lw_okq (⟨"RadioCuesModel", "goesOn", "(I)V"⟩, 12) := ⟨⟨by decide +kernel, by decide +kernel⟩, List.mem_of_getElem? (i := 742) (by decide +kernel), List.mem_of_getElem? (i := 903) (by decide +kernel), List.mem_of_getElem? (i := 904) (by decide +kernel)⟩
theorem lw_p24 : lw_okq (⟨"RadioCuesModel", "next", "(I)I"⟩, 12) := ⟨⟨by decide +kernel, by decide +kernel⟩, List.mem_of_getElem? (i := 742) (by decide +kernel), List.mem_of_getElem? (i := 907) (by decide +kernel), List.mem_of_getElem? (i := 908) (by decide +kernel)⟩
theorem lw_p25 : lw_okq (⟨"RadioCuesModel", "winds", "(II)V"⟩, 12) := ⟨⟨by decide +kernel, by decide +kernel⟩, List.mem_of_getElem? (i := 742) (by decide +kernel), List.mem_of_getElem? (i := 911) (by decide +kernel), List.mem_of_getElem? (i := 912) (by decide +kernel)⟩
theorem lw_p26 : lw_okq (⟨"RadioCuesModel", "fall", "()V"⟩, 12) := ⟨⟨by decide +kernel, by decide +kernel⟩, List.mem_of_getElem? (i := 742) (by decide +kernel), List.mem_of_getElem? (i := 915) (by decide +kernel), List.mem_of_getElem? (i := 916) (by decide +kernel)⟩
theorem lw_p27 : lw_okq (⟨"RadioCuesModel", "doorsOn", "(I)I"⟩, 12) := ⟨⟨by decide +kernel, by decide +kernel⟩, List.mem_of_getElem? (i := 742) (by decide +kernel), List.mem_of_getElem? (i := 939) (by decide +kernel), List.mem_of_getElem? (i := 940) (by decide +kernel)⟩
theorem lw_p28 : lw_okq (⟨"RadioCuesModel", "cuesThat", "(I)I"⟩, 12) := ⟨⟨by decide +kernel, by decide +kernel⟩, List.mem_of_getElem? (i := 742) (by decide +kernel), List.mem_of_getElem? (i := 951) (by decide +kernel), List.mem_of_getElem? (i := 952) (by decide +kernel)⟩
theorem lw_p29 : lw_okq (⟨"RadioCuesModel", "loudest", "(I)I"⟩, 12) := ⟨⟨by decide +kernel, by decide +kernel⟩, List.mem_of_getElem? (i := 742) (by decide +kernel), List.mem_of_getElem? (i := 955) (by decide +kernel), List.mem_of_getElem? (i := 956) (by decide +kernel)⟩
theorem lw_p30 : lw_okq (⟨"RadioCuesModel", "tooLoud", "(I)I"⟩, 12) := ⟨⟨by decide +kernel, by decide +kernel⟩, List.mem_of_getElem? (i := 742) (by decide +kernel), List.mem_of_getElem? (i := 959) (by decide +kernel), List.mem_of_getElem? (i := 960) (by decide +kernel)⟩
theorem lw_p31 : lw_okq (⟨"RadioCuesModel", "playing", "()I"⟩, 12) := ⟨⟨by decide +kernel, by decide +kernel⟩, List.mem_of_getElem? (i := 742) (by decide +kernel), List.mem_of_getElem? (i := 963) (by decide +kernel), List.mem_of_getElem? (i := 964) (by decide +kernel)⟩
def lw_privs_2 : List (MethodName × Nat) := [(⟨"RadioCuesModel", "moves", "(II)I"⟩, 12), (⟨"RadioCuesModel", "passes", "()I"⟩, 12), (⟨"RadioCuesModel", "comes", "(I)I"⟩, 12), (⟨"RadioCuesModel", "beginning", "(II)I"⟩, 12), (⟨"RadioCuesModel", "starts", "(II)V"⟩, 12), (⟨"RadioCuesModel", "heard", "()I"⟩, 12), (⟨"RadioCuesModel", "gives", "(II)I"⟩, 12), (⟨"RadioCuesModel", "goesOn", "(I)V"⟩, 12), (⟨"RadioCuesModel", "next", "(I)I"⟩, 12), (⟨"RadioCuesModel", "winds", "(II)V"⟩, 12), (⟨"RadioCuesModel", "fall", "()V"⟩, 12), (⟨"RadioCuesModel", "doorsOn", "(I)I"⟩, 12), (⟨"RadioCuesModel", "cuesThat", "(I)I"⟩, 12), (⟨"RadioCuesModel", "loudest", "(I)I"⟩, 12), (⟨"RadioCuesModel", "tooLoud", "(I)I"⟩, 12), (⟨"RadioCuesModel", "playing", "()I"⟩, 12)]
theorem lw_r2 : ∀ q ∈ lw_privs_2, lw_okq q := List.forall_mem_cons.mpr ⟨lw_p16, List.forall_mem_cons.mpr ⟨lw_p17, List.forall_mem_cons.mpr ⟨lw_p18, List.forall_mem_cons.mpr ⟨lw_p19, List.forall_mem_cons.mpr ⟨lw_p20, List.forall_mem_cons.mpr ⟨lw_p21, List.forall_mem_cons.mpr ⟨lw_p22, List.forall_mem_cons.mpr ⟨lw_p23, List.forall_mem_cons.mpr ⟨lw_p24, List.forall_mem_cons.mpr ⟨lw_p25, List.forall_mem_cons.mpr ⟨lw_p26, List.forall_mem_cons.mpr ⟨lw_p27, List.forall_mem_cons.mpr ⟨lw_p28, List.forall_mem_cons.mpr ⟨lw_p29, List.forall_mem_cons.mpr ⟨lw_p30, List.forall_mem_cons.mpr ⟨lw_p31, fun _ h => absurd h List.not_mem_nil⟩⟩⟩⟩⟩⟩⟩⟩⟩⟩⟩⟩⟩⟩⟩⟩
theorem lw_p32 : lw_okq (⟨"RadioCuesModel", "putsAside", "()V"⟩, 12) := ⟨⟨by decide +kernel, by decide +kernel⟩, List.mem_of_getElem? (i := 742) (by decide +kernel), List.mem_of_getElem? (i := 971) (by decide +kernel), List.mem_of_getElem? (i := 972) (by decide +kernel)⟩
theorem lw_p33 : lw_okq (⟨"RadioCuesModel", "playsRest", "()I"⟩, 12) := ⟨⟨by decide +kernel, by decide +kernel⟩, List.mem_of_getElem? (i := 742) (by decide +kernel), List.mem_of_getElem? (i := 975) (by decide +kernel), List.mem_of_getElem? (i := 976) (by decide +kernel)⟩
theorem lw_p34 : lw_okq (⟨"RadioCuesModel", "putsBack", "()V"⟩, 12) := ⟨⟨by decide +kernel, by decide +kernel⟩, List.mem_of_getElem? (i := 742) (by decide +kernel), List.mem_of_getElem? (i := 979) (by decide +kernel), List.mem_of_getElem? (i := 980) (by decide +kernel)⟩
theorem lw_p35 : lw_okq (⟨"RadioCuesModel", "reads", "()Z"⟩, 12) := ⟨⟨by decide +kernel, by decide +kernel⟩, List.mem_of_getElem? (i := 742) (by decide +kernel), List.mem_of_getElem? (i := 1012) (by decide +kernel), List.mem_of_getElem? (i := 1013) (by decide +kernel)⟩
theorem lw_p36 : lw_okq (⟨"RadioCuesModel", "digit", "(I)Z"⟩, 12) := ⟨⟨by decide +kernel, by decide +kernel⟩, List.mem_of_getElem? (i := 742) (by decide +kernel), List.mem_of_getElem? (i := 1016) (by decide +kernel), List.mem_of_getElem? (i := 1017) (by decide +kernel)⟩
theorem lw_p37 : lw_okq (⟨"RadioCuesModel", "isAt", "(II)Z"⟩, 12) := ⟨⟨by decide +kernel, by decide +kernel⟩, List.mem_of_getElem? (i := 742) (by decide +kernel), List.mem_of_getElem? (i := 1020) (by decide +kernel), List.mem_of_getElem? (i := 1021) (by decide +kernel)⟩
theorem lw_p38 : lw_okq (⟨"RadioCuesModel", "sign", "(I)Z"⟩, 12) := ⟨⟨by decide +kernel, by decide +kernel⟩, List.mem_of_getElem? (i := 742) (by decide +kernel), List.mem_of_getElem? (i := 1024) (by decide +kernel), List.mem_of_getElem? (i := 1025) (by decide +kernel)⟩
theorem lw_p39 : lw_okq (⟨"RadioCuesModel", "number", "(I)Z"⟩, 12) := ⟨⟨by decide +kernel, by decide +kernel⟩, List.mem_of_getElem? (i := 742) (by decide +kernel), List.mem_of_getElem? (i := 1028) (by decide +kernel), List.mem_of_getElem? (i := 1029) (by decide +kernel)⟩
theorem lw_p40 : lw_okq (⟨"RadioCuesModel", "does", "(I)I"⟩, 12) := ⟨⟨by decide +kernel, by decide +kernel⟩, List.mem_of_getElem? (i := 742) (by decide +kernel), List.mem_of_getElem? (i := 1037) (by decide +kernel), List.mem_of_getElem? (i := 1038) (by decide +kernel)⟩
def lw_privs_3 : List (MethodName × Nat) := [(⟨"RadioCuesModel", "putsAside", "()V"⟩, 12), (⟨"RadioCuesModel", "playsRest", "()I"⟩, 12), (⟨"RadioCuesModel", "putsBack", "()V"⟩, 12), (⟨"RadioCuesModel", "reads", "()Z"⟩, 12), (⟨"RadioCuesModel", "digit", "(I)Z"⟩, 12), (⟨"RadioCuesModel", "isAt", "(II)Z"⟩, 12), (⟨"RadioCuesModel", "sign", "(I)Z"⟩, 12), (⟨"RadioCuesModel", "number", "(I)Z"⟩, 12), (⟨"RadioCuesModel", "does", "(I)I"⟩, 12)]
theorem lw_r3 : ∀ q ∈ lw_privs_3, lw_okq q := List.forall_mem_cons.mpr ⟨lw_p32, List.forall_mem_cons.mpr ⟨lw_p33, List.forall_mem_cons.mpr ⟨lw_p34, List.forall_mem_cons.mpr ⟨lw_p35, List.forall_mem_cons.mpr ⟨lw_p36, List.forall_mem_cons.mpr ⟨lw_p37, List.forall_mem_cons.mpr ⟨lw_p38, List.forall_mem_cons.mpr ⟨lw_p39, List.forall_mem_cons.mpr ⟨lw_p40, fun _ h => absurd h List.not_mem_nil⟩⟩⟩⟩⟩⟩⟩⟩⟩
def lw_privs : List (MethodName × Nat) := lw_privs_1 ++ (lw_privs_2 ++ (lw_privs_3))
def lw_tbl : List Cond := k2_sels lw_privs ++ tables_1
theorem lw_privs_ok : ∀ q ∈ lw_privs, lw_okq q := by
  show ∀ q ∈ lw_privs_1 ++ (lw_privs_2 ++ (lw_privs_3)), lw_okq q
  exact List.forall_mem_append.mpr ⟨lw_r1, List.forall_mem_append.mpr ⟨lw_r2, lw_r3⟩⟩
end
section
/-! ===== BEGIN words of one list among another's, by their places ===== -/
theorem goodIn_r {big : List Cond} (ws : List Cond) (ps : List Nat) (hp : ws = ps.filterMap (fun i => big[i]?)) (h : ws.all goodWord = true) : GoodIn big ws := by
  intro w hw
  have h1 := List.all_eq_true.mp h w hw
  rw [hp] at hw
  obtain ⟨i, -, hi⟩ := List.mem_filterMap.mp hw
  have hm : w ∈ big := by first | exact List.mem_of_getElem? hi | exact List.getElem?_mem hi
  exact ⟨hm, good_of_word h1⟩
theorem goodIn_app {big a b : List Cond} (ha : GoodIn big a) (hb : GoodIn big b) : GoodIn big (a ++ b) := fun w h => (List.mem_append.mp h).elim (ha w) (hb w)
theorem goodIn_ca {big a b : List Cond} {c : Cond} (ha : GoodIn big (c :: a)) (hb : GoodIn big b) : GoodIn big (c :: (a ++ b)) := fun w h => (List.mem_cons.mp h).elim (fun e => ha w (List.mem_cons.mpr (Or.inl e))) (fun h => (List.mem_append.mp h).elim (fun h => ha w (List.mem_cons.mpr (Or.inr h))) (hb w))
theorem goodIn_sub {big ws : List Cond} (hm : ∀ w ∈ ws, w ∈ big) (h : ws.all goodWord = true) : GoodIn big ws := fun w hw => ⟨hm w hw, good_of_word (List.all_eq_true.mp h w hw)⟩
/-! ===== END ===== -/

/-! ===== BEGIN printed: names, fields, word lists, decode rows ===== -/
def RX0 : String := "RadioCues$Channel"
def TX0 : u_T := fun k => match k with
  | 0 => ("RadioCues$Channel", "level", "I", false)
  | _ => ("RadioCues$Channel", "goal", "I", false)
def tyX0 : Nat → FieldType := fun k => match k with
  | 0 => .int
  | _ => .int
abbrev wsX00 : List Cond := u_ws RX0 TX0 2
theorem nmX0 : ∀ a, a < 2 → ∀ b, b < 2 → a ≠ b → (TX0 a).2.1 ≠ (TX0 b).2.1 := by decide +kernel
theorem tyX0_ok : ∀ k, k < 2 → parseFieldDescriptor (TX0 k).2.2.1 = some (tyX0 k) := by decide +kernel
abbrev cX0_init : ByteArray := prog_2_method_1_code
def yX0_init : MethodName := ⟨RX0, "<init>", "()V"⟩
abbrev cX0_fade : ByteArray := prog_2_method_2_code
def yX0_fade : MethodName := ⟨RX0, "fade", "(I)V"⟩
def RX1 : String := "RadioCues$Cue"
def TX1 : u_T := fun k => match k with
  | 0 => ("RadioCues$Cue", "second", "I", false)
  | 1 => ("RadioCues$Cue", "kind", "I", false)
  | 2 => ("RadioCues$Cue", "where", "I", false)
  | 3 => ("RadioCues$Cue", "value", "I", false)
  | _ => ("RadioCues$Cue", "fate", "I", false)
def tyX1 : Nat → FieldType := fun k => match k with
  | 0 => .int
  | 1 => .int
  | 2 => .int
  | 3 => .int
  | _ => .int
abbrev wsX10 : List Cond := u_ws RX1 TX1 5
theorem nmX1 : ∀ a, a < 5 → ∀ b, b < 5 → a ≠ b → (TX1 a).2.1 ≠ (TX1 b).2.1 := by decide +kernel
theorem tyX1_ok : ∀ k, k < 5 → parseFieldDescriptor (TX1 k).2.2.1 = some (tyX1 k) := by decide +kernel
abbrev cX1_init : ByteArray := prog_3_method_1_code
def yX1_init : MethodName := ⟨RX1, "<init>", "()V"⟩
abbrev cX1_copyFrom : ByteArray := prog_3_method_2_code
def yX1_copyFrom : MethodName := ⟨RX1, "copyFrom", "(LRadioCues$Cue;)V"⟩
def RX2 : String := "RadioCues$Doors"
def TX2 : u_T := fun k => match k with
  | 0 => ("RadioCues$Doors", "channel", "[I", true)
  | 1 => ("RadioCues$Doors", "loudness", "[I", true)
  | 2 => ("RadioCues$Doors", "left", "[I", true)
  | _ => ("RadioCues$Doors", "count", "I", false)
def tyX2 : Nat → FieldType := fun k => match k with
  | 0 => .array .int
  | 1 => .array .int
  | 2 => .array .int
  | _ => .int
abbrev wsX20 : List Cond := u_ws RX2 TX2 4
theorem nmX2 : ∀ a, a < 4 → ∀ b, b < 4 → a ≠ b → (TX2 a).2.1 ≠ (TX2 b).2.1 := by decide +kernel
theorem tyX2_ok : ∀ k, k < 4 → parseFieldDescriptor (TX2 k).2.2.1 = some (tyX2 k) := by decide +kernel
abbrev cX2_init : ByteArray := prog_4_method_1_code
def yX2_init : MethodName := ⟨RX2, "<init>", "()V"⟩
abbrev cX2_copyFrom : ByteArray := prog_4_method_2_code
def yX2_copyFrom : MethodName := ⟨RX2, "copyFrom", "(LRadioCues$Doors;)V"⟩
abbrev cX2_slam : ByteArray := prog_4_method_3_code
def yX2_slam : MethodName := ⟨RX2, "slam", "(III)V"⟩
abbrev cX2_hearSecond : ByteArray := prog_4_method_4_code
def yX2_hearSecond : MethodName := ⟨RX2, "hearSecond", "()V"⟩
abbrev cX2_countOn : ByteArray := prog_4_method_5_code
def yX2_countOn : MethodName := ⟨RX2, "countOn", "(I)I"⟩
def RX3 : String := "RadioCues$Pad"
def TX3 : u_T := fun k => match k with
  | 0 => ("RadioCues$Pad", "characters", "[C", true)
  | 1 => ("RadioCues$Pad", "length", "I", false)
  | 2 => ("RadioCues$Pad", "at", "I", false)
  | 3 => ("RadioCues$Pad", "letter", "C", false)
  | 4 => ("RadioCues$Pad", "numbers", "[I", true)
  | _ => ("RadioCues$Pad", "numberCount", "I", false)
def tyX3 : Nat → FieldType := fun k => match k with
  | 0 => .array .char
  | 1 => .int
  | 2 => .int
  | 3 => .char
  | 4 => .array .int
  | _ => .int
abbrev wsX30 : List Cond := u_ws RX3 TX3 6
theorem nmX3 : ∀ a, a < 6 → ∀ b, b < 6 → a ≠ b → (TX3 a).2.1 ≠ (TX3 b).2.1 := by decide +kernel
theorem tyX3_ok : ∀ k, k < 6 → parseFieldDescriptor (TX3 k).2.2.1 = some (tyX3 k) := by decide +kernel
abbrev cX3_init : ByteArray := prog_5_method_1_code
def yX3_init : MethodName := ⟨RX3, "<init>", "()V"⟩
abbrev cX3_countCharacters : ByteArray := prog_5_method_2_code
def yX3_countCharacters : MethodName := ⟨RX3, "countCharacters", "(J)I"⟩
abbrev cX3_append : ByteArray := prog_5_method_3_code
def yX3_append : MethodName := ⟨RX3, "append", "(JI)I"⟩
abbrev cX3_findFault : ByteArray := prog_5_method_4_code
def yX3_findFault : MethodName := ⟨RX3, "findFault", "()I"⟩
abbrev cX3_readOrder : ByteArray := prog_5_method_5_code
def yX3_readOrder : MethodName := ⟨RX3, "readOrder", "()Z"⟩
abbrev cX3_shapeOf : ByteArray := prog_5_method_6_code
def yX3_shapeOf : MethodName := ⟨RX3, "shapeOf", "(C)Ljava/lang/String;"⟩
abbrev cX3_readPart : ByteArray := prog_5_method_7_code
def yX3_readPart : MethodName := ⟨RX3, "readPart", "(C)Z"⟩
abbrev cX3_readNumber : ByteArray := prog_5_method_8_code
def yX3_readNumber : MethodName := ⟨RX3, "readNumber", "(I)Z"⟩
abbrev cX3_digitAt : ByteArray := prog_5_method_9_code
def yX3_digitAt : MethodName := ⟨RX3, "digitAt", "(I)I"⟩
abbrev cX3_characterAt : ByteArray := prog_5_method_10_code
def yX3_characterAt : MethodName := ⟨RX3, "characterAt", "(I)C"⟩
def RX4 : String := "RadioCues$Play"
def TX4 : u_T := fun k => match k with
  | 0 => ("RadioCues$Play", "settings", "[I", true)
  | 1 => ("RadioCues$Play", "script", "LRadioCues$Script;", true)
  | 2 => ("RadioCues$Play", "reels", "[LRadioCues$Reel;", true)
  | 3 => ("RadioCues$Play", "channels", "[LRadioCues$Channel;", true)
  | 4 => ("RadioCues$Play", "doors", "LRadioCues$Doors;", true)
  | 5 => ("RadioCues$Play", "firsts", "[I", true)
  | 6 => ("RadioCues$Play", "firstCount", "I", false)
  | 7 => ("RadioCues$Play", "heard", "[I", true)
  | _ => ("RadioCues$Play", "now", "I", false)
def tyX4 : Nat → FieldType := fun k => match k with
  | 0 => .array .int
  | 1 => .object "RadioCues$Script"
  | 2 => .array (.object "RadioCues$Reel")
  | 3 => .array (.object "RadioCues$Channel")
  | 4 => .object "RadioCues$Doors"
  | 5 => .array .int
  | 6 => .int
  | 7 => .array .int
  | _ => .int
abbrev wsX40 : List Cond := u_ws RX4 TX4 9
theorem nmX4 : ∀ a, a < 9 → ∀ b, b < 9 → a ≠ b → (TX4 a).2.1 ≠ (TX4 b).2.1 := by decide +kernel
theorem tyX4_ok : ∀ k, k < 9 → parseFieldDescriptor (TX4 k).2.2.1 = some (tyX4 k) := by decide +kernel
abbrev cX4_init : ByteArray := prog_6_method_1_code
def yX4_init : MethodName := ⟨RX4, "<init>", "()V"⟩
abbrev cX4_copyFrom : ByteArray := prog_6_method_2_code
def yX4_copyFrom : MethodName := ⟨RX4, "copyFrom", "(LRadioCues$Play;)V"⟩
abbrev cX4_changeSetting : ByteArray := prog_6_method_3_code
def yX4_changeSetting : MethodName := ⟨RX4, "changeSetting", "(II)I"⟩
abbrev cX4_addSound : ByteArray := prog_6_method_4_code
def yX4_addSound : MethodName := ⟨RX4, "addSound", "(III)I"⟩
abbrev cX4_addCue : ByteArray := prog_6_method_5_code
def yX4_addCue : MethodName := ⟨RX4, "addCue", "(IIII)I"⟩
abbrev cX4_moveCue : ByteArray := prog_6_method_6_code
def yX4_moveCue : MethodName := ⟨RX4, "moveCue", "(II)I"⟩
abbrev cX4_putGoal : ByteArray := prog_6_method_7_code
def yX4_putGoal : MethodName := ⟨RX4, "putGoal", "(II)I"⟩
abbrev cX4_beginAnew : ByteArray := prog_6_method_8_code
def yX4_beginAnew : MethodName := ⟨RX4, "beginAnew", "()I"⟩
abbrev cX4_runSeconds : ByteArray := prog_6_method_9_code
def yX4_runSeconds : MethodName := ⟨RX4, "runSeconds", "(I)I"⟩
abbrev cX4_reelAt : ByteArray := prog_6_method_10_code
def yX4_reelAt : MethodName := ⟨RX4, "reelAt", "(I)LRadioCues$Reel;"⟩
abbrev cX4_soundAt : ByteArray := prog_6_method_11_code
def yX4_soundAt : MethodName := ⟨RX4, "soundAt", "(II)LRadioCues$Sound;"⟩
abbrev cX4_channelAt : ByteArray := prog_6_method_12_code
def yX4_channelAt : MethodName := ⟨RX4, "channelAt", "(I)LRadioCues$Channel;"⟩
abbrev cX4_runSecond : ByteArray := prog_6_method_13_code
def yX4_runSecond : MethodName := ⟨RX4, "runSecond", "()I"⟩
abbrev cX4_letCuesCome : ByteArray := prog_6_method_14_code
def yX4_letCuesCome : MethodName := ⟨RX4, "letCuesCome", "()V"⟩
abbrev cX4_callSound : ByteArray := prog_6_method_15_code
def yX4_callSound : MethodName := ⟨RX4, "callSound", "(II)I"⟩
abbrev cX4_loudnessOfReels : ByteArray := prog_6_method_16_code
def yX4_loudnessOfReels : MethodName := ⟨RX4, "loudnessOfReels", "()I"⟩
abbrev cX4_loudnessOfDoors : ByteArray := prog_6_method_17_code
def yX4_loudnessOfDoors : MethodName := ⟨RX4, "loudnessOfDoors", "()I"⟩
abbrev cX4_heardOn : ByteArray := prog_6_method_18_code
def yX4_heardOn : MethodName := ⟨RX4, "heardOn", "(II)I"⟩
abbrev cX4_windReels : ByteArray := prog_6_method_19_code
def yX4_windReels : MethodName := ⟨RX4, "windReels", "()V"⟩
abbrev cX4_goesOn : ByteArray := prog_6_method_20_code
def yX4_goesOn : MethodName := ⟨RX4, "goesOn", "()Z"⟩
abbrev cX4_playingReels : ByteArray := prog_6_method_21_code
def yX4_playingReels : MethodName := ⟨RX4, "playingReels", "()I"⟩
abbrev cX4_loudestSecond : ByteArray := prog_6_method_22_code
def yX4_loudestSecond : MethodName := ⟨RX4, "loudestSecond", "()I"⟩
abbrev cX4_tooLoudSeconds : ByteArray := prog_6_method_23_code
def yX4_tooLoudSeconds : MethodName := ⟨RX4, "tooLoudSeconds", "()I"⟩
abbrev cX4_secondsHeard : ByteArray := prog_6_method_24_code
def yX4_secondsHeard : MethodName := ⟨RX4, "secondsHeard", "()I"⟩
def RX5 : String := "RadioCues$Reel"
def TX5 : u_T := fun k => match k with
  | 0 => ("RadioCues$Reel", "sounds", "[LRadioCues$Sound;", true)
  | 1 => ("RadioCues$Reel", "count", "I", false)
  | 2 => ("RadioCues$Reel", "place", "I", false)
  | 3 => ("RadioCues$Reel", "playing", "I", false)
  | _ => ("RadioCues$Reel", "left", "I", false)
def tyX5 : Nat → FieldType := fun k => match k with
  | 0 => .array (.object "RadioCues$Sound")
  | 1 => .int
  | 2 => .int
  | 3 => .int
  | _ => .int
abbrev wsX50 : List Cond := u_ws RX5 TX5 5
theorem nmX5 : ∀ a, a < 5 → ∀ b, b < 5 → a ≠ b → (TX5 a).2.1 ≠ (TX5 b).2.1 := by decide +kernel
theorem tyX5_ok : ∀ k, k < 5 → parseFieldDescriptor (TX5 k).2.2.1 = some (tyX5 k) := by decide +kernel
abbrev cX5_init : ByteArray := prog_7_method_1_code
def yX5_init : MethodName := ⟨RX5, "<init>", "()V"⟩
abbrev cX5_copyFrom : ByteArray := prog_7_method_2_code
def yX5_copyFrom : MethodName := ⟨RX5, "copyFrom", "(LRadioCues$Reel;)V"⟩
abbrev cX5_rewind : ByteArray := prog_7_method_3_code
def yX5_rewind : MethodName := ⟨RX5, "rewind", "()V"⟩
abbrev cX5_soundNumbered : ByteArray := prog_7_method_4_code
def yX5_soundNumbered : MethodName := ⟨RX5, "soundNumbered", "(I)LRadioCues$Sound;"⟩
abbrev cX5_tapeLength : ByteArray := prog_7_method_5_code
def yX5_tapeLength : MethodName := ⟨RX5, "tapeLength", "()I"⟩
abbrev cX5_appendSound : ByteArray := prog_7_method_6_code
def yX5_appendSound : MethodName := ⟨RX5, "appendSound", "(II)I"⟩
abbrev cX5_playSecond : ByteArray := prog_7_method_7_code
def yX5_playSecond : MethodName := ⟨RX5, "playSecond", "()V"⟩
def RX6 : String := "RadioCues$Script"
def TX6 : u_T := fun k => match k with
  | 0 => ("RadioCues$Script", "cues", "[LRadioCues$Cue;", true)
  | 1 => ("RadioCues$Script", "count", "I", false)
  | _ => ("RadioCues$Script", "came", "I", false)
def tyX6 : Nat → FieldType := fun k => match k with
  | 0 => .array (.object "RadioCues$Cue")
  | 1 => .int
  | _ => .int
abbrev wsX60 : List Cond := u_ws RX6 TX6 3
theorem nmX6 : ∀ a, a < 3 → ∀ b, b < 3 → a ≠ b → (TX6 a).2.1 ≠ (TX6 b).2.1 := by decide +kernel
theorem tyX6_ok : ∀ k, k < 3 → parseFieldDescriptor (TX6 k).2.2.1 = some (tyX6 k) := by decide +kernel
abbrev cX6_init : ByteArray := prog_8_method_1_code
def yX6_init : MethodName := ⟨RX6, "<init>", "()V"⟩
abbrev cX6_copyFrom : ByteArray := prog_8_method_2_code
def yX6_copyFrom : MethodName := ⟨RX6, "copyFrom", "(LRadioCues$Script;)V"⟩
abbrev cX6_letAllCome : ByteArray := prog_8_method_3_code
def yX6_letAllCome : MethodName := ⟨RX6, "letAllCome", "()V"⟩
abbrev cX6_cueAt : ByteArray := prog_8_method_4_code
def yX6_cueAt : MethodName := ⟨RX6, "cueAt", "(I)LRadioCues$Cue;"⟩
abbrev cX6_anyToCome : ByteArray := prog_8_method_5_code
def yX6_anyToCome : MethodName := ⟨RX6, "anyToCome", "()Z"⟩
abbrev cX6_insertCue : ByteArray := prog_8_method_6_code
def yX6_insertCue : MethodName := ⟨RX6, "insertCue", "(IIII)I"⟩
abbrev cX6_removeCue : ByteArray := prog_8_method_7_code
def yX6_removeCue : MethodName := ⟨RX6, "removeCue", "(I)I"⟩
abbrev cX6_makeLast : ByteArray := prog_8_method_8_code
def yX6_makeLast : MethodName := ⟨RX6, "makeLast", "(I)V"⟩
abbrev cX6_sortLast : ByteArray := prog_8_method_9_code
def yX6_sortLast : MethodName := ⟨RX6, "sortLast", "()I"⟩
abbrev cX6_nextFor : ByteArray := prog_8_method_10_code
def yX6_nextFor : MethodName := ⟨RX6, "nextFor", "(I)I"⟩
abbrev cX6_countOf : ByteArray := prog_8_method_11_code
def yX6_countOf : MethodName := ⟨RX6, "countOf", "(I)I"⟩
abbrev cX6_missedCues : ByteArray := prog_8_method_12_code
def yX6_missedCues : MethodName := ⟨RX6, "missedCues", "()I"⟩
def RX7 : String := "RadioCues$Sound"
def TX7 : u_T := fun k => match k with
  | 0 => ("RadioCues$Sound", "seconds", "I", false)
  | 1 => ("RadioCues$Sound", "loudness", "I", false)
  | 2 => ("RadioCues$Sound", "begins", "I", false)
  | _ => ("RadioCues$Sound", "times", "I", false)
def tyX7 : Nat → FieldType := fun k => match k with
  | 0 => .int
  | 1 => .int
  | 2 => .int
  | _ => .int
abbrev wsX70 : List Cond := u_ws RX7 TX7 4
theorem nmX7 : ∀ a, a < 4 → ∀ b, b < 4 → a ≠ b → (TX7 a).2.1 ≠ (TX7 b).2.1 := by decide +kernel
theorem tyX7_ok : ∀ k, k < 4 → parseFieldDescriptor (TX7 k).2.2.1 = some (tyX7 k) := by decide +kernel
abbrev cX7_init : ByteArray := prog_9_method_1_code
def yX7_init : MethodName := ⟨RX7, "<init>", "()V"⟩
abbrev cX7_copyFrom : ByteArray := prog_9_method_2_code
def yX7_copyFrom : MethodName := ⟨RX7, "copyFrom", "(LRadioCues$Sound;)V"⟩
def RX8 : String := "RadioCues"
def TX8 : u_T := fun k => match k with
  | 0 => ("RadioCues", "play", "LRadioCues$Play;", false)
  | 1 => ("RadioCues", "trial", "LRadioCues$Play;", true)
  | 2 => ("RadioCues", "history", "[LRadioCues$Play;", true)
  | 3 => ("RadioCues", "kept", "I", false)
  | 4 => ("RadioCues", "slots", "[LRadioCues$Play;", true)
  | 5 => ("RadioCues", "saved", "[Z", true)
  | _ => ("RadioCues", "pad", "LRadioCues$Pad;", true)
def tyX8 : Nat → FieldType := fun k => match k with
  | 0 => .object "RadioCues$Play"
  | 1 => .object "RadioCues$Play"
  | 2 => .array (.object "RadioCues$Play")
  | 3 => .int
  | 4 => .array (.object "RadioCues$Play")
  | 5 => .array .boolean
  | _ => .object "RadioCues$Pad"
abbrev wsX80 : List Cond := u_ws RX8 TX8 7
theorem nmX8 : ∀ a, a < 7 → ∀ b, b < 7 → a ≠ b → (TX8 a).2.1 ≠ (TX8 b).2.1 := by decide +kernel
theorem tyX8_ok : ∀ k, k < 7 → parseFieldDescriptor (TX8 k).2.2.1 = some (tyX8 k) := by decide +kernel
abbrev cX8_init : ByteArray := prog_1_method_1_code
def yX8_init : MethodName := ⟨RX8, "<init>", "()V"⟩
abbrev cX8_set : ByteArray := prog_1_method_2_code
def yX8_set : MethodName := ⟨RX8, "set", "(II)I"⟩
abbrev cX8_sound : ByteArray := prog_1_method_3_code
def yX8_sound : MethodName := ⟨RX8, "sound", "(III)I"⟩
abbrev cX8_cue : ByteArray := prog_1_method_4_code
def yX8_cue : MethodName := ⟨RX8, "cue", "(IIII)I"⟩
abbrev cX8_takeOut : ByteArray := prog_1_method_5_code
def yX8_takeOut : MethodName := ⟨RX8, "takeOut", "(I)I"⟩
abbrev cX8_move : ByteArray := prog_1_method_6_code
def yX8_move : MethodName := ⟨RX8, "move", "(II)I"⟩
abbrev cX8_goal : ByteArray := prog_1_method_7_code
def yX8_goal : MethodName := ⟨RX8, "goal", "(II)I"⟩
abbrev cX8_begin : ByteArray := prog_1_method_8_code
def yX8_begin : MethodName := ⟨RX8, "begin", "()I"⟩
abbrev cX8_pass : ByteArray := prog_1_method_9_code
def yX8_pass : MethodName := ⟨RX8, "pass", "(I)I"⟩
abbrev cX8_ofCue : ByteArray := prog_1_method_10_code
def yX8_ofCue : MethodName := ⟨RX8, "ofCue", "(II)I"⟩
abbrev cX8_ofReel : ByteArray := prog_1_method_11_code
def yX8_ofReel : MethodName := ⟨RX8, "ofReel", "(II)I"⟩
abbrev cX8_ofSound : ByteArray := prog_1_method_12_code
def yX8_ofSound : MethodName := ⟨RX8, "ofSound", "(III)I"⟩
abbrev cX8_played : ByteArray := prog_1_method_13_code
def yX8_played : MethodName := ⟨RX8, "played", "(II)I"⟩
abbrev cX8_ofChannel : ByteArray := prog_1_method_14_code
def yX8_ofChannel : MethodName := ⟨RX8, "ofChannel", "(II)I"⟩
abbrev cX8_loud : ByteArray := prog_1_method_15_code
def yX8_loud : MethodName := ⟨RX8, "loud", "(I)I"⟩
abbrev cX8_count : ByteArray := prog_1_method_16_code
def yX8_count : MethodName := ⟨RX8, "count", "(I)I"⟩
abbrev cX8_rest : ByteArray := prog_1_method_17_code
def yX8_rest : MethodName := ⟨RX8, "rest", "(I)I"⟩
abbrev cX8_becomes : ByteArray := prog_1_method_18_code
def yX8_becomes : MethodName := ⟨RX8, "becomes", "(I)I"⟩
abbrev cX8_leastWind : ByteArray := prog_1_method_19_code
def yX8_leastWind : MethodName := ⟨RX8, "leastWind", "()I"⟩
abbrev cX8_ifMoved : ByteArray := prog_1_method_20_code
def yX8_ifMoved : MethodName := ⟨RX8, "ifMoved", "(II)I"⟩
abbrev cX8_readyIn : ByteArray := prog_1_method_21_code
def yX8_readyIn : MethodName := ⟨RX8, "readyIn", "(II)I"⟩
abbrev cX8_put : ByteArray := prog_1_method_22_code
def yX8_put : MethodName := ⟨RX8, "put", "(J)I"⟩
abbrev cX8_wipe : ByteArray := prog_1_method_23_code
def yX8_wipe : MethodName := ⟨RX8, "wipe", "()I"⟩
abbrev cX8_fault : ByteArray := prog_1_method_24_code
def yX8_fault : MethodName := ⟨RX8, "fault", "()I"⟩
abbrev cX8_carryOut : ByteArray := prog_1_method_25_code
def yX8_carryOut : MethodName := ⟨RX8, "carryOut", "()I"⟩
abbrev cX8_undo : ByteArray := prog_1_method_26_code
def yX8_undo : MethodName := ⟨RX8, "undo", "()I"⟩
abbrev cX8_save : ByteArray := prog_1_method_27_code
def yX8_save : MethodName := ⟨RX8, "save", "(I)I"⟩
abbrev cX8_restore : ByteArray := prog_1_method_28_code
def yX8_restore : MethodName := ⟨RX8, "restore", "(I)I"⟩
abbrev cX8_within : ByteArray := prog_1_method_29_code
def yX8_within : MethodName := ⟨RX8, "within", "(III)Z"⟩
abbrev cX8_nearer : ByteArray := prog_1_method_30_code
def yX8_nearer : MethodName := ⟨RX8, "nearer", "(III)I"⟩
abbrev cX8_holdState : ByteArray := prog_1_method_31_code
def yX8_holdState : MethodName := ⟨RX8, "holdState", "()V"⟩
abbrev cX8_recorded : ByteArray := prog_1_method_32_code
def yX8_recorded : MethodName := ⟨RX8, "recorded", "(I)I"⟩
abbrev cX8_dropOldestState : ByteArray := prog_1_method_33_code
def yX8_dropOldestState : MethodName := ⟨RX8, "dropOldestState", "()V"⟩
abbrev cX8_missedInTrial : ByteArray := prog_1_method_34_code
def yX8_missedInTrial : MethodName := ⟨RX8, "missedInTrial", "()I"⟩
abbrev cX8_missesWith : ByteArray := prog_1_method_35_code
def yX8_missesWith : MethodName := ⟨RX8, "missesWith", "(I)Z"⟩
abbrev cX8_answerOfOrder : ByteArray := prog_1_method_36_code
def yX8_answerOfOrder : MethodName := ⟨RX8, "answerOfOrder", "()I"⟩
def RX9 : String := "RadioCuesModel"
def TX9 : u_T := fun k => match k with
  | 0 => ("RadioCuesModel", "s", "[I", true)
  | 1 => ("RadioCuesModel", "past", "[I", true)
  | 2 => ("RadioCuesModel", "slots", "[I", true)
  | 3 => ("RadioCuesModel", "isSaved", "[Z", true)
  | 4 => ("RadioCuesModel", "spare", "[I", true)
  | 5 => ("RadioCuesModel", "pasts", "I", false)
  | 6 => ("RadioCuesModel", "runs", "Z", false)
  | 7 => ("RadioCuesModel", "pad", "[I", true)
  | 8 => ("RadioCuesModel", "typed", "I", false)
  | 9 => ("RadioCuesModel", "spot", "I", false)
  | 10 => ("RadioCuesModel", "orders", "I", false)
  | _ => ("RadioCuesModel", "order", "[I", true)
def tyX9 : Nat → FieldType := fun k => match k with
  | 0 => .array .int
  | 1 => .array .int
  | 2 => .array .int
  | 3 => .array .boolean
  | 4 => .array .int
  | 5 => .int
  | 6 => .boolean
  | 7 => .array .int
  | 8 => .int
  | 9 => .int
  | 10 => .int
  | _ => .array .int
abbrev wsX90 : List Cond := u_ws RX9 TX9 12
theorem nmX9 : ∀ a, a < 12 → ∀ b, b < 12 → a ≠ b → (TX9 a).2.1 ≠ (TX9 b).2.1 := by decide +kernel
theorem tyX9_ok : ∀ k, k < 12 → parseFieldDescriptor (TX9 k).2.2.1 = some (tyX9 k) := by decide +kernel
abbrev cX9_init : ByteArray := prog_11_method_1_code
def yX9_init : MethodName := ⟨RX9, "<init>", "()V"⟩
abbrev cX9_in : ByteArray := prog_11_method_3_code
def yX9_in : MethodName := ⟨RX9, "in", "(III)Z"⟩
abbrev cX9_changes : ByteArray := prog_11_method_4_code
def yX9_changes : MethodName := ⟨RX9, "changes", "()V"⟩
abbrev cX9_putsAside : ByteArray := prog_11_method_5_code
def yX9_putsAside : MethodName := ⟨RX9, "putsAside", "()V"⟩
abbrev cX9_putsBack : ByteArray := prog_11_method_6_code
def yX9_putsBack : MethodName := ⟨RX9, "putsBack", "()V"⟩
abbrev cX9_of : ByteArray := prog_11_method_7_code
def yX9_of : MethodName := ⟨RX9, "of", "(II)I"⟩
abbrev cX9_lay : ByteArray := prog_11_method_8_code
def yX9_lay : MethodName := ⟨RX9, "lay", "(III)V"⟩
abbrev cX9_reel : ByteArray := prog_11_method_9_code
def yX9_reel : MethodName := ⟨RX9, "reel", "(II)I"⟩
abbrev cX9_turn : ByteArray := prog_11_method_10_code
def yX9_turn : MethodName := ⟨RX9, "turn", "(III)V"⟩
abbrev cX9_soundAt : ByteArray := prog_11_method_11_code
def yX9_soundAt : MethodName := ⟨RX9, "soundAt", "(II)I"⟩
abbrev cX9_isCue : ByteArray := prog_11_method_12_code
def yX9_isCue : MethodName := ⟨RX9, "isCue", "(I)Z"⟩
abbrev cX9_isReel : ByteArray := prog_11_method_13_code
def yX9_isReel : MethodName := ⟨RX9, "isReel", "(I)Z"⟩
abbrev cX9_isSound : ByteArray := prog_11_method_14_code
def yX9_isSound : MethodName := ⟨RX9, "isSound", "(II)Z"⟩
abbrev cX9_beginning : ByteArray := prog_11_method_15_code
def yX9_beginning : MethodName := ⟨RX9, "beginning", "(II)I"⟩
abbrev cX9_starts : ByteArray := prog_11_method_16_code
def yX9_starts : MethodName := ⟨RX9, "starts", "(II)V"⟩
abbrev cX9_comes : ByteArray := prog_11_method_17_code
def yX9_comes : MethodName := ⟨RX9, "comes", "(I)I"⟩
abbrev cX9_nearer : ByteArray := prog_11_method_18_code
def yX9_nearer : MethodName := ⟨RX9, "nearer", "(III)I"⟩
abbrev cX9_gives : ByteArray := prog_11_method_19_code
def yX9_gives : MethodName := ⟨RX9, "gives", "(II)I"⟩
abbrev cX9_heard : ByteArray := prog_11_method_20_code
def yX9_heard : MethodName := ⟨RX9, "heard", "()I"⟩
abbrev cX9_goesOn : ByteArray := prog_11_method_21_code
def yX9_goesOn : MethodName := ⟨RX9, "goesOn", "(I)V"⟩
abbrev cX9_fall : ByteArray := prog_11_method_22_code
def yX9_fall : MethodName := ⟨RX9, "fall", "()V"⟩
abbrev cX9_next : ByteArray := prog_11_method_23_code
def yX9_next : MethodName := ⟨RX9, "next", "(I)I"⟩
abbrev cX9_winds : ByteArray := prog_11_method_24_code
def yX9_winds : MethodName := ⟨RX9, "winds", "(II)V"⟩
abbrev cX9_passes : ByteArray := prog_11_method_25_code
def yX9_passes : MethodName := ⟨RX9, "passes", "()I"⟩
abbrev cX9_least : ByteArray := prog_11_method_26_code
def yX9_least : MethodName := ⟨RX9, "least", "(I)I"⟩
abbrev cX9_most : ByteArray := prog_11_method_27_code
def yX9_most : MethodName := ⟨RX9, "most", "(I)I"⟩
abbrev cX9_set : ByteArray := prog_11_method_28_code
def yX9_set : MethodName := ⟨RX9, "set", "(II)I"⟩
abbrev cX9_sound : ByteArray := prog_11_method_29_code
def yX9_sound : MethodName := ⟨RX9, "sound", "(III)I"⟩
abbrev cX9_opens : ByteArray := prog_11_method_30_code
def yX9_opens : MethodName := ⟨RX9, "opens", "(I)I"⟩
abbrev cX9_closes : ByteArray := prog_11_method_31_code
def yX9_closes : MethodName := ⟨RX9, "closes", "(I)V"⟩
abbrev cX9_cue : ByteArray := prog_11_method_32_code
def yX9_cue : MethodName := ⟨RX9, "cue", "(IIII)I"⟩
abbrev cX9_takeOut : ByteArray := prog_11_method_33_code
def yX9_takeOut : MethodName := ⟨RX9, "takeOut", "(I)I"⟩
abbrev cX9_whyNotMoved : ByteArray := prog_11_method_34_code
def yX9_whyNotMoved : MethodName := ⟨RX9, "whyNotMoved", "(II)I"⟩
abbrev cX9_moves : ByteArray := prog_11_method_35_code
def yX9_moves : MethodName := ⟨RX9, "moves", "(II)I"⟩
abbrev cX9_move : ByteArray := prog_11_method_36_code
def yX9_move : MethodName := ⟨RX9, "move", "(II)I"⟩
abbrev cX9_goal : ByteArray := prog_11_method_37_code
def yX9_goal : MethodName := ⟨RX9, "goal", "(II)I"⟩
abbrev cX9_begin : ByteArray := prog_11_method_38_code
def yX9_begin : MethodName := ⟨RX9, "begin", "()I"⟩
abbrev cX9_pass : ByteArray := prog_11_method_39_code
def yX9_pass : MethodName := ⟨RX9, "pass", "(I)I"⟩
abbrev cX9_ofCue : ByteArray := prog_11_method_40_code
def yX9_ofCue : MethodName := ⟨RX9, "ofCue", "(II)I"⟩
abbrev cX9_ofReel : ByteArray := prog_11_method_41_code
def yX9_ofReel : MethodName := ⟨RX9, "ofReel", "(II)I"⟩
abbrev cX9_ofSound : ByteArray := prog_11_method_42_code
def yX9_ofSound : MethodName := ⟨RX9, "ofSound", "(III)I"⟩
abbrev cX9_played : ByteArray := prog_11_method_43_code
def yX9_played : MethodName := ⟨RX9, "played", "(II)I"⟩
abbrev cX9_doorsOn : ByteArray := prog_11_method_44_code
def yX9_doorsOn : MethodName := ⟨RX9, "doorsOn", "(I)I"⟩
abbrev cX9_ofChannel : ByteArray := prog_11_method_45_code
def yX9_ofChannel : MethodName := ⟨RX9, "ofChannel", "(II)I"⟩
abbrev cX9_loud : ByteArray := prog_11_method_46_code
def yX9_loud : MethodName := ⟨RX9, "loud", "(I)I"⟩
abbrev cX9_cuesThat : ByteArray := prog_11_method_47_code
def yX9_cuesThat : MethodName := ⟨RX9, "cuesThat", "(I)I"⟩
abbrev cX9_loudest : ByteArray := prog_11_method_48_code
def yX9_loudest : MethodName := ⟨RX9, "loudest", "(I)I"⟩
abbrev cX9_tooLoud : ByteArray := prog_11_method_49_code
def yX9_tooLoud : MethodName := ⟨RX9, "tooLoud", "(I)I"⟩
abbrev cX9_playing : ByteArray := prog_11_method_50_code
def yX9_playing : MethodName := ⟨RX9, "playing", "()I"⟩
abbrev cX9_count : ByteArray := prog_11_method_51_code
def yX9_count : MethodName := ⟨RX9, "count", "(I)I"⟩
abbrev cX9_playsRest : ByteArray := prog_11_method_52_code
def yX9_playsRest : MethodName := ⟨RX9, "playsRest", "()I"⟩
abbrev cX9_rest : ByteArray := prog_11_method_53_code
def yX9_rest : MethodName := ⟨RX9, "rest", "(I)I"⟩
abbrev cX9_becomes : ByteArray := prog_11_method_54_code
def yX9_becomes : MethodName := ⟨RX9, "becomes", "(I)I"⟩
abbrev cX9_leastWind : ByteArray := prog_11_method_55_code
def yX9_leastWind : MethodName := ⟨RX9, "leastWind", "()I"⟩
abbrev cX9_ifMoved : ByteArray := prog_11_method_56_code
def yX9_ifMoved : MethodName := ⟨RX9, "ifMoved", "(II)I"⟩
abbrev cX9_readyIn : ByteArray := prog_11_method_57_code
def yX9_readyIn : MethodName := ⟨RX9, "readyIn", "(II)I"⟩
abbrev cX9_put : ByteArray := prog_11_method_58_code
def yX9_put : MethodName := ⟨RX9, "put", "(J)I"⟩
abbrev cX9_wipe : ByteArray := prog_11_method_59_code
def yX9_wipe : MethodName := ⟨RX9, "wipe", "()I"⟩
abbrev cX9_isAt : ByteArray := prog_11_method_60_code
def yX9_isAt : MethodName := ⟨RX9, "isAt", "(II)Z"⟩
abbrev cX9_sign : ByteArray := prog_11_method_61_code
def yX9_sign : MethodName := ⟨RX9, "sign", "(I)Z"⟩
abbrev cX9_digit : ByteArray := prog_11_method_62_code
def yX9_digit : MethodName := ⟨RX9, "digit", "(I)Z"⟩
abbrev cX9_number : ByteArray := prog_11_method_63_code
def yX9_number : MethodName := ⟨RX9, "number", "(I)Z"⟩
abbrev cX9_reads : ByteArray := prog_11_method_64_code
def yX9_reads : MethodName := ⟨RX9, "reads", "()Z"⟩
abbrev cX9_fault : ByteArray := prog_11_method_65_code
def yX9_fault : MethodName := ⟨RX9, "fault", "()I"⟩
abbrev cX9_does : ByteArray := prog_11_method_66_code
def yX9_does : MethodName := ⟨RX9, "does", "(I)I"⟩
abbrev cX9_carryOut : ByteArray := prog_11_method_67_code
def yX9_carryOut : MethodName := ⟨RX9, "carryOut", "()I"⟩
abbrev cX9_undo : ByteArray := prog_11_method_68_code
def yX9_undo : MethodName := ⟨RX9, "undo", "()I"⟩
abbrev cX9_save : ByteArray := prog_11_method_69_code
def yX9_save : MethodName := ⟨RX9, "save", "(I)I"⟩
abbrev cX9_restore : ByteArray := prog_11_method_70_code
def yX9_restore : MethodName := ⟨RX9, "restore", "(I)I"⟩
def RJ9 : String := "java/lang/Math"
def TJ9 : u_T := fun k => match k with
  | _ => ("", "", "", false)
def tyJ9 : Nat → FieldType := fun k => match k with
  | _ => .int
abbrev wsJ90 : List Cond := u_ws RJ9 TJ9 0
theorem nmJ9 : ∀ a, a < 0 → ∀ b, b < 0 → a ≠ b → (TJ9 a).2.1 ≠ (TJ9 b).2.1 := by decide +kernel
theorem tyJ9_ok : ∀ k, k < 0 → parseFieldDescriptor (TJ9 k).2.2.1 = some (tyJ9 k) := by decide +kernel
abbrev cJ9_abs_0f7a4 : ByteArray := prog_12_method_59_code
def yJ9_abs_0f7a4 : MethodName := ⟨RJ9, "abs", "(I)I"⟩
abbrev cJ9_max_7cf53 : ByteArray := prog_12_method_65_code
def yJ9_max_7cf53 : MethodName := ⟨RJ9, "max", "(II)I"⟩
abbrev cJ9_min_7cf53 : ByteArray := prog_12_method_69_code
def yJ9_min_7cf53 : MethodName := ⟨RJ9, "min", "(II)I"⟩
def RJ0 : String := "java/lang/String"
def TJ0 : u_T := fun k => match k with
  | _ => ("", "", "", false)
def tyJ0 : Nat → FieldType := fun k => match k with
  | _ => .int
abbrev wsJ00 : List Cond := u_ws RJ0 TJ0 0
theorem nmJ0 : ∀ a, a < 0 → ∀ b, b < 0 → a ≠ b → (TJ0 a).2.1 ≠ (TJ0 b).2.1 := by decide +kernel
theorem tyJ0_ok : ∀ k, k < 0 → parseFieldDescriptor (TJ0 k).2.2.1 = some (tyJ0 k) := by decide +kernel
abbrev cJ0_length_8abf5 : ByteArray := prog_13_method_54_code
def yJ0_length_8abf5 : MethodName := ⟨RJ0, "length", "()I"⟩
abbrev cJ0_isEmpty_aae02 : ByteArray := prog_13_method_55_code
def yJ0_isEmpty_aae02 : MethodName := ⟨RJ0, "isEmpty", "()Z"⟩
abbrev cJ0_charAt_5068e : ByteArray := prog_13_method_56_code
def yJ0_charAt_5068e : MethodName := ⟨RJ0, "charAt", "(I)C"⟩
abbrev cJ0_coder_7d493 : ByteArray := prog_13_method_152_code
def yJ0_coder_7d493 : MethodName := ⟨RJ0, "coder", "()B"⟩
abbrev cJ0_isLatin1_aae02 : ByteArray := prog_13_method_154_code
def yJ0_isLatin1_aae02 : MethodName := ⟨RJ0, "isLatin1", "()Z"⟩
abbrev cJ0_checkIndex_df160 : ByteArray := prog_13_method_155_code
def yJ0_checkIndex_df160 : MethodName := ⟨RJ0, "checkIndex", "(II)V"⟩
def RJ1 : String := "java/lang/StringLatin1"
def TJ1 : u_T := fun k => match k with
  | _ => ("", "", "", false)
def tyJ1 : Nat → FieldType := fun k => match k with
  | _ => .int
abbrev wsJ10 : List Cond := u_ws RJ1 TJ1 0
theorem nmJ1 : ∀ a, a < 0 → ∀ b, b < 0 → a ≠ b → (TJ1 a).2.1 ≠ (TJ1 b).2.1 := by decide +kernel
theorem tyJ1_ok : ∀ k, k < 0 → parseFieldDescriptor (TJ1 k).2.2.1 = some (tyJ1 k) := by decide +kernel
abbrev cJ1_charAt_3b067 : ByteArray := prog_14_method_2_code
def yJ1_charAt_3b067 : MethodName := ⟨RJ1, "charAt", "([BI)C"⟩
def RJ2 : String := "java/lang/StringUTF16"
def TJ2 : u_T := fun k => match k with
  | _ => ("", "", "", false)
def tyJ2 : Nat → FieldType := fun k => match k with
  | _ => .int
abbrev wsJ20 : List Cond := u_ws RJ2 TJ2 0
theorem nmJ2 : ∀ a, a < 0 → ∀ b, b < 0 → a ≠ b → (TJ2 a).2.1 ≠ (TJ2 b).2.1 := by decide +kernel
theorem tyJ2_ok : ∀ k, k < 0 → parseFieldDescriptor (TJ2 k).2.2.1 = some (tyJ2 k) := by decide +kernel
abbrev cJ2_getChar_3b067 : ByteArray := prog_15_method_5_code
def yJ2_getChar_3b067 : MethodName := ⟨RJ2, "getChar", "([BI)C"⟩
abbrev cJ2_length_9d52b : ByteArray := prog_15_method_6_code
def yJ2_length_9d52b : MethodName := ⟨RJ2, "length", "([B)I"⟩
abbrev cJ2_charAt_3b067 : ByteArray := prog_15_method_83_code
def yJ2_charAt_3b067 : MethodName := ⟨RJ2, "charAt", "([BI)C"⟩
abbrev cJ2_checkIndex_2214a : ByteArray := prog_15_method_91_code
def yJ2_checkIndex_2214a : MethodName := ⟨RJ2, "checkIndex", "(I[B)V"⟩
def RJ10 : String := "java/lang/System"
def TJ10 : u_T := fun k => match k with
  | _ => ("", "", "", false)
def tyJ10 : Nat → FieldType := fun k => match k with
  | _ => .int
abbrev wsJ100 : List Cond := u_ws RJ10 TJ10 0
theorem nmJ10 : ∀ a, a < 0 → ∀ b, b < 0 → a ≠ b → (TJ10 a).2.1 ≠ (TJ10 b).2.1 := by decide +kernel
theorem tyJ10_ok : ∀ k, k < 0 → parseFieldDescriptor (TJ10 k).2.2.1 = some (tyJ10 k) := by decide +kernel
def RJ3 : String := "jdk/internal/util/Preconditions"
def TJ3 : u_T := fun k => match k with
  | _ => ("", "", "", false)
def tyJ3 : Nat → FieldType := fun k => match k with
  | _ => .int
abbrev wsJ30 : List Cond := u_ws RJ3 TJ3 0
theorem nmJ3 : ∀ a, a < 0 → ∀ b, b < 0 → a ≠ b → (TJ3 a).2.1 ≠ (TJ3 b).2.1 := by decide +kernel
theorem tyJ3_ok : ∀ k, k < 0 → parseFieldDescriptor (TJ3 k).2.2.1 = some (tyJ3 k) := by decide +kernel
abbrev cJ3_checkIndex_8e157 : ByteArray := prog_17_method_11_code
def yJ3_checkIndex_8e157 : MethodName := ⟨RJ3, "checkIndex", "(IILjava/util/function/BiFunction;)I"⟩
def RL : String := "RadioCuesLaw"
abbrev cL_law : ByteArray := code
def yL_law : MethodName := ⟨RL, "law", "([I)Z"⟩
abbrev vwCl : List vw_C := [(RX0, TX0, 2), (RX1, TX1, 5), (RX2, TX2, 4), (RX3, TX3, 6), (RX4, TX4, 9), (RX5, TX5, 5), (RX6, TX6, 3), (RX7, TX7, 4), (RX8, TX8, 7), (RX9, TX9, 12)]
theorem dX0_init_0 : decode cX0_init 0 = .ok (.aload_n 0, 1) := by decide +kernel
theorem dX0_init_1 : decode cX0_init 1 = .ok (.invokespecial 3, 3) := by decide +kernel
theorem dX0_init_4 : decode cX0_init 4 = .ok (.aload_n 0, 1) := by decide +kernel
theorem dX0_init_5 : decode cX0_init 5 = .ok (.bipush 50, 2) := by decide +kernel
theorem dX0_init_7 : decode cX0_init 7 = .ok (.putfield 9, 3) := by decide +kernel
theorem dX0_init_10 : decode cX0_init 10 = .ok (.aload_n 0, 1) := by decide +kernel
theorem dX0_init_11 : decode cX0_init 11 = .ok (.bipush 50, 2) := by decide +kernel
theorem dX0_init_13 : decode cX0_init 13 = .ok (.putfield 15, 3) := by decide +kernel
theorem dX0_init_16 : decode cX0_init 16 = .ok (.return_, 1) := by decide +kernel
theorem dX0_fade_0 : decode cX0_fade 0 = .ok (.aload_n 0, 1) := by decide +kernel
theorem dX0_fade_1 : decode cX0_fade 1 = .ok (.aload_n 0, 1) := by decide +kernel
theorem dX0_fade_2 : decode cX0_fade 2 = .ok (.getfield 9, 3) := by decide +kernel
theorem dX0_fade_5 : decode cX0_fade 5 = .ok (.aload_n 0, 1) := by decide +kernel
theorem dX0_fade_6 : decode cX0_fade 6 = .ok (.getfield 15, 3) := by decide +kernel
theorem dX0_fade_9 : decode cX0_fade 9 = .ok (.iload_n 1, 1) := by decide +kernel
theorem dX0_fade_10 : decode cX0_fade 10 = .ok (.invokestatic 18, 3) := by decide +kernel
theorem dX0_fade_13 : decode cX0_fade 13 = .ok (.putfield 9, 3) := by decide +kernel
theorem dX0_fade_16 : decode cX0_fade 16 = .ok (.return_, 1) := by decide +kernel
theorem dX1_init_0 : decode cX1_init 0 = .ok (.aload_n 0, 1) := by decide +kernel
theorem dX1_init_1 : decode cX1_init 1 = .ok (.invokespecial 1, 3) := by decide +kernel
theorem dX1_init_4 : decode cX1_init 4 = .ok (.return_, 1) := by decide +kernel
theorem dX1_copyFrom_0 : decode cX1_copyFrom 0 = .ok (.aload_n 0, 1) := by decide +kernel
theorem dX1_copyFrom_1 : decode cX1_copyFrom 1 = .ok (.aload_n 1, 1) := by decide +kernel
theorem dX1_copyFrom_2 : decode cX1_copyFrom 2 = .ok (.getfield 7, 3) := by decide +kernel
theorem dX1_copyFrom_5 : decode cX1_copyFrom 5 = .ok (.putfield 7, 3) := by decide +kernel
theorem dX1_copyFrom_8 : decode cX1_copyFrom 8 = .ok (.aload_n 0, 1) := by decide +kernel
theorem dX1_copyFrom_9 : decode cX1_copyFrom 9 = .ok (.aload_n 1, 1) := by decide +kernel
theorem dX1_copyFrom_10 : decode cX1_copyFrom 10 = .ok (.getfield 13, 3) := by decide +kernel
theorem dX1_copyFrom_13 : decode cX1_copyFrom 13 = .ok (.putfield 13, 3) := by decide +kernel
theorem dX1_copyFrom_16 : decode cX1_copyFrom 16 = .ok (.aload_n 0, 1) := by decide +kernel
theorem dX1_copyFrom_17 : decode cX1_copyFrom 17 = .ok (.aload_n 1, 1) := by decide +kernel
theorem dX1_copyFrom_18 : decode cX1_copyFrom 18 = .ok (.getfield 16, 3) := by decide +kernel
theorem dX1_copyFrom_21 : decode cX1_copyFrom 21 = .ok (.putfield 16, 3) := by decide +kernel
theorem dX1_copyFrom_24 : decode cX1_copyFrom 24 = .ok (.aload_n 0, 1) := by decide +kernel
theorem dX1_copyFrom_25 : decode cX1_copyFrom 25 = .ok (.aload_n 1, 1) := by decide +kernel
theorem dX1_copyFrom_26 : decode cX1_copyFrom 26 = .ok (.getfield 19, 3) := by decide +kernel
theorem dX1_copyFrom_29 : decode cX1_copyFrom 29 = .ok (.putfield 19, 3) := by decide +kernel
theorem dX1_copyFrom_32 : decode cX1_copyFrom 32 = .ok (.aload_n 0, 1) := by decide +kernel
theorem dX1_copyFrom_33 : decode cX1_copyFrom 33 = .ok (.aload_n 1, 1) := by decide +kernel
theorem dX1_copyFrom_34 : decode cX1_copyFrom 34 = .ok (.getfield 22, 3) := by decide +kernel
theorem dX1_copyFrom_37 : decode cX1_copyFrom 37 = .ok (.putfield 22, 3) := by decide +kernel
theorem dX1_copyFrom_40 : decode cX1_copyFrom 40 = .ok (.return_, 1) := by decide +kernel
theorem dX2_init_0 : decode cX2_init 0 = .ok (.aload_n 0, 1) := by decide +kernel
theorem dX2_init_1 : decode cX2_init 1 = .ok (.invokespecial 3, 3) := by decide +kernel
theorem dX2_init_4 : decode cX2_init 4 = .ok (.aload_n 0, 1) := by decide +kernel
theorem dX2_init_5 : decode cX2_init 5 = .ok (.bipush 24, 2) := by decide +kernel
theorem dX2_init_7 : decode cX2_init 7 = .ok (.newarray .int, 2) := by decide +kernel
theorem dX2_init_9 : decode cX2_init 9 = .ok (.putfield 9, 3) := by decide +kernel
theorem dX2_init_12 : decode cX2_init 12 = .ok (.aload_n 0, 1) := by decide +kernel
theorem dX2_init_13 : decode cX2_init 13 = .ok (.bipush 24, 2) := by decide +kernel
theorem dX2_init_15 : decode cX2_init 15 = .ok (.newarray .int, 2) := by decide +kernel
theorem dX2_init_17 : decode cX2_init 17 = .ok (.putfield 15, 3) := by decide +kernel
theorem dX2_init_20 : decode cX2_init 20 = .ok (.aload_n 0, 1) := by decide +kernel
theorem dX2_init_21 : decode cX2_init 21 = .ok (.bipush 24, 2) := by decide +kernel
theorem dX2_init_23 : decode cX2_init 23 = .ok (.newarray .int, 2) := by decide +kernel
theorem dX2_init_25 : decode cX2_init 25 = .ok (.putfield 18, 3) := by decide +kernel
theorem dX2_init_28 : decode cX2_init 28 = .ok (.return_, 1) := by decide +kernel
theorem dX2_copyFrom_0 : decode cX2_copyFrom 0 = .ok (.aload_n 0, 1) := by decide +kernel
theorem dX2_copyFrom_1 : decode cX2_copyFrom 1 = .ok (.aload_n 1, 1) := by decide +kernel
theorem dX2_copyFrom_2 : decode cX2_copyFrom 2 = .ok (.getfield 21, 3) := by decide +kernel
theorem dX2_copyFrom_5 : decode cX2_copyFrom 5 = .ok (.putfield 21, 3) := by decide +kernel
theorem dX2_copyFrom_8 : decode cX2_copyFrom 8 = .ok (.aload_n 1, 1) := by decide +kernel
theorem dX2_copyFrom_9 : decode cX2_copyFrom 9 = .ok (.getfield 9, 3) := by decide +kernel
theorem dX2_copyFrom_12 : decode cX2_copyFrom 12 = .ok (.iconst 0, 1) := by decide +kernel
theorem dX2_copyFrom_13 : decode cX2_copyFrom 13 = .ok (.aload_n 0, 1) := by decide +kernel
theorem dX2_copyFrom_14 : decode cX2_copyFrom 14 = .ok (.getfield 9, 3) := by decide +kernel
theorem dX2_copyFrom_17 : decode cX2_copyFrom 17 = .ok (.iconst 0, 1) := by decide +kernel
theorem dX2_copyFrom_18 : decode cX2_copyFrom 18 = .ok (.aload_n 0, 1) := by decide +kernel
theorem dX2_copyFrom_19 : decode cX2_copyFrom 19 = .ok (.getfield 9, 3) := by decide +kernel
theorem dX2_copyFrom_22 : decode cX2_copyFrom 22 = .ok (.arraylength, 1) := by decide +kernel
theorem dX2_copyFrom_23 : decode cX2_copyFrom 23 = .ok (.invokestatic 25, 3) := by decide +kernel
theorem dX2_copyFrom_26 : decode cX2_copyFrom 26 = .ok (.aload_n 1, 1) := by decide +kernel
theorem dX2_copyFrom_27 : decode cX2_copyFrom 27 = .ok (.getfield 15, 3) := by decide +kernel
theorem dX2_copyFrom_30 : decode cX2_copyFrom 30 = .ok (.iconst 0, 1) := by decide +kernel
theorem dX2_copyFrom_31 : decode cX2_copyFrom 31 = .ok (.aload_n 0, 1) := by decide +kernel
theorem dX2_copyFrom_32 : decode cX2_copyFrom 32 = .ok (.getfield 15, 3) := by decide +kernel
theorem dX2_copyFrom_35 : decode cX2_copyFrom 35 = .ok (.iconst 0, 1) := by decide +kernel
theorem dX2_copyFrom_36 : decode cX2_copyFrom 36 = .ok (.aload_n 0, 1) := by decide +kernel
theorem dX2_copyFrom_37 : decode cX2_copyFrom 37 = .ok (.getfield 15, 3) := by decide +kernel
theorem dX2_copyFrom_40 : decode cX2_copyFrom 40 = .ok (.arraylength, 1) := by decide +kernel
theorem dX2_copyFrom_41 : decode cX2_copyFrom 41 = .ok (.invokestatic 25, 3) := by decide +kernel
theorem dX2_copyFrom_44 : decode cX2_copyFrom 44 = .ok (.aload_n 1, 1) := by decide +kernel
theorem dX2_copyFrom_45 : decode cX2_copyFrom 45 = .ok (.getfield 18, 3) := by decide +kernel
theorem dX2_copyFrom_48 : decode cX2_copyFrom 48 = .ok (.iconst 0, 1) := by decide +kernel
theorem dX2_copyFrom_49 : decode cX2_copyFrom 49 = .ok (.aload_n 0, 1) := by decide +kernel
theorem dX2_copyFrom_50 : decode cX2_copyFrom 50 = .ok (.getfield 18, 3) := by decide +kernel
theorem dX2_copyFrom_53 : decode cX2_copyFrom 53 = .ok (.iconst 0, 1) := by decide +kernel
theorem dX2_copyFrom_54 : decode cX2_copyFrom 54 = .ok (.aload_n 0, 1) := by decide +kernel
theorem dX2_copyFrom_55 : decode cX2_copyFrom 55 = .ok (.getfield 18, 3) := by decide +kernel
theorem dX2_copyFrom_58 : decode cX2_copyFrom 58 = .ok (.arraylength, 1) := by decide +kernel
theorem dX2_copyFrom_59 : decode cX2_copyFrom 59 = .ok (.invokestatic 25, 3) := by decide +kernel
theorem dX2_copyFrom_62 : decode cX2_copyFrom 62 = .ok (.return_, 1) := by decide +kernel
theorem dX2_slam_0 : decode cX2_slam 0 = .ok (.aload_n 0, 1) := by decide +kernel
theorem dX2_slam_1 : decode cX2_slam 1 = .ok (.getfield 21, 3) := by decide +kernel
theorem dX2_slam_4 : decode cX2_slam 4 = .ok (.ifCond .lt 52, 3) := by decide +kernel
theorem dX2_slam_7 : decode cX2_slam 7 = .ok (.aload_n 0, 1) := by decide +kernel
theorem dX2_slam_8 : decode cX2_slam 8 = .ok (.getfield 21, 3) := by decide +kernel
theorem dX2_slam_11 : decode cX2_slam 11 = .ok (.bipush 24, 2) := by decide +kernel
theorem dX2_slam_13 : decode cX2_slam 13 = .ok (.if_icmp .ge 43, 3) := by decide +kernel
theorem dX2_slam_16 : decode cX2_slam 16 = .ok (.aload_n 0, 1) := by decide +kernel
theorem dX2_slam_17 : decode cX2_slam 17 = .ok (.getfield 9, 3) := by decide +kernel
theorem dX2_slam_20 : decode cX2_slam 20 = .ok (.aload_n 0, 1) := by decide +kernel
theorem dX2_slam_21 : decode cX2_slam 21 = .ok (.getfield 21, 3) := by decide +kernel
theorem dX2_slam_24 : decode cX2_slam 24 = .ok (.iload_n 1, 1) := by decide +kernel
theorem dX2_slam_25 : decode cX2_slam 25 = .ok (.iastore, 1) := by decide +kernel
theorem dX2_slam_26 : decode cX2_slam 26 = .ok (.aload_n 0, 1) := by decide +kernel
theorem dX2_slam_27 : decode cX2_slam 27 = .ok (.getfield 15, 3) := by decide +kernel
theorem dX2_slam_30 : decode cX2_slam 30 = .ok (.aload_n 0, 1) := by decide +kernel
theorem dX2_slam_31 : decode cX2_slam 31 = .ok (.getfield 21, 3) := by decide +kernel
theorem dX2_slam_34 : decode cX2_slam 34 = .ok (.iload_n 2, 1) := by decide +kernel
theorem dX2_slam_35 : decode cX2_slam 35 = .ok (.iastore, 1) := by decide +kernel
theorem dX2_slam_36 : decode cX2_slam 36 = .ok (.aload_n 0, 1) := by decide +kernel
theorem dX2_slam_37 : decode cX2_slam 37 = .ok (.getfield 18, 3) := by decide +kernel
theorem dX2_slam_40 : decode cX2_slam 40 = .ok (.aload_n 0, 1) := by decide +kernel
theorem dX2_slam_41 : decode cX2_slam 41 = .ok (.getfield 21, 3) := by decide +kernel
theorem dX2_slam_44 : decode cX2_slam 44 = .ok (.iload_n 3, 1) := by decide +kernel
theorem dX2_slam_45 : decode cX2_slam 45 = .ok (.iastore, 1) := by decide +kernel
theorem dX2_slam_46 : decode cX2_slam 46 = .ok (.aload_n 0, 1) := by decide +kernel
theorem dX2_slam_47 : decode cX2_slam 47 = .ok (.dup, 1) := by decide +kernel
theorem dX2_slam_48 : decode cX2_slam 48 = .ok (.getfield 21, 3) := by decide +kernel
theorem dX2_slam_51 : decode cX2_slam 51 = .ok (.iconst 1, 1) := by decide +kernel
theorem dX2_slam_52 : decode cX2_slam 52 = .ok (.iadd, 1) := by decide +kernel
theorem dX2_slam_53 : decode cX2_slam 53 = .ok (.putfield 21, 3) := by decide +kernel
theorem dX2_slam_56 : decode cX2_slam 56 = .ok (.return_, 1) := by decide +kernel
theorem dX2_hearSecond_0 : decode cX2_hearSecond 0 = .ok (.iconst 0, 1) := by decide +kernel
theorem dX2_hearSecond_1 : decode cX2_hearSecond 1 = .ok (.istore_n 1, 1) := by decide +kernel
theorem dX2_hearSecond_2 : decode cX2_hearSecond 2 = .ok (.iconst 0, 1) := by decide +kernel
theorem dX2_hearSecond_3 : decode cX2_hearSecond 3 = .ok (.istore_n 2, 1) := by decide +kernel
theorem dX2_hearSecond_4 : decode cX2_hearSecond 4 = .ok (.iload_n 2, 1) := by decide +kernel
theorem dX2_hearSecond_5 : decode cX2_hearSecond 5 = .ok (.aload_n 0, 1) := by decide +kernel
theorem dX2_hearSecond_6 : decode cX2_hearSecond 6 = .ok (.getfield 21, 3) := by decide +kernel
theorem dX2_hearSecond_9 : decode cX2_hearSecond 9 = .ok (.if_icmp .ge 66, 3) := by decide +kernel
theorem dX2_hearSecond_12 : decode cX2_hearSecond 12 = .ok (.iload_n 2, 1) := by decide +kernel
theorem dX2_hearSecond_13 : decode cX2_hearSecond 13 = .ok (.bipush 24, 2) := by decide +kernel
theorem dX2_hearSecond_15 : decode cX2_hearSecond 15 = .ok (.if_icmp .ge 60, 3) := by decide +kernel
theorem dX2_hearSecond_18 : decode cX2_hearSecond 18 = .ok (.aload_n 0, 1) := by decide +kernel
theorem dX2_hearSecond_19 : decode cX2_hearSecond 19 = .ok (.getfield 18, 3) := by decide +kernel
theorem dX2_hearSecond_22 : decode cX2_hearSecond 22 = .ok (.iload_n 2, 1) := by decide +kernel
theorem dX2_hearSecond_23 : decode cX2_hearSecond 23 = .ok (.iaload, 1) := by decide +kernel
theorem dX2_hearSecond_24 : decode cX2_hearSecond 24 = .ok (.iconst 1, 1) := by decide +kernel
theorem dX2_hearSecond_25 : decode cX2_hearSecond 25 = .ok (.if_icmp .le 44, 3) := by decide +kernel
theorem dX2_hearSecond_28 : decode cX2_hearSecond 28 = .ok (.aload_n 0, 1) := by decide +kernel
theorem dX2_hearSecond_29 : decode cX2_hearSecond 29 = .ok (.getfield 9, 3) := by decide +kernel
theorem dX2_hearSecond_32 : decode cX2_hearSecond 32 = .ok (.iload_n 1, 1) := by decide +kernel
theorem dX2_hearSecond_33 : decode cX2_hearSecond 33 = .ok (.aload_n 0, 1) := by decide +kernel
theorem dX2_hearSecond_34 : decode cX2_hearSecond 34 = .ok (.getfield 9, 3) := by decide +kernel
theorem dX2_hearSecond_37 : decode cX2_hearSecond 37 = .ok (.iload_n 2, 1) := by decide +kernel
theorem dX2_hearSecond_38 : decode cX2_hearSecond 38 = .ok (.iaload, 1) := by decide +kernel
theorem dX2_hearSecond_39 : decode cX2_hearSecond 39 = .ok (.iastore, 1) := by decide +kernel
theorem dX2_hearSecond_40 : decode cX2_hearSecond 40 = .ok (.aload_n 0, 1) := by decide +kernel
theorem dX2_hearSecond_41 : decode cX2_hearSecond 41 = .ok (.getfield 15, 3) := by decide +kernel
theorem dX2_hearSecond_44 : decode cX2_hearSecond 44 = .ok (.iload_n 1, 1) := by decide +kernel
theorem dX2_hearSecond_45 : decode cX2_hearSecond 45 = .ok (.aload_n 0, 1) := by decide +kernel
theorem dX2_hearSecond_46 : decode cX2_hearSecond 46 = .ok (.getfield 15, 3) := by decide +kernel
theorem dX2_hearSecond_49 : decode cX2_hearSecond 49 = .ok (.iload_n 2, 1) := by decide +kernel
theorem dX2_hearSecond_50 : decode cX2_hearSecond 50 = .ok (.iaload, 1) := by decide +kernel
theorem dX2_hearSecond_51 : decode cX2_hearSecond 51 = .ok (.iastore, 1) := by decide +kernel
theorem dX2_hearSecond_52 : decode cX2_hearSecond 52 = .ok (.aload_n 0, 1) := by decide +kernel
theorem dX2_hearSecond_53 : decode cX2_hearSecond 53 = .ok (.getfield 18, 3) := by decide +kernel
theorem dX2_hearSecond_56 : decode cX2_hearSecond 56 = .ok (.iload_n 1, 1) := by decide +kernel
theorem dX2_hearSecond_57 : decode cX2_hearSecond 57 = .ok (.aload_n 0, 1) := by decide +kernel
theorem dX2_hearSecond_58 : decode cX2_hearSecond 58 = .ok (.getfield 18, 3) := by decide +kernel
theorem dX2_hearSecond_61 : decode cX2_hearSecond 61 = .ok (.iload_n 2, 1) := by decide +kernel
theorem dX2_hearSecond_62 : decode cX2_hearSecond 62 = .ok (.iaload, 1) := by decide +kernel
theorem dX2_hearSecond_63 : decode cX2_hearSecond 63 = .ok (.iconst 1, 1) := by decide +kernel
theorem dX2_hearSecond_64 : decode cX2_hearSecond 64 = .ok (.isub, 1) := by decide +kernel
theorem dX2_hearSecond_65 : decode cX2_hearSecond 65 = .ok (.iastore, 1) := by decide +kernel
theorem dX2_hearSecond_66 : decode cX2_hearSecond 66 = .ok (.iinc 1 1, 3) := by decide +kernel
theorem dX2_hearSecond_69 : decode cX2_hearSecond 69 = .ok (.iinc 2 1, 3) := by decide +kernel
theorem dX2_hearSecond_72 : decode cX2_hearSecond 72 = .ok (.goto (-68), 3) := by decide +kernel
theorem dX2_hearSecond_75 : decode cX2_hearSecond 75 = .ok (.aload_n 0, 1) := by decide +kernel
theorem dX2_hearSecond_76 : decode cX2_hearSecond 76 = .ok (.iload_n 1, 1) := by decide +kernel
theorem dX2_hearSecond_77 : decode cX2_hearSecond 77 = .ok (.putfield 21, 3) := by decide +kernel
theorem dX2_hearSecond_80 : decode cX2_hearSecond 80 = .ok (.return_, 1) := by decide +kernel
theorem dX2_countOn_0 : decode cX2_countOn 0 = .ok (.iconst 0, 1) := by decide +kernel
theorem dX2_countOn_1 : decode cX2_countOn 1 = .ok (.istore_n 2, 1) := by decide +kernel
theorem dX2_countOn_2 : decode cX2_countOn 2 = .ok (.iconst 0, 1) := by decide +kernel
theorem dX2_countOn_3 : decode cX2_countOn 3 = .ok (.istore_n 3, 1) := by decide +kernel
theorem dX2_countOn_4 : decode cX2_countOn 4 = .ok (.iload_n 3, 1) := by decide +kernel
theorem dX2_countOn_5 : decode cX2_countOn 5 = .ok (.aload_n 0, 1) := by decide +kernel
theorem dX2_countOn_6 : decode cX2_countOn 6 = .ok (.getfield 21, 3) := by decide +kernel
theorem dX2_countOn_9 : decode cX2_countOn 9 = .ok (.if_icmp .ge 28, 3) := by decide +kernel
theorem dX2_countOn_12 : decode cX2_countOn 12 = .ok (.iload_n 3, 1) := by decide +kernel
theorem dX2_countOn_13 : decode cX2_countOn 13 = .ok (.bipush 24, 2) := by decide +kernel
theorem dX2_countOn_15 : decode cX2_countOn 15 = .ok (.if_icmp .ge 22, 3) := by decide +kernel
theorem dX2_countOn_18 : decode cX2_countOn 18 = .ok (.aload_n 0, 1) := by decide +kernel
theorem dX2_countOn_19 : decode cX2_countOn 19 = .ok (.getfield 9, 3) := by decide +kernel
theorem dX2_countOn_22 : decode cX2_countOn 22 = .ok (.iload_n 3, 1) := by decide +kernel
theorem dX2_countOn_23 : decode cX2_countOn 23 = .ok (.iaload, 1) := by decide +kernel
theorem dX2_countOn_24 : decode cX2_countOn 24 = .ok (.iload_n 1, 1) := by decide +kernel
theorem dX2_countOn_25 : decode cX2_countOn 25 = .ok (.if_icmp .ne 6, 3) := by decide +kernel
theorem dX2_countOn_28 : decode cX2_countOn 28 = .ok (.iinc 2 1, 3) := by decide +kernel
theorem dX2_countOn_31 : decode cX2_countOn 31 = .ok (.iinc 3 1, 3) := by decide +kernel
theorem dX2_countOn_34 : decode cX2_countOn 34 = .ok (.goto (-30), 3) := by decide +kernel
theorem dX2_countOn_37 : decode cX2_countOn 37 = .ok (.iload_n 2, 1) := by decide +kernel
theorem dX2_countOn_38 : decode cX2_countOn 38 = .ok (.ireturn, 1) := by decide +kernel
theorem dX3_init_0 : decode cX3_init 0 = .ok (.aload_n 0, 1) := by decide +kernel
theorem dX3_init_1 : decode cX3_init 1 = .ok (.invokespecial 3, 3) := by decide +kernel
theorem dX3_init_4 : decode cX3_init 4 = .ok (.aload_n 0, 1) := by decide +kernel
theorem dX3_init_5 : decode cX3_init 5 = .ok (.bipush 80, 2) := by decide +kernel
theorem dX3_init_7 : decode cX3_init 7 = .ok (.newarray .char, 2) := by decide +kernel
theorem dX3_init_9 : decode cX3_init 9 = .ok (.putfield 9, 3) := by decide +kernel
theorem dX3_init_12 : decode cX3_init 12 = .ok (.aload_n 0, 1) := by decide +kernel
theorem dX3_init_13 : decode cX3_init 13 = .ok (.iconst 3, 1) := by decide +kernel
theorem dX3_init_14 : decode cX3_init 14 = .ok (.newarray .int, 2) := by decide +kernel
theorem dX3_init_16 : decode cX3_init 16 = .ok (.putfield 15, 3) := by decide +kernel
theorem dX3_init_19 : decode cX3_init 19 = .ok (.return_, 1) := by decide +kernel
theorem dX3_countCharacters_0 : decode cX3_countCharacters 0 = .ok (.iconst 0, 1) := by decide +kernel
theorem dX3_countCharacters_1 : decode cX3_countCharacters 1 = .ok (.istore_n 2, 1) := by decide +kernel
theorem dX3_countCharacters_2 : decode cX3_countCharacters 2 = .ok (.lload_n 0, 1) := by decide +kernel
theorem dX3_countCharacters_3 : decode cX3_countCharacters 3 = .ok (.lstore_n 3, 1) := by decide +kernel
theorem dX3_countCharacters_4 : decode cX3_countCharacters 4 = .ok (.iconst 0, 1) := by decide +kernel
theorem dX3_countCharacters_5 : decode cX3_countCharacters 5 = .ok (.istore 5, 2) := by decide +kernel
theorem dX3_countCharacters_7 : decode cX3_countCharacters 7 = .ok (.iload 5, 2) := by decide +kernel
theorem dX3_countCharacters_9 : decode cX3_countCharacters 9 = .ok (.bipush 8, 2) := by decide +kernel
theorem dX3_countCharacters_11 : decode cX3_countCharacters 11 = .ok (.if_icmp .ge 47, 3) := by decide +kernel
theorem dX3_countCharacters_14 : decode cX3_countCharacters 14 = .ok (.lload_n 3, 1) := by decide +kernel
theorem dX3_countCharacters_15 : decode cX3_countCharacters 15 = .ok (.lconst 0, 1) := by decide +kernel
theorem dX3_countCharacters_16 : decode cX3_countCharacters 16 = .ok (.lcmp, 1) := by decide +kernel
theorem dX3_countCharacters_17 : decode cX3_countCharacters 17 = .ok (.ifCond .eq 41, 3) := by decide +kernel
theorem dX3_countCharacters_20 : decode cX3_countCharacters 20 = .ok (.lload_n 3, 1) := by decide +kernel
theorem dX3_countCharacters_21 : decode cX3_countCharacters 21 = .ok (.ldc2_w 19, 3) := by decide +kernel
theorem dX3_countCharacters_24 : decode cX3_countCharacters 24 = .ok (.land, 1) := by decide +kernel
theorem dX3_countCharacters_25 : decode cX3_countCharacters 25 = .ok (.l2i, 1) := by decide +kernel
theorem dX3_countCharacters_26 : decode cX3_countCharacters 26 = .ok (.istore 6, 2) := by decide +kernel
theorem dX3_countCharacters_28 : decode cX3_countCharacters 28 = .ok (.iload 6, 2) := by decide +kernel
theorem dX3_countCharacters_30 : decode cX3_countCharacters 30 = .ok (.bipush 33, 2) := by decide +kernel
theorem dX3_countCharacters_32 : decode cX3_countCharacters 32 = .ok (.if_icmp .lt 10, 3) := by decide +kernel
theorem dX3_countCharacters_35 : decode cX3_countCharacters 35 = .ok (.iload 6, 2) := by decide +kernel
theorem dX3_countCharacters_37 : decode cX3_countCharacters 37 = .ok (.bipush 126, 2) := by decide +kernel
theorem dX3_countCharacters_39 : decode cX3_countCharacters 39 = .ok (.if_icmp .le 5, 3) := by decide +kernel
theorem dX3_countCharacters_42 : decode cX3_countCharacters 42 = .ok (.iconst 0, 1) := by decide +kernel
theorem dX3_countCharacters_43 : decode cX3_countCharacters 43 = .ok (.ireturn, 1) := by decide +kernel
theorem dX3_countCharacters_44 : decode cX3_countCharacters 44 = .ok (.iinc 2 1, 3) := by decide +kernel
theorem dX3_countCharacters_47 : decode cX3_countCharacters 47 = .ok (.lload_n 3, 1) := by decide +kernel
theorem dX3_countCharacters_48 : decode cX3_countCharacters 48 = .ok (.bipush 8, 2) := by decide +kernel
theorem dX3_countCharacters_50 : decode cX3_countCharacters 50 = .ok (.lushr, 1) := by decide +kernel
theorem dX3_countCharacters_51 : decode cX3_countCharacters 51 = .ok (.lstore_n 3, 1) := by decide +kernel
theorem dX3_countCharacters_52 : decode cX3_countCharacters 52 = .ok (.iinc 5 1, 3) := by decide +kernel
theorem dX3_countCharacters_55 : decode cX3_countCharacters 55 = .ok (.goto (-48), 3) := by decide +kernel
theorem dX3_countCharacters_58 : decode cX3_countCharacters 58 = .ok (.iload_n 2, 1) := by decide +kernel
theorem dX3_countCharacters_59 : decode cX3_countCharacters 59 = .ok (.ireturn, 1) := by decide +kernel
theorem dX3_append_0 : decode cX3_append 0 = .ok (.iload_n 3, 1) := by decide +kernel
theorem dX3_append_1 : decode cX3_append 1 = .ok (.iconst 1, 1) := by decide +kernel
theorem dX3_append_2 : decode cX3_append 2 = .ok (.isub, 1) := by decide +kernel
theorem dX3_append_3 : decode cX3_append 3 = .ok (.istore 4, 2) := by decide +kernel
theorem dX3_append_5 : decode cX3_append 5 = .ok (.iload 4, 2) := by decide +kernel
theorem dX3_append_7 : decode cX3_append 7 = .ok (.ifCond .lt 60, 3) := by decide +kernel
theorem dX3_append_10 : decode cX3_append 10 = .ok (.aload_n 0, 1) := by decide +kernel
theorem dX3_append_11 : decode cX3_append 11 = .ok (.getfield 21, 3) := by decide +kernel
theorem dX3_append_14 : decode cX3_append 14 = .ok (.ifCond .lt 47, 3) := by decide +kernel
theorem dX3_append_17 : decode cX3_append 17 = .ok (.aload_n 0, 1) := by decide +kernel
theorem dX3_append_18 : decode cX3_append 18 = .ok (.getfield 21, 3) := by decide +kernel
theorem dX3_append_21 : decode cX3_append 21 = .ok (.aload_n 0, 1) := by decide +kernel
theorem dX3_append_22 : decode cX3_append 22 = .ok (.getfield 9, 3) := by decide +kernel
theorem dX3_append_25 : decode cX3_append 25 = .ok (.arraylength, 1) := by decide +kernel
theorem dX3_append_26 : decode cX3_append 26 = .ok (.if_icmp .ge 35, 3) := by decide +kernel
theorem dX3_append_29 : decode cX3_append 29 = .ok (.aload_n 0, 1) := by decide +kernel
theorem dX3_append_30 : decode cX3_append 30 = .ok (.getfield 9, 3) := by decide +kernel
theorem dX3_append_33 : decode cX3_append 33 = .ok (.aload_n 0, 1) := by decide +kernel
theorem dX3_append_34 : decode cX3_append 34 = .ok (.getfield 21, 3) := by decide +kernel
theorem dX3_append_37 : decode cX3_append 37 = .ok (.lload_n 1, 1) := by decide +kernel
theorem dX3_append_38 : decode cX3_append 38 = .ok (.bipush 8, 2) := by decide +kernel
theorem dX3_append_40 : decode cX3_append 40 = .ok (.iload 4, 2) := by decide +kernel
theorem dX3_append_42 : decode cX3_append 42 = .ok (.imul, 1) := by decide +kernel
theorem dX3_append_43 : decode cX3_append 43 = .ok (.lushr, 1) := by decide +kernel
theorem dX3_append_44 : decode cX3_append 44 = .ok (.ldc2_w 19, 3) := by decide +kernel
theorem dX3_append_47 : decode cX3_append 47 = .ok (.land, 1) := by decide +kernel
theorem dX3_append_48 : decode cX3_append 48 = .ok (.l2i, 1) := by decide +kernel
theorem dX3_append_49 : decode cX3_append 49 = .ok (.i2c, 1) := by decide +kernel
theorem dX3_append_50 : decode cX3_append 50 = .ok (.castore, 1) := by decide +kernel
theorem dX3_append_51 : decode cX3_append 51 = .ok (.aload_n 0, 1) := by decide +kernel
theorem dX3_append_52 : decode cX3_append 52 = .ok (.dup, 1) := by decide +kernel
theorem dX3_append_53 : decode cX3_append 53 = .ok (.getfield 21, 3) := by decide +kernel
theorem dX3_append_56 : decode cX3_append 56 = .ok (.iconst 1, 1) := by decide +kernel
theorem dX3_append_57 : decode cX3_append 57 = .ok (.iadd, 1) := by decide +kernel
theorem dX3_append_58 : decode cX3_append 58 = .ok (.putfield 21, 3) := by decide +kernel
theorem dX3_append_61 : decode cX3_append 61 = .ok (.iinc 4 (-1), 3) := by decide +kernel
theorem dX3_append_64 : decode cX3_append 64 = .ok (.goto (-59), 3) := by decide +kernel
theorem dX3_append_67 : decode cX3_append 67 = .ok (.aload_n 0, 1) := by decide +kernel
theorem dX3_append_68 : decode cX3_append 68 = .ok (.getfield 21, 3) := by decide +kernel
theorem dX3_append_71 : decode cX3_append 71 = .ok (.ireturn, 1) := by decide +kernel
theorem dX3_findFault_0 : decode cX3_findFault 0 = .ok (.aload_n 0, 1) := by decide +kernel
theorem dX3_findFault_1 : decode cX3_findFault 1 = .ok (.iconst 0, 1) := by decide +kernel
theorem dX3_findFault_2 : decode cX3_findFault 2 = .ok (.putfield 25, 3) := by decide +kernel
theorem dX3_findFault_5 : decode cX3_findFault 5 = .ok (.iconst 0, 1) := by decide +kernel
theorem dX3_findFault_6 : decode cX3_findFault 6 = .ok (.istore_n 1, 1) := by decide +kernel
theorem dX3_findFault_7 : decode cX3_findFault 7 = .ok (.iload_n 1, 1) := by decide +kernel
theorem dX3_findFault_8 : decode cX3_findFault 8 = .ok (.bipush 80, 2) := by decide +kernel
theorem dX3_findFault_10 : decode cX3_findFault 10 = .ok (.if_icmp .ge 58, 3) := by decide +kernel
theorem dX3_findFault_13 : decode cX3_findFault 13 = .ok (.aload_n 0, 1) := by decide +kernel
theorem dX3_findFault_14 : decode cX3_findFault 14 = .ok (.invokevirtual 28, 3) := by decide +kernel
theorem dX3_findFault_17 : decode cX3_findFault 17 = .ok (.ifCond .eq 51, 3) := by decide +kernel
theorem dX3_findFault_20 : decode cX3_findFault 20 = .ok (.aload_n 0, 1) := by decide +kernel
theorem dX3_findFault_21 : decode cX3_findFault 21 = .ok (.getfield 25, 3) := by decide +kernel
theorem dX3_findFault_24 : decode cX3_findFault 24 = .ok (.aload_n 0, 1) := by decide +kernel
theorem dX3_findFault_25 : decode cX3_findFault 25 = .ok (.getfield 21, 3) := by decide +kernel
theorem dX3_findFault_28 : decode cX3_findFault 28 = .ok (.if_icmp .ne 6, 3) := by decide +kernel
theorem dX3_findFault_31 : decode cX3_findFault 31 = .ok (.bipush (-6), 2) := by decide +kernel
theorem dX3_findFault_33 : decode cX3_findFault 33 = .ok (.ireturn, 1) := by decide +kernel
theorem dX3_findFault_34 : decode cX3_findFault 34 = .ok (.aload_n 0, 1) := by decide +kernel
theorem dX3_findFault_35 : decode cX3_findFault 35 = .ok (.aload_n 0, 1) := by decide +kernel
theorem dX3_findFault_36 : decode cX3_findFault 36 = .ok (.getfield 25, 3) := by decide +kernel
theorem dX3_findFault_39 : decode cX3_findFault 39 = .ok (.invokevirtual 32, 3) := by decide +kernel
theorem dX3_findFault_42 : decode cX3_findFault 42 = .ok (.bipush 59, 2) := by decide +kernel
theorem dX3_findFault_44 : decode cX3_findFault 44 = .ok (.if_icmp .eq 8, 3) := by decide +kernel
theorem dX3_findFault_47 : decode cX3_findFault 47 = .ok (.aload_n 0, 1) := by decide +kernel
theorem dX3_findFault_48 : decode cX3_findFault 48 = .ok (.getfield 25, 3) := by decide +kernel
theorem dX3_findFault_51 : decode cX3_findFault 51 = .ok (.ireturn, 1) := by decide +kernel
theorem dX3_findFault_52 : decode cX3_findFault 52 = .ok (.aload_n 0, 1) := by decide +kernel
theorem dX3_findFault_53 : decode cX3_findFault 53 = .ok (.dup, 1) := by decide +kernel
theorem dX3_findFault_54 : decode cX3_findFault 54 = .ok (.getfield 25, 3) := by decide +kernel
theorem dX3_findFault_57 : decode cX3_findFault 57 = .ok (.iconst 1, 1) := by decide +kernel
theorem dX3_findFault_58 : decode cX3_findFault 58 = .ok (.iadd, 1) := by decide +kernel
theorem dX3_findFault_59 : decode cX3_findFault 59 = .ok (.putfield 25, 3) := by decide +kernel
theorem dX3_findFault_62 : decode cX3_findFault 62 = .ok (.iinc 1 1, 3) := by decide +kernel
theorem dX3_findFault_65 : decode cX3_findFault 65 = .ok (.goto (-58), 3) := by decide +kernel
theorem dX3_findFault_68 : decode cX3_findFault 68 = .ok (.aload_n 0, 1) := by decide +kernel
theorem dX3_findFault_69 : decode cX3_findFault 69 = .ok (.getfield 25, 3) := by decide +kernel
theorem dX3_findFault_72 : decode cX3_findFault 72 = .ok (.ireturn, 1) := by decide +kernel
theorem dX3_readOrder_0 : decode cX3_readOrder 0 = .ok (.aload_n 0, 1) := by decide +kernel
theorem dX3_readOrder_1 : decode cX3_readOrder 1 = .ok (.aload_n 0, 1) := by decide +kernel
theorem dX3_readOrder_2 : decode cX3_readOrder 2 = .ok (.aload_n 0, 1) := by decide +kernel
theorem dX3_readOrder_3 : decode cX3_readOrder 3 = .ok (.getfield 25, 3) := by decide +kernel
theorem dX3_readOrder_6 : decode cX3_readOrder 6 = .ok (.invokevirtual 32, 3) := by decide +kernel
theorem dX3_readOrder_9 : decode cX3_readOrder 9 = .ok (.putfield 36, 3) := by decide +kernel
theorem dX3_readOrder_12 : decode cX3_readOrder 12 = .ok (.aload_n 0, 1) := by decide +kernel
theorem dX3_readOrder_13 : decode cX3_readOrder 13 = .ok (.getfield 36, 3) := by decide +kernel
theorem dX3_readOrder_16 : decode cX3_readOrder 16 = .ok (.invokestatic 40, 3) := by decide +kernel
theorem dX3_readOrder_19 : decode cX3_readOrder 19 = .ok (.astore_n 1, 1) := by decide +kernel
theorem dX3_readOrder_20 : decode cX3_readOrder 20 = .ok (.aload_n 1, 1) := by decide +kernel
theorem dX3_readOrder_21 : decode cX3_readOrder 21 = .ok (.invokevirtual 44, 3) := by decide +kernel
theorem dX3_readOrder_24 : decode cX3_readOrder 24 = .ok (.ifCond .eq 5, 3) := by decide +kernel
theorem dX3_readOrder_27 : decode cX3_readOrder 27 = .ok (.iconst 0, 1) := by decide +kernel
theorem dX3_readOrder_28 : decode cX3_readOrder 28 = .ok (.ireturn, 1) := by decide +kernel
theorem dX3_readOrder_29 : decode cX3_readOrder 29 = .ok (.aload_n 0, 1) := by decide +kernel
theorem dX3_readOrder_30 : decode cX3_readOrder 30 = .ok (.dup, 1) := by decide +kernel
theorem dX3_readOrder_31 : decode cX3_readOrder 31 = .ok (.getfield 25, 3) := by decide +kernel
theorem dX3_readOrder_34 : decode cX3_readOrder 34 = .ok (.iconst 1, 1) := by decide +kernel
theorem dX3_readOrder_35 : decode cX3_readOrder 35 = .ok (.iadd, 1) := by decide +kernel
theorem dX3_readOrder_36 : decode cX3_readOrder 36 = .ok (.putfield 25, 3) := by decide +kernel
theorem dX3_readOrder_39 : decode cX3_readOrder 39 = .ok (.aload_n 0, 1) := by decide +kernel
theorem dX3_readOrder_40 : decode cX3_readOrder 40 = .ok (.iconst 0, 1) := by decide +kernel
theorem dX3_readOrder_41 : decode cX3_readOrder 41 = .ok (.putfield 49, 3) := by decide +kernel
theorem dX3_readOrder_44 : decode cX3_readOrder 44 = .ok (.iconst 0, 1) := by decide +kernel
theorem dX3_readOrder_45 : decode cX3_readOrder 45 = .ok (.istore_n 2, 1) := by decide +kernel
theorem dX3_readOrder_46 : decode cX3_readOrder 46 = .ok (.iload_n 2, 1) := by decide +kernel
theorem dX3_readOrder_47 : decode cX3_readOrder 47 = .ok (.aload_n 1, 1) := by decide +kernel
theorem dX3_readOrder_48 : decode cX3_readOrder 48 = .ok (.invokevirtual 52, 3) := by decide +kernel
theorem dX3_readOrder_51 : decode cX3_readOrder 51 = .ok (.if_icmp .ge 23, 3) := by decide +kernel
theorem dX3_readOrder_54 : decode cX3_readOrder 54 = .ok (.aload_n 0, 1) := by decide +kernel
theorem dX3_readOrder_55 : decode cX3_readOrder 55 = .ok (.aload_n 1, 1) := by decide +kernel
theorem dX3_readOrder_56 : decode cX3_readOrder 56 = .ok (.iload_n 2, 1) := by decide +kernel
theorem dX3_readOrder_57 : decode cX3_readOrder 57 = .ok (.invokevirtual 55, 3) := by decide +kernel
theorem dX3_readOrder_60 : decode cX3_readOrder 60 = .ok (.invokevirtual 58, 3) := by decide +kernel
theorem dX3_readOrder_63 : decode cX3_readOrder 63 = .ok (.ifCond .ne 5, 3) := by decide +kernel
theorem dX3_readOrder_66 : decode cX3_readOrder 66 = .ok (.iconst 0, 1) := by decide +kernel
theorem dX3_readOrder_67 : decode cX3_readOrder 67 = .ok (.ireturn, 1) := by decide +kernel
theorem dX3_readOrder_68 : decode cX3_readOrder 68 = .ok (.iinc 2 1, 3) := by decide +kernel
theorem dX3_readOrder_71 : decode cX3_readOrder 71 = .ok (.goto (-25), 3) := by decide +kernel
theorem dX3_readOrder_74 : decode cX3_readOrder 74 = .ok (.iconst 1, 1) := by decide +kernel
theorem dX3_readOrder_75 : decode cX3_readOrder 75 = .ok (.ireturn, 1) := by decide +kernel
theorem dX3_shapeOf_0 : decode cX3_shapeOf 0 = .ok (.iload_n 0, 1) := by decide +kernel
theorem dX3_shapeOf_1 : decode cX3_shapeOf 1 = .ok (.bipush 114, 2) := by decide +kernel
theorem dX3_shapeOf_3 : decode cX3_shapeOf 3 = .ok (.if_icmp .ne 6, 3) := by decide +kernel
theorem dX3_shapeOf_6 : decode cX3_shapeOf 6 = .ok (.ldc 62, 2) := by decide +kernel
theorem dX3_shapeOf_8 : decode cX3_shapeOf 8 = .ok (.areturn, 1) := by decide +kernel
theorem dX3_shapeOf_9 : decode cX3_shapeOf 9 = .ok (.iload_n 0, 1) := by decide +kernel
theorem dX3_shapeOf_10 : decode cX3_shapeOf 10 = .ok (.bipush 115, 2) := by decide +kernel
theorem dX3_shapeOf_12 : decode cX3_shapeOf 12 = .ok (.if_icmp .ne 6, 3) := by decide +kernel
theorem dX3_shapeOf_15 : decode cX3_shapeOf 15 = .ok (.ldc 64, 2) := by decide +kernel
theorem dX3_shapeOf_17 : decode cX3_shapeOf 17 = .ok (.areturn, 1) := by decide +kernel
theorem dX3_shapeOf_18 : decode cX3_shapeOf 18 = .ok (.iload_n 0, 1) := by decide +kernel
theorem dX3_shapeOf_19 : decode cX3_shapeOf 19 = .ok (.bipush 100, 2) := by decide +kernel
theorem dX3_shapeOf_21 : decode cX3_shapeOf 21 = .ok (.if_icmp .ne 6, 3) := by decide +kernel
theorem dX3_shapeOf_24 : decode cX3_shapeOf 24 = .ok (.ldc 66, 2) := by decide +kernel
theorem dX3_shapeOf_26 : decode cX3_shapeOf 26 = .ok (.areturn, 1) := by decide +kernel
theorem dX3_shapeOf_27 : decode cX3_shapeOf 27 = .ok (.iload_n 0, 1) := by decide +kernel
theorem dX3_shapeOf_28 : decode cX3_shapeOf 28 = .ok (.bipush 108, 2) := by decide +kernel
theorem dX3_shapeOf_30 : decode cX3_shapeOf 30 = .ok (.if_icmp .ne 6, 3) := by decide +kernel
theorem dX3_shapeOf_33 : decode cX3_shapeOf 33 = .ok (.ldc 68, 2) := by decide +kernel
theorem dX3_shapeOf_35 : decode cX3_shapeOf 35 = .ok (.areturn, 1) := by decide +kernel
theorem dX3_shapeOf_36 : decode cX3_shapeOf 36 = .ok (.iload_n 0, 1) := by decide +kernel
theorem dX3_shapeOf_37 : decode cX3_shapeOf 37 = .ok (.bipush 103, 2) := by decide +kernel
theorem dX3_shapeOf_39 : decode cX3_shapeOf 39 = .ok (.if_icmp .ne 8, 3) := by decide +kernel
theorem dX3_shapeOf_42 : decode cX3_shapeOf 42 = .ok (.ldc 70, 2) := by decide +kernel
theorem dX3_shapeOf_44 : decode cX3_shapeOf 44 = .ok (.goto 5, 3) := by decide +kernel
theorem dX3_shapeOf_47 : decode cX3_shapeOf 47 = .ok (.ldc 72, 2) := by decide +kernel
theorem dX3_shapeOf_49 : decode cX3_shapeOf 49 = .ok (.areturn, 1) := by decide +kernel
theorem dX3_readPart_0 : decode cX3_readPart 0 = .ok (.iload_n 1, 1) := by decide +kernel
theorem dX3_readPart_1 : decode cX3_readPart 1 = .ok (.bipush 68, 2) := by decide +kernel
theorem dX3_readPart_3 : decode cX3_readPart 3 = .ok (.if_icmp .ne 9, 3) := by decide +kernel
theorem dX3_readPart_6 : decode cX3_readPart 6 = .ok (.aload_n 0, 1) := by decide +kernel
theorem dX3_readPart_7 : decode cX3_readPart 7 = .ok (.iconst 1, 1) := by decide +kernel
theorem dX3_readPart_8 : decode cX3_readPart 8 = .ok (.invokevirtual 74, 3) := by decide +kernel
theorem dX3_readPart_11 : decode cX3_readPart 11 = .ok (.ireturn, 1) := by decide +kernel
theorem dX3_readPart_12 : decode cX3_readPart 12 = .ok (.iload_n 1, 1) := by decide +kernel
theorem dX3_readPart_13 : decode cX3_readPart 13 = .ok (.bipush 78, 2) := by decide +kernel
theorem dX3_readPart_15 : decode cX3_readPart 15 = .ok (.if_icmp .ne 9, 3) := by decide +kernel
theorem dX3_readPart_18 : decode cX3_readPart 18 = .ok (.aload_n 0, 1) := by decide +kernel
theorem dX3_readPart_19 : decode cX3_readPart 19 = .ok (.iconst 3, 1) := by decide +kernel
theorem dX3_readPart_20 : decode cX3_readPart 20 = .ok (.invokevirtual 74, 3) := by decide +kernel
theorem dX3_readPart_23 : decode cX3_readPart 23 = .ok (.ireturn, 1) := by decide +kernel
theorem dX3_readPart_24 : decode cX3_readPart 24 = .ok (.aload_n 0, 1) := by decide +kernel
theorem dX3_readPart_25 : decode cX3_readPart 25 = .ok (.aload_n 0, 1) := by decide +kernel
theorem dX3_readPart_26 : decode cX3_readPart 26 = .ok (.getfield 25, 3) := by decide +kernel
theorem dX3_readPart_29 : decode cX3_readPart 29 = .ok (.invokevirtual 32, 3) := by decide +kernel
theorem dX3_readPart_32 : decode cX3_readPart 32 = .ok (.iload_n 1, 1) := by decide +kernel
theorem dX3_readPart_33 : decode cX3_readPart 33 = .ok (.if_icmp .eq 5, 3) := by decide +kernel
theorem dX3_readPart_36 : decode cX3_readPart 36 = .ok (.iconst 0, 1) := by decide +kernel
theorem dX3_readPart_37 : decode cX3_readPart 37 = .ok (.ireturn, 1) := by decide +kernel
theorem dX3_readPart_38 : decode cX3_readPart 38 = .ok (.aload_n 0, 1) := by decide +kernel
theorem dX3_readPart_39 : decode cX3_readPart 39 = .ok (.dup, 1) := by decide +kernel
theorem dX3_readPart_40 : decode cX3_readPart 40 = .ok (.getfield 25, 3) := by decide +kernel
theorem dX3_readPart_43 : decode cX3_readPart 43 = .ok (.iconst 1, 1) := by decide +kernel
theorem dX3_readPart_44 : decode cX3_readPart 44 = .ok (.iadd, 1) := by decide +kernel
theorem dX3_readPart_45 : decode cX3_readPart 45 = .ok (.putfield 25, 3) := by decide +kernel
theorem dX3_readPart_48 : decode cX3_readPart 48 = .ok (.iconst 1, 1) := by decide +kernel
theorem dX3_readPart_49 : decode cX3_readPart 49 = .ok (.ireturn, 1) := by decide +kernel
theorem dX3_readNumber_0 : decode cX3_readNumber 0 = .ok (.aload_n 0, 1) := by decide +kernel
theorem dX3_readNumber_1 : decode cX3_readNumber 1 = .ok (.aload_n 0, 1) := by decide +kernel
theorem dX3_readNumber_2 : decode cX3_readNumber 2 = .ok (.getfield 25, 3) := by decide +kernel
theorem dX3_readNumber_5 : decode cX3_readNumber 5 = .ok (.invokevirtual 78, 3) := by decide +kernel
theorem dX3_readNumber_8 : decode cX3_readNumber 8 = .ok (.istore_n 2, 1) := by decide +kernel
theorem dX3_readNumber_9 : decode cX3_readNumber 9 = .ok (.iload_n 2, 1) := by decide +kernel
theorem dX3_readNumber_10 : decode cX3_readNumber 10 = .ok (.ifCond .ge 5, 3) := by decide +kernel
theorem dX3_readNumber_13 : decode cX3_readNumber 13 = .ok (.iconst 0, 1) := by decide +kernel
theorem dX3_readNumber_14 : decode cX3_readNumber 14 = .ok (.ireturn, 1) := by decide +kernel
theorem dX3_readNumber_15 : decode cX3_readNumber 15 = .ok (.aload_n 0, 1) := by decide +kernel
theorem dX3_readNumber_16 : decode cX3_readNumber 16 = .ok (.dup, 1) := by decide +kernel
theorem dX3_readNumber_17 : decode cX3_readNumber 17 = .ok (.getfield 25, 3) := by decide +kernel
theorem dX3_readNumber_20 : decode cX3_readNumber 20 = .ok (.iconst 1, 1) := by decide +kernel
theorem dX3_readNumber_21 : decode cX3_readNumber 21 = .ok (.iadd, 1) := by decide +kernel
theorem dX3_readNumber_22 : decode cX3_readNumber 22 = .ok (.putfield 25, 3) := by decide +kernel
theorem dX3_readNumber_25 : decode cX3_readNumber 25 = .ok (.iconst 1, 1) := by decide +kernel
theorem dX3_readNumber_26 : decode cX3_readNumber 26 = .ok (.istore_n 3, 1) := by decide +kernel
theorem dX3_readNumber_27 : decode cX3_readNumber 27 = .ok (.iload_n 3, 1) := by decide +kernel
theorem dX3_readNumber_28 : decode cX3_readNumber 28 = .ok (.iload_n 1, 1) := by decide +kernel
theorem dX3_readNumber_29 : decode cX3_readNumber 29 = .ok (.if_icmp .ge 48, 3) := by decide +kernel
theorem dX3_readNumber_32 : decode cX3_readNumber 32 = .ok (.iload_n 2, 1) := by decide +kernel
theorem dX3_readNumber_33 : decode cX3_readNumber 33 = .ok (.ifCond .le 44, 3) := by decide +kernel
theorem dX3_readNumber_36 : decode cX3_readNumber 36 = .ok (.aload_n 0, 1) := by decide +kernel
theorem dX3_readNumber_37 : decode cX3_readNumber 37 = .ok (.aload_n 0, 1) := by decide +kernel
theorem dX3_readNumber_38 : decode cX3_readNumber 38 = .ok (.getfield 25, 3) := by decide +kernel
theorem dX3_readNumber_41 : decode cX3_readNumber 41 = .ok (.invokevirtual 78, 3) := by decide +kernel
theorem dX3_readNumber_44 : decode cX3_readNumber 44 = .ok (.ifCond .lt 33, 3) := by decide +kernel
theorem dX3_readNumber_47 : decode cX3_readNumber 47 = .ok (.iload_n 2, 1) := by decide +kernel
theorem dX3_readNumber_48 : decode cX3_readNumber 48 = .ok (.bipush 10, 2) := by decide +kernel
theorem dX3_readNumber_50 : decode cX3_readNumber 50 = .ok (.imul, 1) := by decide +kernel
theorem dX3_readNumber_51 : decode cX3_readNumber 51 = .ok (.aload_n 0, 1) := by decide +kernel
theorem dX3_readNumber_52 : decode cX3_readNumber 52 = .ok (.aload_n 0, 1) := by decide +kernel
theorem dX3_readNumber_53 : decode cX3_readNumber 53 = .ok (.getfield 25, 3) := by decide +kernel
theorem dX3_readNumber_56 : decode cX3_readNumber 56 = .ok (.invokevirtual 78, 3) := by decide +kernel
theorem dX3_readNumber_59 : decode cX3_readNumber 59 = .ok (.iadd, 1) := by decide +kernel
theorem dX3_readNumber_60 : decode cX3_readNumber 60 = .ok (.istore_n 2, 1) := by decide +kernel
theorem dX3_readNumber_61 : decode cX3_readNumber 61 = .ok (.aload_n 0, 1) := by decide +kernel
theorem dX3_readNumber_62 : decode cX3_readNumber 62 = .ok (.dup, 1) := by decide +kernel
theorem dX3_readNumber_63 : decode cX3_readNumber 63 = .ok (.getfield 25, 3) := by decide +kernel
theorem dX3_readNumber_66 : decode cX3_readNumber 66 = .ok (.iconst 1, 1) := by decide +kernel
theorem dX3_readNumber_67 : decode cX3_readNumber 67 = .ok (.iadd, 1) := by decide +kernel
theorem dX3_readNumber_68 : decode cX3_readNumber 68 = .ok (.putfield 25, 3) := by decide +kernel
theorem dX3_readNumber_71 : decode cX3_readNumber 71 = .ok (.iinc 3 1, 3) := by decide +kernel
theorem dX3_readNumber_74 : decode cX3_readNumber 74 = .ok (.goto (-47), 3) := by decide +kernel
theorem dX3_readNumber_77 : decode cX3_readNumber 77 = .ok (.aload_n 0, 1) := by decide +kernel
theorem dX3_readNumber_78 : decode cX3_readNumber 78 = .ok (.getfield 49, 3) := by decide +kernel
theorem dX3_readNumber_81 : decode cX3_readNumber 81 = .ok (.ifCond .lt 35, 3) := by decide +kernel
theorem dX3_readNumber_84 : decode cX3_readNumber 84 = .ok (.aload_n 0, 1) := by decide +kernel
theorem dX3_readNumber_85 : decode cX3_readNumber 85 = .ok (.getfield 49, 3) := by decide +kernel
theorem dX3_readNumber_88 : decode cX3_readNumber 88 = .ok (.aload_n 0, 1) := by decide +kernel
theorem dX3_readNumber_89 : decode cX3_readNumber 89 = .ok (.getfield 15, 3) := by decide +kernel
theorem dX3_readNumber_92 : decode cX3_readNumber 92 = .ok (.arraylength, 1) := by decide +kernel
theorem dX3_readNumber_93 : decode cX3_readNumber 93 = .ok (.if_icmp .ge 23, 3) := by decide +kernel
theorem dX3_readNumber_96 : decode cX3_readNumber 96 = .ok (.aload_n 0, 1) := by decide +kernel
theorem dX3_readNumber_97 : decode cX3_readNumber 97 = .ok (.getfield 15, 3) := by decide +kernel
theorem dX3_readNumber_100 : decode cX3_readNumber 100 = .ok (.aload_n 0, 1) := by decide +kernel
theorem dX3_readNumber_101 : decode cX3_readNumber 101 = .ok (.getfield 49, 3) := by decide +kernel
theorem dX3_readNumber_104 : decode cX3_readNumber 104 = .ok (.iload_n 2, 1) := by decide +kernel
theorem dX3_readNumber_105 : decode cX3_readNumber 105 = .ok (.iastore, 1) := by decide +kernel
theorem dX3_readNumber_106 : decode cX3_readNumber 106 = .ok (.aload_n 0, 1) := by decide +kernel
theorem dX3_readNumber_107 : decode cX3_readNumber 107 = .ok (.dup, 1) := by decide +kernel
theorem dX3_readNumber_108 : decode cX3_readNumber 108 = .ok (.getfield 49, 3) := by decide +kernel
theorem dX3_readNumber_111 : decode cX3_readNumber 111 = .ok (.iconst 1, 1) := by decide +kernel
theorem dX3_readNumber_112 : decode cX3_readNumber 112 = .ok (.iadd, 1) := by decide +kernel
theorem dX3_readNumber_113 : decode cX3_readNumber 113 = .ok (.putfield 49, 3) := by decide +kernel
theorem dX3_readNumber_116 : decode cX3_readNumber 116 = .ok (.iconst 1, 1) := by decide +kernel
theorem dX3_readNumber_117 : decode cX3_readNumber 117 = .ok (.ireturn, 1) := by decide +kernel
theorem dX3_digitAt_0 : decode cX3_digitAt 0 = .ok (.aload_n 0, 1) := by decide +kernel
theorem dX3_digitAt_1 : decode cX3_digitAt 1 = .ok (.iload_n 1, 1) := by decide +kernel
theorem dX3_digitAt_2 : decode cX3_digitAt 2 = .ok (.invokevirtual 32, 3) := by decide +kernel
theorem dX3_digitAt_5 : decode cX3_digitAt 5 = .ok (.istore_n 2, 1) := by decide +kernel
theorem dX3_digitAt_6 : decode cX3_digitAt 6 = .ok (.iload_n 2, 1) := by decide +kernel
theorem dX3_digitAt_7 : decode cX3_digitAt 7 = .ok (.bipush 48, 2) := by decide +kernel
theorem dX3_digitAt_9 : decode cX3_digitAt 9 = .ok (.if_icmp .lt 16, 3) := by decide +kernel
theorem dX3_digitAt_12 : decode cX3_digitAt 12 = .ok (.iload_n 2, 1) := by decide +kernel
theorem dX3_digitAt_13 : decode cX3_digitAt 13 = .ok (.bipush 57, 2) := by decide +kernel
theorem dX3_digitAt_15 : decode cX3_digitAt 15 = .ok (.if_icmp .gt 10, 3) := by decide +kernel
theorem dX3_digitAt_18 : decode cX3_digitAt 18 = .ok (.iload_n 2, 1) := by decide +kernel
theorem dX3_digitAt_19 : decode cX3_digitAt 19 = .ok (.bipush 48, 2) := by decide +kernel
theorem dX3_digitAt_21 : decode cX3_digitAt 21 = .ok (.isub, 1) := by decide +kernel
theorem dX3_digitAt_22 : decode cX3_digitAt 22 = .ok (.goto 4, 3) := by decide +kernel
theorem dX3_digitAt_25 : decode cX3_digitAt 25 = .ok (.iconst (-1), 1) := by decide +kernel
theorem dX3_digitAt_26 : decode cX3_digitAt 26 = .ok (.ireturn, 1) := by decide +kernel
theorem dX3_characterAt_0 : decode cX3_characterAt 0 = .ok (.iload_n 1, 1) := by decide +kernel
theorem dX3_characterAt_1 : decode cX3_characterAt 1 = .ok (.ifCond .lt 20, 3) := by decide +kernel
theorem dX3_characterAt_4 : decode cX3_characterAt 4 = .ok (.iload_n 1, 1) := by decide +kernel
theorem dX3_characterAt_5 : decode cX3_characterAt 5 = .ok (.aload_n 0, 1) := by decide +kernel
theorem dX3_characterAt_6 : decode cX3_characterAt 6 = .ok (.getfield 21, 3) := by decide +kernel
theorem dX3_characterAt_9 : decode cX3_characterAt 9 = .ok (.if_icmp .ge 12, 3) := by decide +kernel
theorem dX3_characterAt_12 : decode cX3_characterAt 12 = .ok (.iload_n 1, 1) := by decide +kernel
theorem dX3_characterAt_13 : decode cX3_characterAt 13 = .ok (.aload_n 0, 1) := by decide +kernel
theorem dX3_characterAt_14 : decode cX3_characterAt 14 = .ok (.getfield 9, 3) := by decide +kernel
theorem dX3_characterAt_17 : decode cX3_characterAt 17 = .ok (.arraylength, 1) := by decide +kernel
theorem dX3_characterAt_18 : decode cX3_characterAt 18 = .ok (.if_icmp .lt 7, 3) := by decide +kernel
theorem dX3_characterAt_21 : decode cX3_characterAt 21 = .ok (.iconst 0, 1) := by decide +kernel
theorem dX3_characterAt_22 : decode cX3_characterAt 22 = .ok (.goto 9, 3) := by decide +kernel
theorem dX3_characterAt_25 : decode cX3_characterAt 25 = .ok (.aload_n 0, 1) := by decide +kernel
theorem dX3_characterAt_26 : decode cX3_characterAt 26 = .ok (.getfield 9, 3) := by decide +kernel
theorem dX3_characterAt_29 : decode cX3_characterAt 29 = .ok (.iload_n 1, 1) := by decide +kernel
theorem dX3_characterAt_30 : decode cX3_characterAt 30 = .ok (.caload, 1) := by decide +kernel
theorem dX3_characterAt_31 : decode cX3_characterAt 31 = .ok (.ireturn, 1) := by decide +kernel
theorem dX4_init_0 : decode cX4_init 0 = .ok (.aload_n 0, 1) := by decide +kernel
theorem dX4_init_1 : decode cX4_init 1 = .ok (.invokespecial 3, 3) := by decide +kernel
theorem dX4_init_4 : decode cX4_init 4 = .ok (.aload_n 0, 1) := by decide +kernel
theorem dX4_init_5 : decode cX4_init 5 = .ok (.iconst 4, 1) := by decide +kernel
theorem dX4_init_6 : decode cX4_init 6 = .ok (.newarray .int, 2) := by decide +kernel
theorem dX4_init_8 : decode cX4_init 8 = .ok (.dup, 1) := by decide +kernel
theorem dX4_init_9 : decode cX4_init 9 = .ok (.iconst 0, 1) := by decide +kernel
theorem dX4_init_10 : decode cX4_init 10 = .ok (.iconst 4, 1) := by decide +kernel
theorem dX4_init_11 : decode cX4_init 11 = .ok (.iastore, 1) := by decide +kernel
theorem dX4_init_12 : decode cX4_init 12 = .ok (.dup, 1) := by decide +kernel
theorem dX4_init_13 : decode cX4_init 13 = .ok (.iconst 1, 1) := by decide +kernel
theorem dX4_init_14 : decode cX4_init 14 = .ok (.iconst 2, 1) := by decide +kernel
theorem dX4_init_15 : decode cX4_init 15 = .ok (.iastore, 1) := by decide +kernel
theorem dX4_init_16 : decode cX4_init 16 = .ok (.dup, 1) := by decide +kernel
theorem dX4_init_17 : decode cX4_init 17 = .ok (.iconst 2, 1) := by decide +kernel
theorem dX4_init_18 : decode cX4_init 18 = .ok (.bipush 10, 2) := by decide +kernel
theorem dX4_init_20 : decode cX4_init 20 = .ok (.iastore, 1) := by decide +kernel
theorem dX4_init_21 : decode cX4_init 21 = .ok (.dup, 1) := by decide +kernel
theorem dX4_init_22 : decode cX4_init 22 = .ok (.iconst 3, 1) := by decide +kernel
theorem dX4_init_23 : decode cX4_init 23 = .ok (.sipush 150, 3) := by decide +kernel
theorem dX4_init_26 : decode cX4_init 26 = .ok (.iastore, 1) := by decide +kernel
theorem dX4_init_27 : decode cX4_init 27 = .ok (.putfield 9, 3) := by decide +kernel
theorem dX4_init_30 : decode cX4_init 30 = .ok (.aload_n 0, 1) := by decide +kernel
theorem dX4_init_31 : decode cX4_init 31 = .ok (.new 15, 3) := by decide +kernel
theorem dX4_init_34 : decode cX4_init 34 = .ok (.dup, 1) := by decide +kernel
theorem dX4_init_35 : decode cX4_init 35 = .ok (.invokespecial 17, 3) := by decide +kernel
theorem dX4_init_38 : decode cX4_init 38 = .ok (.putfield 18, 3) := by decide +kernel
theorem dX4_init_41 : decode cX4_init 41 = .ok (.aload_n 0, 1) := by decide +kernel
theorem dX4_init_42 : decode cX4_init 42 = .ok (.iconst 4, 1) := by decide +kernel
theorem dX4_init_43 : decode cX4_init 43 = .ok (.anewarray 22, 3) := by decide +kernel
theorem dX4_init_46 : decode cX4_init 46 = .ok (.putfield 24, 3) := by decide +kernel
theorem dX4_init_49 : decode cX4_init 49 = .ok (.aload_n 0, 1) := by decide +kernel
theorem dX4_init_50 : decode cX4_init 50 = .ok (.iconst 4, 1) := by decide +kernel
theorem dX4_init_51 : decode cX4_init 51 = .ok (.anewarray 28, 3) := by decide +kernel
theorem dX4_init_54 : decode cX4_init 54 = .ok (.putfield 30, 3) := by decide +kernel
theorem dX4_init_57 : decode cX4_init 57 = .ok (.aload_n 0, 1) := by decide +kernel
theorem dX4_init_58 : decode cX4_init 58 = .ok (.new 34, 3) := by decide +kernel
theorem dX4_init_61 : decode cX4_init 61 = .ok (.dup, 1) := by decide +kernel
theorem dX4_init_62 : decode cX4_init 62 = .ok (.invokespecial 36, 3) := by decide +kernel
theorem dX4_init_65 : decode cX4_init 65 = .ok (.putfield 37, 3) := by decide +kernel
theorem dX4_init_68 : decode cX4_init 68 = .ok (.aload_n 0, 1) := by decide +kernel
theorem dX4_init_69 : decode cX4_init 69 = .ok (.bipush 24, 2) := by decide +kernel
theorem dX4_init_71 : decode cX4_init 71 = .ok (.newarray .int, 2) := by decide +kernel
theorem dX4_init_73 : decode cX4_init 73 = .ok (.putfield 41, 3) := by decide +kernel
theorem dX4_init_76 : decode cX4_init 76 = .ok (.aload_n 0, 1) := by decide +kernel
theorem dX4_init_77 : decode cX4_init 77 = .ok (.sipush 1200, 3) := by decide +kernel
theorem dX4_init_80 : decode cX4_init 80 = .ok (.newarray .int, 2) := by decide +kernel
theorem dX4_init_82 : decode cX4_init 82 = .ok (.putfield 44, 3) := by decide +kernel
theorem dX4_init_85 : decode cX4_init 85 = .ok (.iconst 0, 1) := by decide +kernel
theorem dX4_init_86 : decode cX4_init 86 = .ok (.istore_n 1, 1) := by decide +kernel
theorem dX4_init_87 : decode cX4_init 87 = .ok (.iload_n 1, 1) := by decide +kernel
theorem dX4_init_88 : decode cX4_init 88 = .ok (.aload_n 0, 1) := by decide +kernel
theorem dX4_init_89 : decode cX4_init 89 = .ok (.getfield 24, 3) := by decide +kernel
theorem dX4_init_92 : decode cX4_init 92 = .ok (.arraylength, 1) := by decide +kernel
theorem dX4_init_93 : decode cX4_init 93 = .ok (.if_icmp .ge 22, 3) := by decide +kernel
theorem dX4_init_96 : decode cX4_init 96 = .ok (.aload_n 0, 1) := by decide +kernel
theorem dX4_init_97 : decode cX4_init 97 = .ok (.getfield 24, 3) := by decide +kernel
theorem dX4_init_100 : decode cX4_init 100 = .ok (.iload_n 1, 1) := by decide +kernel
theorem dX4_init_101 : decode cX4_init 101 = .ok (.new 22, 3) := by decide +kernel
theorem dX4_init_104 : decode cX4_init 104 = .ok (.dup, 1) := by decide +kernel
theorem dX4_init_105 : decode cX4_init 105 = .ok (.invokespecial 47, 3) := by decide +kernel
theorem dX4_init_108 : decode cX4_init 108 = .ok (.aastore, 1) := by decide +kernel
theorem dX4_init_109 : decode cX4_init 109 = .ok (.iinc 1 1, 3) := by decide +kernel
theorem dX4_init_112 : decode cX4_init 112 = .ok (.goto (-25), 3) := by decide +kernel
theorem dX4_init_115 : decode cX4_init 115 = .ok (.iconst 0, 1) := by decide +kernel
theorem dX4_init_116 : decode cX4_init 116 = .ok (.istore_n 1, 1) := by decide +kernel
theorem dX4_init_117 : decode cX4_init 117 = .ok (.iload_n 1, 1) := by decide +kernel
theorem dX4_init_118 : decode cX4_init 118 = .ok (.aload_n 0, 1) := by decide +kernel
theorem dX4_init_119 : decode cX4_init 119 = .ok (.getfield 30, 3) := by decide +kernel
theorem dX4_init_122 : decode cX4_init 122 = .ok (.arraylength, 1) := by decide +kernel
theorem dX4_init_123 : decode cX4_init 123 = .ok (.if_icmp .ge 22, 3) := by decide +kernel
theorem dX4_init_126 : decode cX4_init 126 = .ok (.aload_n 0, 1) := by decide +kernel
theorem dX4_init_127 : decode cX4_init 127 = .ok (.getfield 30, 3) := by decide +kernel
theorem dX4_init_130 : decode cX4_init 130 = .ok (.iload_n 1, 1) := by decide +kernel
theorem dX4_init_131 : decode cX4_init 131 = .ok (.new 28, 3) := by decide +kernel
theorem dX4_init_134 : decode cX4_init 134 = .ok (.dup, 1) := by decide +kernel
theorem dX4_init_135 : decode cX4_init 135 = .ok (.invokespecial 48, 3) := by decide +kernel
theorem dX4_init_138 : decode cX4_init 138 = .ok (.aastore, 1) := by decide +kernel
theorem dX4_init_139 : decode cX4_init 139 = .ok (.iinc 1 1, 3) := by decide +kernel
theorem dX4_init_142 : decode cX4_init 142 = .ok (.goto (-25), 3) := by decide +kernel
theorem dX4_init_145 : decode cX4_init 145 = .ok (.return_, 1) := by decide +kernel
theorem dX4_copyFrom_0 : decode cX4_copyFrom 0 = .ok (.aload_n 1, 1) := by decide +kernel
theorem dX4_copyFrom_1 : decode cX4_copyFrom 1 = .ok (.getfield 9, 3) := by decide +kernel
theorem dX4_copyFrom_4 : decode cX4_copyFrom 4 = .ok (.iconst 0, 1) := by decide +kernel
theorem dX4_copyFrom_5 : decode cX4_copyFrom 5 = .ok (.aload_n 0, 1) := by decide +kernel
theorem dX4_copyFrom_6 : decode cX4_copyFrom 6 = .ok (.getfield 9, 3) := by decide +kernel
theorem dX4_copyFrom_9 : decode cX4_copyFrom 9 = .ok (.iconst 0, 1) := by decide +kernel
theorem dX4_copyFrom_10 : decode cX4_copyFrom 10 = .ok (.aload_n 0, 1) := by decide +kernel
theorem dX4_copyFrom_11 : decode cX4_copyFrom 11 = .ok (.getfield 9, 3) := by decide +kernel
theorem dX4_copyFrom_14 : decode cX4_copyFrom 14 = .ok (.arraylength, 1) := by decide +kernel
theorem dX4_copyFrom_15 : decode cX4_copyFrom 15 = .ok (.invokestatic 49, 3) := by decide +kernel
theorem dX4_copyFrom_18 : decode cX4_copyFrom 18 = .ok (.aload_n 0, 1) := by decide +kernel
theorem dX4_copyFrom_19 : decode cX4_copyFrom 19 = .ok (.getfield 18, 3) := by decide +kernel
theorem dX4_copyFrom_22 : decode cX4_copyFrom 22 = .ok (.aload_n 1, 1) := by decide +kernel
theorem dX4_copyFrom_23 : decode cX4_copyFrom 23 = .ok (.getfield 18, 3) := by decide +kernel
theorem dX4_copyFrom_26 : decode cX4_copyFrom 26 = .ok (.invokevirtual 55, 3) := by decide +kernel
theorem dX4_copyFrom_29 : decode cX4_copyFrom 29 = .ok (.iconst 0, 1) := by decide +kernel
theorem dX4_copyFrom_30 : decode cX4_copyFrom 30 = .ok (.istore_n 2, 1) := by decide +kernel
theorem dX4_copyFrom_31 : decode cX4_copyFrom 31 = .ok (.iload_n 2, 1) := by decide +kernel
theorem dX4_copyFrom_32 : decode cX4_copyFrom 32 = .ok (.aload_n 0, 1) := by decide +kernel
theorem dX4_copyFrom_33 : decode cX4_copyFrom 33 = .ok (.getfield 24, 3) := by decide +kernel
theorem dX4_copyFrom_36 : decode cX4_copyFrom 36 = .ok (.arraylength, 1) := by decide +kernel
theorem dX4_copyFrom_37 : decode cX4_copyFrom 37 = .ok (.if_icmp .ge 24, 3) := by decide +kernel
theorem dX4_copyFrom_40 : decode cX4_copyFrom 40 = .ok (.aload_n 0, 1) := by decide +kernel
theorem dX4_copyFrom_41 : decode cX4_copyFrom 41 = .ok (.getfield 24, 3) := by decide +kernel
theorem dX4_copyFrom_44 : decode cX4_copyFrom 44 = .ok (.iload_n 2, 1) := by decide +kernel
theorem dX4_copyFrom_45 : decode cX4_copyFrom 45 = .ok (.aaload, 1) := by decide +kernel
theorem dX4_copyFrom_46 : decode cX4_copyFrom 46 = .ok (.aload_n 1, 1) := by decide +kernel
theorem dX4_copyFrom_47 : decode cX4_copyFrom 47 = .ok (.getfield 24, 3) := by decide +kernel
theorem dX4_copyFrom_50 : decode cX4_copyFrom 50 = .ok (.iload_n 2, 1) := by decide +kernel
theorem dX4_copyFrom_51 : decode cX4_copyFrom 51 = .ok (.aaload, 1) := by decide +kernel
theorem dX4_copyFrom_52 : decode cX4_copyFrom 52 = .ok (.invokevirtual 59, 3) := by decide +kernel
theorem dX4_copyFrom_55 : decode cX4_copyFrom 55 = .ok (.iinc 2 1, 3) := by decide +kernel
theorem dX4_copyFrom_58 : decode cX4_copyFrom 58 = .ok (.goto (-27), 3) := by decide +kernel
theorem dX4_copyFrom_61 : decode cX4_copyFrom 61 = .ok (.iconst 0, 1) := by decide +kernel
theorem dX4_copyFrom_62 : decode cX4_copyFrom 62 = .ok (.istore_n 2, 1) := by decide +kernel
theorem dX4_copyFrom_63 : decode cX4_copyFrom 63 = .ok (.iload_n 2, 1) := by decide +kernel
theorem dX4_copyFrom_64 : decode cX4_copyFrom 64 = .ok (.aload_n 0, 1) := by decide +kernel
theorem dX4_copyFrom_65 : decode cX4_copyFrom 65 = .ok (.getfield 30, 3) := by decide +kernel
theorem dX4_copyFrom_68 : decode cX4_copyFrom 68 = .ok (.arraylength, 1) := by decide +kernel
theorem dX4_copyFrom_69 : decode cX4_copyFrom 69 = .ok (.if_icmp .ge 45, 3) := by decide +kernel
theorem dX4_copyFrom_72 : decode cX4_copyFrom 72 = .ok (.aload_n 0, 1) := by decide +kernel
theorem dX4_copyFrom_73 : decode cX4_copyFrom 73 = .ok (.getfield 30, 3) := by decide +kernel
theorem dX4_copyFrom_76 : decode cX4_copyFrom 76 = .ok (.iload_n 2, 1) := by decide +kernel
theorem dX4_copyFrom_77 : decode cX4_copyFrom 77 = .ok (.aaload, 1) := by decide +kernel
theorem dX4_copyFrom_78 : decode cX4_copyFrom 78 = .ok (.aload_n 1, 1) := by decide +kernel
theorem dX4_copyFrom_79 : decode cX4_copyFrom 79 = .ok (.getfield 30, 3) := by decide +kernel
theorem dX4_copyFrom_82 : decode cX4_copyFrom 82 = .ok (.iload_n 2, 1) := by decide +kernel
theorem dX4_copyFrom_83 : decode cX4_copyFrom 83 = .ok (.aaload, 1) := by decide +kernel
theorem dX4_copyFrom_84 : decode cX4_copyFrom 84 = .ok (.getfield 62, 3) := by decide +kernel
theorem dX4_copyFrom_87 : decode cX4_copyFrom 87 = .ok (.putfield 62, 3) := by decide +kernel
theorem dX4_copyFrom_90 : decode cX4_copyFrom 90 = .ok (.aload_n 0, 1) := by decide +kernel
theorem dX4_copyFrom_91 : decode cX4_copyFrom 91 = .ok (.getfield 30, 3) := by decide +kernel
theorem dX4_copyFrom_94 : decode cX4_copyFrom 94 = .ok (.iload_n 2, 1) := by decide +kernel
theorem dX4_copyFrom_95 : decode cX4_copyFrom 95 = .ok (.aaload, 1) := by decide +kernel
theorem dX4_copyFrom_96 : decode cX4_copyFrom 96 = .ok (.aload_n 1, 1) := by decide +kernel
theorem dX4_copyFrom_97 : decode cX4_copyFrom 97 = .ok (.getfield 30, 3) := by decide +kernel
theorem dX4_copyFrom_100 : decode cX4_copyFrom 100 = .ok (.iload_n 2, 1) := by decide +kernel
theorem dX4_copyFrom_101 : decode cX4_copyFrom 101 = .ok (.aaload, 1) := by decide +kernel
theorem dX4_copyFrom_102 : decode cX4_copyFrom 102 = .ok (.getfield 66, 3) := by decide +kernel
theorem dX4_copyFrom_105 : decode cX4_copyFrom 105 = .ok (.putfield 66, 3) := by decide +kernel
theorem dX4_copyFrom_108 : decode cX4_copyFrom 108 = .ok (.iinc 2 1, 3) := by decide +kernel
theorem dX4_copyFrom_111 : decode cX4_copyFrom 111 = .ok (.goto (-48), 3) := by decide +kernel
theorem dX4_copyFrom_114 : decode cX4_copyFrom 114 = .ok (.aload_n 0, 1) := by decide +kernel
theorem dX4_copyFrom_115 : decode cX4_copyFrom 115 = .ok (.getfield 37, 3) := by decide +kernel
theorem dX4_copyFrom_118 : decode cX4_copyFrom 118 = .ok (.aload_n 1, 1) := by decide +kernel
theorem dX4_copyFrom_119 : decode cX4_copyFrom 119 = .ok (.getfield 37, 3) := by decide +kernel
theorem dX4_copyFrom_122 : decode cX4_copyFrom 122 = .ok (.invokevirtual 69, 3) := by decide +kernel
theorem dX4_copyFrom_125 : decode cX4_copyFrom 125 = .ok (.aload_n 1, 1) := by decide +kernel
theorem dX4_copyFrom_126 : decode cX4_copyFrom 126 = .ok (.getfield 41, 3) := by decide +kernel
theorem dX4_copyFrom_129 : decode cX4_copyFrom 129 = .ok (.iconst 0, 1) := by decide +kernel
theorem dX4_copyFrom_130 : decode cX4_copyFrom 130 = .ok (.aload_n 0, 1) := by decide +kernel
theorem dX4_copyFrom_131 : decode cX4_copyFrom 131 = .ok (.getfield 41, 3) := by decide +kernel
theorem dX4_copyFrom_134 : decode cX4_copyFrom 134 = .ok (.iconst 0, 1) := by decide +kernel
theorem dX4_copyFrom_135 : decode cX4_copyFrom 135 = .ok (.aload_n 0, 1) := by decide +kernel
theorem dX4_copyFrom_136 : decode cX4_copyFrom 136 = .ok (.getfield 41, 3) := by decide +kernel
theorem dX4_copyFrom_139 : decode cX4_copyFrom 139 = .ok (.arraylength, 1) := by decide +kernel
theorem dX4_copyFrom_140 : decode cX4_copyFrom 140 = .ok (.invokestatic 49, 3) := by decide +kernel
theorem dX4_copyFrom_143 : decode cX4_copyFrom 143 = .ok (.aload_n 0, 1) := by decide +kernel
theorem dX4_copyFrom_144 : decode cX4_copyFrom 144 = .ok (.aload_n 1, 1) := by decide +kernel
theorem dX4_copyFrom_145 : decode cX4_copyFrom 145 = .ok (.getfield 72, 3) := by decide +kernel
theorem dX4_copyFrom_148 : decode cX4_copyFrom 148 = .ok (.putfield 72, 3) := by decide +kernel
theorem dX4_copyFrom_151 : decode cX4_copyFrom 151 = .ok (.aload_n 1, 1) := by decide +kernel
theorem dX4_copyFrom_152 : decode cX4_copyFrom 152 = .ok (.getfield 44, 3) := by decide +kernel
theorem dX4_copyFrom_155 : decode cX4_copyFrom 155 = .ok (.iconst 0, 1) := by decide +kernel
theorem dX4_copyFrom_156 : decode cX4_copyFrom 156 = .ok (.aload_n 0, 1) := by decide +kernel
theorem dX4_copyFrom_157 : decode cX4_copyFrom 157 = .ok (.getfield 44, 3) := by decide +kernel
theorem dX4_copyFrom_160 : decode cX4_copyFrom 160 = .ok (.iconst 0, 1) := by decide +kernel
theorem dX4_copyFrom_161 : decode cX4_copyFrom 161 = .ok (.aload_n 1, 1) := by decide +kernel
theorem dX4_copyFrom_162 : decode cX4_copyFrom 162 = .ok (.invokevirtual 75, 3) := by decide +kernel
theorem dX4_copyFrom_165 : decode cX4_copyFrom 165 = .ok (.invokestatic 49, 3) := by decide +kernel
theorem dX4_copyFrom_168 : decode cX4_copyFrom 168 = .ok (.aload_n 0, 1) := by decide +kernel
theorem dX4_copyFrom_169 : decode cX4_copyFrom 169 = .ok (.aload_n 1, 1) := by decide +kernel
theorem dX4_copyFrom_170 : decode cX4_copyFrom 170 = .ok (.getfield 79, 3) := by decide +kernel
theorem dX4_copyFrom_173 : decode cX4_copyFrom 173 = .ok (.putfield 79, 3) := by decide +kernel
theorem dX4_copyFrom_176 : decode cX4_copyFrom 176 = .ok (.return_, 1) := by decide +kernel
theorem dX4_changeSetting_0 : decode cX4_changeSetting 0 = .ok (.iload_n 1, 1) := by decide +kernel
theorem dX4_changeSetting_1 : decode cX4_changeSetting 1 = .ok (.ifCond .lt 20, 3) := by decide +kernel
theorem dX4_changeSetting_4 : decode cX4_changeSetting 4 = .ok (.iload_n 1, 1) := by decide +kernel
theorem dX4_changeSetting_5 : decode cX4_changeSetting 5 = .ok (.aload_n 0, 1) := by decide +kernel
theorem dX4_changeSetting_6 : decode cX4_changeSetting 6 = .ok (.getfield 9, 3) := by decide +kernel
theorem dX4_changeSetting_9 : decode cX4_changeSetting 9 = .ok (.arraylength, 1) := by decide +kernel
theorem dX4_changeSetting_10 : decode cX4_changeSetting 10 = .ok (.if_icmp .ge 11, 3) := by decide +kernel
theorem dX4_changeSetting_13 : decode cX4_changeSetting 13 = .ok (.iload_n 1, 1) := by decide +kernel
theorem dX4_changeSetting_14 : decode cX4_changeSetting 14 = .ok (.getstatic 82, 3) := by decide +kernel
theorem dX4_changeSetting_17 : decode cX4_changeSetting 17 = .ok (.arraylength, 1) := by decide +kernel
theorem dX4_changeSetting_18 : decode cX4_changeSetting 18 = .ok (.if_icmp .lt 6, 3) := by decide +kernel
theorem dX4_changeSetting_21 : decode cX4_changeSetting 21 = .ok (.bipush (-2), 2) := by decide +kernel
theorem dX4_changeSetting_23 : decode cX4_changeSetting 23 = .ok (.ireturn, 1) := by decide +kernel
theorem dX4_changeSetting_24 : decode cX4_changeSetting 24 = .ok (.iload_n 1, 1) := by decide +kernel
theorem dX4_changeSetting_25 : decode cX4_changeSetting 25 = .ok (.getstatic 85, 3) := by decide +kernel
theorem dX4_changeSetting_28 : decode cX4_changeSetting 28 = .ok (.arraylength, 1) := by decide +kernel
theorem dX4_changeSetting_29 : decode cX4_changeSetting 29 = .ok (.if_icmp .ge 20, 3) := by decide +kernel
theorem dX4_changeSetting_32 : decode cX4_changeSetting 32 = .ok (.iload_n 2, 1) := by decide +kernel
theorem dX4_changeSetting_33 : decode cX4_changeSetting 33 = .ok (.getstatic 82, 3) := by decide +kernel
theorem dX4_changeSetting_36 : decode cX4_changeSetting 36 = .ok (.iload_n 1, 1) := by decide +kernel
theorem dX4_changeSetting_37 : decode cX4_changeSetting 37 = .ok (.iaload, 1) := by decide +kernel
theorem dX4_changeSetting_38 : decode cX4_changeSetting 38 = .ok (.getstatic 85, 3) := by decide +kernel
theorem dX4_changeSetting_41 : decode cX4_changeSetting 41 = .ok (.iload_n 1, 1) := by decide +kernel
theorem dX4_changeSetting_42 : decode cX4_changeSetting 42 = .ok (.iaload, 1) := by decide +kernel
theorem dX4_changeSetting_43 : decode cX4_changeSetting 43 = .ok (.invokestatic 88, 3) := by decide +kernel
theorem dX4_changeSetting_46 : decode cX4_changeSetting 46 = .ok (.ifCond .ne 6, 3) := by decide +kernel
theorem dX4_changeSetting_49 : decode cX4_changeSetting 49 = .ok (.bipush (-2), 2) := by decide +kernel
theorem dX4_changeSetting_51 : decode cX4_changeSetting 51 = .ok (.ireturn, 1) := by decide +kernel
theorem dX4_changeSetting_52 : decode cX4_changeSetting 52 = .ok (.aload_n 0, 1) := by decide +kernel
theorem dX4_changeSetting_53 : decode cX4_changeSetting 53 = .ok (.getfield 9, 3) := by decide +kernel
theorem dX4_changeSetting_56 : decode cX4_changeSetting 56 = .ok (.iload_n 1, 1) := by decide +kernel
theorem dX4_changeSetting_57 : decode cX4_changeSetting 57 = .ok (.iaload, 1) := by decide +kernel
theorem dX4_changeSetting_58 : decode cX4_changeSetting 58 = .ok (.istore_n 3, 1) := by decide +kernel
theorem dX4_changeSetting_59 : decode cX4_changeSetting 59 = .ok (.aload_n 0, 1) := by decide +kernel
theorem dX4_changeSetting_60 : decode cX4_changeSetting 60 = .ok (.getfield 9, 3) := by decide +kernel
theorem dX4_changeSetting_63 : decode cX4_changeSetting 63 = .ok (.iload_n 1, 1) := by decide +kernel
theorem dX4_changeSetting_64 : decode cX4_changeSetting 64 = .ok (.iload_n 2, 1) := by decide +kernel
theorem dX4_changeSetting_65 : decode cX4_changeSetting 65 = .ok (.iastore, 1) := by decide +kernel
theorem dX4_changeSetting_66 : decode cX4_changeSetting 66 = .ok (.iload_n 3, 1) := by decide +kernel
theorem dX4_changeSetting_67 : decode cX4_changeSetting 67 = .ok (.ireturn, 1) := by decide +kernel
theorem dX4_addSound_0 : decode cX4_addSound 0 = .ok (.aload_n 0, 1) := by decide +kernel
theorem dX4_addSound_1 : decode cX4_addSound 1 = .ok (.iload_n 1, 1) := by decide +kernel
theorem dX4_addSound_2 : decode cX4_addSound 2 = .ok (.invokevirtual 92, 3) := by decide +kernel
theorem dX4_addSound_5 : decode cX4_addSound 5 = .ok (.astore 4, 2) := by decide +kernel
theorem dX4_addSound_7 : decode cX4_addSound 7 = .ok (.aload 4, 2) := by decide +kernel
theorem dX4_addSound_9 : decode cX4_addSound 9 = .ok (.ifnonnull 5, 3) := by decide +kernel
theorem dX4_addSound_12 : decode cX4_addSound 12 = .ok (.iconst (-1), 1) := by decide +kernel
theorem dX4_addSound_13 : decode cX4_addSound 13 = .ok (.ireturn, 1) := by decide +kernel
theorem dX4_addSound_14 : decode cX4_addSound 14 = .ok (.iload_n 2, 1) := by decide +kernel
theorem dX4_addSound_15 : decode cX4_addSound 15 = .ok (.iconst 1, 1) := by decide +kernel
theorem dX4_addSound_16 : decode cX4_addSound 16 = .ok (.bipush 60, 2) := by decide +kernel
theorem dX4_addSound_18 : decode cX4_addSound 18 = .ok (.invokestatic 88, 3) := by decide +kernel
theorem dX4_addSound_21 : decode cX4_addSound 21 = .ok (.ifCond .eq 13, 3) := by decide +kernel
theorem dX4_addSound_24 : decode cX4_addSound 24 = .ok (.iload_n 3, 1) := by decide +kernel
theorem dX4_addSound_25 : decode cX4_addSound 25 = .ok (.iconst 1, 1) := by decide +kernel
theorem dX4_addSound_26 : decode cX4_addSound 26 = .ok (.bipush 99, 2) := by decide +kernel
theorem dX4_addSound_28 : decode cX4_addSound 28 = .ok (.invokestatic 88, 3) := by decide +kernel
theorem dX4_addSound_31 : decode cX4_addSound 31 = .ok (.ifCond .ne 6, 3) := by decide +kernel
theorem dX4_addSound_34 : decode cX4_addSound 34 = .ok (.bipush (-2), 2) := by decide +kernel
theorem dX4_addSound_36 : decode cX4_addSound 36 = .ok (.ireturn, 1) := by decide +kernel
theorem dX4_addSound_37 : decode cX4_addSound 37 = .ok (.aload 4, 2) := by decide +kernel
theorem dX4_addSound_39 : decode cX4_addSound 39 = .ok (.iload_n 2, 1) := by decide +kernel
theorem dX4_addSound_40 : decode cX4_addSound 40 = .ok (.iload_n 3, 1) := by decide +kernel
theorem dX4_addSound_41 : decode cX4_addSound 41 = .ok (.invokevirtual 96, 3) := by decide +kernel
theorem dX4_addSound_44 : decode cX4_addSound 44 = .ok (.ireturn, 1) := by decide +kernel
theorem dX4_addCue_0 : decode cX4_addCue 0 = .ok (.iload_n 1, 1) := by decide +kernel
theorem dX4_addCue_1 : decode cX4_addCue 1 = .ok (.iconst 0, 1) := by decide +kernel
theorem dX4_addCue_2 : decode cX4_addCue 2 = .ok (.sipush 999, 3) := by decide +kernel
theorem dX4_addCue_5 : decode cX4_addCue 5 = .ok (.invokestatic 88, 3) := by decide +kernel
theorem dX4_addCue_8 : decode cX4_addCue 8 = .ok (.ifCond .eq 12, 3) := by decide +kernel
theorem dX4_addCue_11 : decode cX4_addCue 11 = .ok (.iload_n 2, 1) := by decide +kernel
theorem dX4_addCue_12 : decode cX4_addCue 12 = .ok (.iconst 0, 1) := by decide +kernel
theorem dX4_addCue_13 : decode cX4_addCue 13 = .ok (.iconst 2, 1) := by decide +kernel
theorem dX4_addCue_14 : decode cX4_addCue 14 = .ok (.invokestatic 88, 3) := by decide +kernel
theorem dX4_addCue_17 : decode cX4_addCue 17 = .ok (.ifCond .ne 6, 3) := by decide +kernel
theorem dX4_addCue_20 : decode cX4_addCue 20 = .ok (.bipush (-2), 2) := by decide +kernel
theorem dX4_addCue_22 : decode cX4_addCue 22 = .ok (.ireturn, 1) := by decide +kernel
theorem dX4_addCue_23 : decode cX4_addCue 23 = .ok (.iload_n 3, 1) := by decide +kernel
theorem dX4_addCue_24 : decode cX4_addCue 24 = .ok (.iconst 0, 1) := by decide +kernel
theorem dX4_addCue_25 : decode cX4_addCue 25 = .ok (.iconst 3, 1) := by decide +kernel
theorem dX4_addCue_26 : decode cX4_addCue 26 = .ok (.invokestatic 88, 3) := by decide +kernel
theorem dX4_addCue_29 : decode cX4_addCue 29 = .ok (.ifCond .eq 17, 3) := by decide +kernel
theorem dX4_addCue_32 : decode cX4_addCue 32 = .ok (.iload_n 2, 1) := by decide +kernel
theorem dX4_addCue_33 : decode cX4_addCue 33 = .ok (.ifCond .ne 15, 3) := by decide +kernel
theorem dX4_addCue_36 : decode cX4_addCue 36 = .ok (.aload_n 0, 1) := by decide +kernel
theorem dX4_addCue_37 : decode cX4_addCue 37 = .ok (.iload_n 3, 1) := by decide +kernel
theorem dX4_addCue_38 : decode cX4_addCue 38 = .ok (.iload 4, 2) := by decide +kernel
theorem dX4_addCue_40 : decode cX4_addCue 40 = .ok (.invokevirtual 100, 3) := by decide +kernel
theorem dX4_addCue_43 : decode cX4_addCue 43 = .ok (.ifnonnull 5, 3) := by decide +kernel
theorem dX4_addCue_46 : decode cX4_addCue 46 = .ok (.iconst (-1), 1) := by decide +kernel
theorem dX4_addCue_47 : decode cX4_addCue 47 = .ok (.ireturn, 1) := by decide +kernel
theorem dX4_addCue_48 : decode cX4_addCue 48 = .ok (.iload_n 2, 1) := by decide +kernel
theorem dX4_addCue_49 : decode cX4_addCue 49 = .ok (.iconst 1, 1) := by decide +kernel
theorem dX4_addCue_50 : decode cX4_addCue 50 = .ok (.if_icmp .ne 14, 3) := by decide +kernel
theorem dX4_addCue_53 : decode cX4_addCue 53 = .ok (.iload 4, 2) := by decide +kernel
theorem dX4_addCue_55 : decode cX4_addCue 55 = .ok (.iconst 1, 1) := by decide +kernel
theorem dX4_addCue_56 : decode cX4_addCue 56 = .ok (.bipush 99, 2) := by decide +kernel
theorem dX4_addCue_58 : decode cX4_addCue 58 = .ok (.invokestatic 88, 3) := by decide +kernel
theorem dX4_addCue_61 : decode cX4_addCue 61 = .ok (.ifCond .eq 19, 3) := by decide +kernel
theorem dX4_addCue_64 : decode cX4_addCue 64 = .ok (.iload_n 2, 1) := by decide +kernel
theorem dX4_addCue_65 : decode cX4_addCue 65 = .ok (.iconst 2, 1) := by decide +kernel
theorem dX4_addCue_66 : decode cX4_addCue 66 = .ok (.if_icmp .ne 17, 3) := by decide +kernel
theorem dX4_addCue_69 : decode cX4_addCue 69 = .ok (.iload 4, 2) := by decide +kernel
theorem dX4_addCue_71 : decode cX4_addCue 71 = .ok (.iconst 0, 1) := by decide +kernel
theorem dX4_addCue_72 : decode cX4_addCue 72 = .ok (.bipush 100, 2) := by decide +kernel
theorem dX4_addCue_74 : decode cX4_addCue 74 = .ok (.invokestatic 88, 3) := by decide +kernel
theorem dX4_addCue_77 : decode cX4_addCue 77 = .ok (.ifCond .ne 6, 3) := by decide +kernel
theorem dX4_addCue_80 : decode cX4_addCue 80 = .ok (.bipush (-2), 2) := by decide +kernel
theorem dX4_addCue_82 : decode cX4_addCue 82 = .ok (.ireturn, 1) := by decide +kernel
theorem dX4_addCue_83 : decode cX4_addCue 83 = .ok (.iload_n 1, 1) := by decide +kernel
theorem dX4_addCue_84 : decode cX4_addCue 84 = .ok (.aload_n 0, 1) := by decide +kernel
theorem dX4_addCue_85 : decode cX4_addCue 85 = .ok (.getfield 79, 3) := by decide +kernel
theorem dX4_addCue_88 : decode cX4_addCue 88 = .ok (.if_icmp .ge 6, 3) := by decide +kernel
theorem dX4_addCue_91 : decode cX4_addCue 91 = .ok (.bipush (-5), 2) := by decide +kernel
theorem dX4_addCue_93 : decode cX4_addCue 93 = .ok (.ireturn, 1) := by decide +kernel
theorem dX4_addCue_94 : decode cX4_addCue 94 = .ok (.aload_n 0, 1) := by decide +kernel
theorem dX4_addCue_95 : decode cX4_addCue 95 = .ok (.getfield 18, 3) := by decide +kernel
theorem dX4_addCue_98 : decode cX4_addCue 98 = .ok (.iload_n 1, 1) := by decide +kernel
theorem dX4_addCue_99 : decode cX4_addCue 99 = .ok (.iload_n 2, 1) := by decide +kernel
theorem dX4_addCue_100 : decode cX4_addCue 100 = .ok (.iload_n 3, 1) := by decide +kernel
theorem dX4_addCue_101 : decode cX4_addCue 101 = .ok (.iload 4, 2) := by decide +kernel
theorem dX4_addCue_103 : decode cX4_addCue 103 = .ok (.invokevirtual 104, 3) := by decide +kernel
theorem dX4_addCue_106 : decode cX4_addCue 106 = .ok (.ireturn, 1) := by decide +kernel
theorem dX4_moveCue_0 : decode cX4_moveCue 0 = .ok (.aload_n 0, 1) := by decide +kernel
theorem dX4_moveCue_1 : decode cX4_moveCue 1 = .ok (.getfield 18, 3) := by decide +kernel
theorem dX4_moveCue_4 : decode cX4_moveCue 4 = .ok (.iload_n 1, 1) := by decide +kernel
theorem dX4_moveCue_5 : decode cX4_moveCue 5 = .ok (.invokevirtual 108, 3) := by decide +kernel
theorem dX4_moveCue_8 : decode cX4_moveCue 8 = .ok (.astore_n 3, 1) := by decide +kernel
theorem dX4_moveCue_9 : decode cX4_moveCue 9 = .ok (.aload_n 3, 1) := by decide +kernel
theorem dX4_moveCue_10 : decode cX4_moveCue 10 = .ok (.ifnonnull 5, 3) := by decide +kernel
theorem dX4_moveCue_13 : decode cX4_moveCue 13 = .ok (.iconst (-1), 1) := by decide +kernel
theorem dX4_moveCue_14 : decode cX4_moveCue 14 = .ok (.ireturn, 1) := by decide +kernel
theorem dX4_moveCue_15 : decode cX4_moveCue 15 = .ok (.iload_n 2, 1) := by decide +kernel
theorem dX4_moveCue_16 : decode cX4_moveCue 16 = .ok (.iconst 0, 1) := by decide +kernel
theorem dX4_moveCue_17 : decode cX4_moveCue 17 = .ok (.sipush 999, 3) := by decide +kernel
theorem dX4_moveCue_20 : decode cX4_moveCue 20 = .ok (.invokestatic 88, 3) := by decide +kernel
theorem dX4_moveCue_23 : decode cX4_moveCue 23 = .ok (.ifCond .ne 6, 3) := by decide +kernel
theorem dX4_moveCue_26 : decode cX4_moveCue 26 = .ok (.bipush (-2), 2) := by decide +kernel
theorem dX4_moveCue_28 : decode cX4_moveCue 28 = .ok (.ireturn, 1) := by decide +kernel
theorem dX4_moveCue_29 : decode cX4_moveCue 29 = .ok (.aload_n 3, 1) := by decide +kernel
theorem dX4_moveCue_30 : decode cX4_moveCue 30 = .ok (.getfield 112, 3) := by decide +kernel
theorem dX4_moveCue_33 : decode cX4_moveCue 33 = .ok (.ifCond .ne 11, 3) := by decide +kernel
theorem dX4_moveCue_36 : decode cX4_moveCue 36 = .ok (.iload_n 2, 1) := by decide +kernel
theorem dX4_moveCue_37 : decode cX4_moveCue 37 = .ok (.aload_n 0, 1) := by decide +kernel
theorem dX4_moveCue_38 : decode cX4_moveCue 38 = .ok (.getfield 79, 3) := by decide +kernel
theorem dX4_moveCue_41 : decode cX4_moveCue 41 = .ok (.if_icmp .ge 6, 3) := by decide +kernel
theorem dX4_moveCue_44 : decode cX4_moveCue 44 = .ok (.bipush (-5), 2) := by decide +kernel
theorem dX4_moveCue_46 : decode cX4_moveCue 46 = .ok (.ireturn, 1) := by decide +kernel
theorem dX4_moveCue_47 : decode cX4_moveCue 47 = .ok (.aload_n 0, 1) := by decide +kernel
theorem dX4_moveCue_48 : decode cX4_moveCue 48 = .ok (.getfield 18, 3) := by decide +kernel
theorem dX4_moveCue_51 : decode cX4_moveCue 51 = .ok (.iload_n 1, 1) := by decide +kernel
theorem dX4_moveCue_52 : decode cX4_moveCue 52 = .ok (.invokevirtual 117, 3) := by decide +kernel
theorem dX4_moveCue_55 : decode cX4_moveCue 55 = .ok (.aload_n 3, 1) := by decide +kernel
theorem dX4_moveCue_56 : decode cX4_moveCue 56 = .ok (.iload_n 2, 1) := by decide +kernel
theorem dX4_moveCue_57 : decode cX4_moveCue 57 = .ok (.putfield 121, 3) := by decide +kernel
theorem dX4_moveCue_60 : decode cX4_moveCue 60 = .ok (.aload_n 0, 1) := by decide +kernel
theorem dX4_moveCue_61 : decode cX4_moveCue 61 = .ok (.getfield 18, 3) := by decide +kernel
theorem dX4_moveCue_64 : decode cX4_moveCue 64 = .ok (.invokevirtual 124, 3) := by decide +kernel
theorem dX4_moveCue_67 : decode cX4_moveCue 67 = .ok (.ireturn, 1) := by decide +kernel
theorem dX4_putGoal_0 : decode cX4_putGoal 0 = .ok (.aload_n 0, 1) := by decide +kernel
theorem dX4_putGoal_1 : decode cX4_putGoal 1 = .ok (.iload_n 1, 1) := by decide +kernel
theorem dX4_putGoal_2 : decode cX4_putGoal 2 = .ok (.invokevirtual 127, 3) := by decide +kernel
theorem dX4_putGoal_5 : decode cX4_putGoal 5 = .ok (.astore_n 3, 1) := by decide +kernel
theorem dX4_putGoal_6 : decode cX4_putGoal 6 = .ok (.aload_n 3, 1) := by decide +kernel
theorem dX4_putGoal_7 : decode cX4_putGoal 7 = .ok (.ifnonnull 5, 3) := by decide +kernel
theorem dX4_putGoal_10 : decode cX4_putGoal 10 = .ok (.iconst (-1), 1) := by decide +kernel
theorem dX4_putGoal_11 : decode cX4_putGoal 11 = .ok (.ireturn, 1) := by decide +kernel
theorem dX4_putGoal_12 : decode cX4_putGoal 12 = .ok (.iload_n 2, 1) := by decide +kernel
theorem dX4_putGoal_13 : decode cX4_putGoal 13 = .ok (.iconst 0, 1) := by decide +kernel
theorem dX4_putGoal_14 : decode cX4_putGoal 14 = .ok (.bipush 100, 2) := by decide +kernel
theorem dX4_putGoal_16 : decode cX4_putGoal 16 = .ok (.invokestatic 88, 3) := by decide +kernel
theorem dX4_putGoal_19 : decode cX4_putGoal 19 = .ok (.ifCond .ne 6, 3) := by decide +kernel
theorem dX4_putGoal_22 : decode cX4_putGoal 22 = .ok (.bipush (-2), 2) := by decide +kernel
theorem dX4_putGoal_24 : decode cX4_putGoal 24 = .ok (.ireturn, 1) := by decide +kernel
theorem dX4_putGoal_25 : decode cX4_putGoal 25 = .ok (.aload_n 3, 1) := by decide +kernel
theorem dX4_putGoal_26 : decode cX4_putGoal 26 = .ok (.getfield 66, 3) := by decide +kernel
theorem dX4_putGoal_29 : decode cX4_putGoal 29 = .ok (.istore 4, 2) := by decide +kernel
theorem dX4_putGoal_31 : decode cX4_putGoal 31 = .ok (.aload_n 3, 1) := by decide +kernel
theorem dX4_putGoal_32 : decode cX4_putGoal 32 = .ok (.iload_n 2, 1) := by decide +kernel
theorem dX4_putGoal_33 : decode cX4_putGoal 33 = .ok (.putfield 66, 3) := by decide +kernel
theorem dX4_putGoal_36 : decode cX4_putGoal 36 = .ok (.iload 4, 2) := by decide +kernel
theorem dX4_putGoal_38 : decode cX4_putGoal 38 = .ok (.ireturn, 1) := by decide +kernel
theorem dX4_beginAnew_0 : decode cX4_beginAnew 0 = .ok (.aload_n 0, 1) := by decide +kernel
theorem dX4_beginAnew_1 : decode cX4_beginAnew 1 = .ok (.getfield 79, 3) := by decide +kernel
theorem dX4_beginAnew_4 : decode cX4_beginAnew 4 = .ok (.istore_n 1, 1) := by decide +kernel
theorem dX4_beginAnew_5 : decode cX4_beginAnew 5 = .ok (.aload_n 0, 1) := by decide +kernel
theorem dX4_beginAnew_6 : decode cX4_beginAnew 6 = .ok (.iconst 0, 1) := by decide +kernel
theorem dX4_beginAnew_7 : decode cX4_beginAnew 7 = .ok (.putfield 79, 3) := by decide +kernel
theorem dX4_beginAnew_10 : decode cX4_beginAnew 10 = .ok (.aload_n 0, 1) := by decide +kernel
theorem dX4_beginAnew_11 : decode cX4_beginAnew 11 = .ok (.getfield 18, 3) := by decide +kernel
theorem dX4_beginAnew_14 : decode cX4_beginAnew 14 = .ok (.invokevirtual 131, 3) := by decide +kernel
theorem dX4_beginAnew_17 : decode cX4_beginAnew 17 = .ok (.iconst 0, 1) := by decide +kernel
theorem dX4_beginAnew_18 : decode cX4_beginAnew 18 = .ok (.istore_n 2, 1) := by decide +kernel
theorem dX4_beginAnew_19 : decode cX4_beginAnew 19 = .ok (.iload_n 2, 1) := by decide +kernel
theorem dX4_beginAnew_20 : decode cX4_beginAnew 20 = .ok (.aload_n 0, 1) := by decide +kernel
theorem dX4_beginAnew_21 : decode cX4_beginAnew 21 = .ok (.getfield 24, 3) := by decide +kernel
theorem dX4_beginAnew_24 : decode cX4_beginAnew 24 = .ok (.arraylength, 1) := by decide +kernel
theorem dX4_beginAnew_25 : decode cX4_beginAnew 25 = .ok (.if_icmp .ge 18, 3) := by decide +kernel
theorem dX4_beginAnew_28 : decode cX4_beginAnew 28 = .ok (.aload_n 0, 1) := by decide +kernel
theorem dX4_beginAnew_29 : decode cX4_beginAnew 29 = .ok (.getfield 24, 3) := by decide +kernel
theorem dX4_beginAnew_32 : decode cX4_beginAnew 32 = .ok (.iload_n 2, 1) := by decide +kernel
theorem dX4_beginAnew_33 : decode cX4_beginAnew 33 = .ok (.aaload, 1) := by decide +kernel
theorem dX4_beginAnew_34 : decode cX4_beginAnew 34 = .ok (.invokevirtual 134, 3) := by decide +kernel
theorem dX4_beginAnew_37 : decode cX4_beginAnew 37 = .ok (.iinc 2 1, 3) := by decide +kernel
theorem dX4_beginAnew_40 : decode cX4_beginAnew 40 = .ok (.goto (-21), 3) := by decide +kernel
theorem dX4_beginAnew_43 : decode cX4_beginAnew 43 = .ok (.iconst 0, 1) := by decide +kernel
theorem dX4_beginAnew_44 : decode cX4_beginAnew 44 = .ok (.istore_n 2, 1) := by decide +kernel
theorem dX4_beginAnew_45 : decode cX4_beginAnew 45 = .ok (.iload_n 2, 1) := by decide +kernel
theorem dX4_beginAnew_46 : decode cX4_beginAnew 46 = .ok (.aload_n 0, 1) := by decide +kernel
theorem dX4_beginAnew_47 : decode cX4_beginAnew 47 = .ok (.getfield 30, 3) := by decide +kernel
theorem dX4_beginAnew_50 : decode cX4_beginAnew 50 = .ok (.arraylength, 1) := by decide +kernel
theorem dX4_beginAnew_51 : decode cX4_beginAnew 51 = .ok (.if_icmp .ge 31, 3) := by decide +kernel
theorem dX4_beginAnew_54 : decode cX4_beginAnew 54 = .ok (.aload_n 0, 1) := by decide +kernel
theorem dX4_beginAnew_55 : decode cX4_beginAnew 55 = .ok (.getfield 30, 3) := by decide +kernel
theorem dX4_beginAnew_58 : decode cX4_beginAnew 58 = .ok (.iload_n 2, 1) := by decide +kernel
theorem dX4_beginAnew_59 : decode cX4_beginAnew 59 = .ok (.aaload, 1) := by decide +kernel
theorem dX4_beginAnew_60 : decode cX4_beginAnew 60 = .ok (.bipush 50, 2) := by decide +kernel
theorem dX4_beginAnew_62 : decode cX4_beginAnew 62 = .ok (.putfield 62, 3) := by decide +kernel
theorem dX4_beginAnew_65 : decode cX4_beginAnew 65 = .ok (.aload_n 0, 1) := by decide +kernel
theorem dX4_beginAnew_66 : decode cX4_beginAnew 66 = .ok (.getfield 30, 3) := by decide +kernel
theorem dX4_beginAnew_69 : decode cX4_beginAnew 69 = .ok (.iload_n 2, 1) := by decide +kernel
theorem dX4_beginAnew_70 : decode cX4_beginAnew 70 = .ok (.aaload, 1) := by decide +kernel
theorem dX4_beginAnew_71 : decode cX4_beginAnew 71 = .ok (.bipush 50, 2) := by decide +kernel
theorem dX4_beginAnew_73 : decode cX4_beginAnew 73 = .ok (.putfield 66, 3) := by decide +kernel
theorem dX4_beginAnew_76 : decode cX4_beginAnew 76 = .ok (.iinc 2 1, 3) := by decide +kernel
theorem dX4_beginAnew_79 : decode cX4_beginAnew 79 = .ok (.goto (-34), 3) := by decide +kernel
theorem dX4_beginAnew_82 : decode cX4_beginAnew 82 = .ok (.aload_n 0, 1) := by decide +kernel
theorem dX4_beginAnew_83 : decode cX4_beginAnew 83 = .ok (.getfield 37, 3) := by decide +kernel
theorem dX4_beginAnew_86 : decode cX4_beginAnew 86 = .ok (.iconst 0, 1) := by decide +kernel
theorem dX4_beginAnew_87 : decode cX4_beginAnew 87 = .ok (.putfield 137, 3) := by decide +kernel
theorem dX4_beginAnew_90 : decode cX4_beginAnew 90 = .ok (.aload_n 0, 1) := by decide +kernel
theorem dX4_beginAnew_91 : decode cX4_beginAnew 91 = .ok (.iconst 0, 1) := by decide +kernel
theorem dX4_beginAnew_92 : decode cX4_beginAnew 92 = .ok (.putfield 72, 3) := by decide +kernel
theorem dX4_beginAnew_95 : decode cX4_beginAnew 95 = .ok (.iload_n 1, 1) := by decide +kernel
theorem dX4_beginAnew_96 : decode cX4_beginAnew 96 = .ok (.ireturn, 1) := by decide +kernel
theorem dX4_runSeconds_0 : decode cX4_runSeconds 0 = .ok (.iload_n 1, 1) := by decide +kernel
theorem dX4_runSeconds_1 : decode cX4_runSeconds 1 = .ok (.iconst 1, 1) := by decide +kernel
theorem dX4_runSeconds_2 : decode cX4_runSeconds 2 = .ok (.sipush 200, 3) := by decide +kernel
theorem dX4_runSeconds_5 : decode cX4_runSeconds 5 = .ok (.invokestatic 88, 3) := by decide +kernel
theorem dX4_runSeconds_8 : decode cX4_runSeconds 8 = .ok (.ifCond .ne 6, 3) := by decide +kernel
theorem dX4_runSeconds_11 : decode cX4_runSeconds 11 = .ok (.bipush (-2), 2) := by decide +kernel
theorem dX4_runSeconds_13 : decode cX4_runSeconds 13 = .ok (.ireturn, 1) := by decide +kernel
theorem dX4_runSeconds_14 : decode cX4_runSeconds 14 = .ok (.aload_n 0, 1) := by decide +kernel
theorem dX4_runSeconds_15 : decode cX4_runSeconds 15 = .ok (.getfield 79, 3) := by decide +kernel
theorem dX4_runSeconds_18 : decode cX4_runSeconds 18 = .ok (.iload_n 1, 1) := by decide +kernel
theorem dX4_runSeconds_19 : decode cX4_runSeconds 19 = .ok (.iadd, 1) := by decide +kernel
theorem dX4_runSeconds_20 : decode cX4_runSeconds 20 = .ok (.sipush 1200, 3) := by decide +kernel
theorem dX4_runSeconds_23 : decode cX4_runSeconds 23 = .ok (.if_icmp .le 6, 3) := by decide +kernel
theorem dX4_runSeconds_26 : decode cX4_runSeconds 26 = .ok (.bipush (-5), 2) := by decide +kernel
theorem dX4_runSeconds_28 : decode cX4_runSeconds 28 = .ok (.ireturn, 1) := by decide +kernel
theorem dX4_runSeconds_29 : decode cX4_runSeconds 29 = .ok (.aload_n 0, 1) := by decide +kernel
theorem dX4_runSeconds_30 : decode cX4_runSeconds 30 = .ok (.getfield 18, 3) := by decide +kernel
theorem dX4_runSeconds_33 : decode cX4_runSeconds 33 = .ok (.invokevirtual 140, 3) := by decide +kernel
theorem dX4_runSeconds_36 : decode cX4_runSeconds 36 = .ok (.istore_n 2, 1) := by decide +kernel
theorem dX4_runSeconds_37 : decode cX4_runSeconds 37 = .ok (.iconst 0, 1) := by decide +kernel
theorem dX4_runSeconds_38 : decode cX4_runSeconds 38 = .ok (.istore_n 3, 1) := by decide +kernel
theorem dX4_runSeconds_39 : decode cX4_runSeconds 39 = .ok (.iload_n 3, 1) := by decide +kernel
theorem dX4_runSeconds_40 : decode cX4_runSeconds 40 = .ok (.iload_n 1, 1) := by decide +kernel
theorem dX4_runSeconds_41 : decode cX4_runSeconds 41 = .ok (.if_icmp .ge 14, 3) := by decide +kernel
theorem dX4_runSeconds_44 : decode cX4_runSeconds 44 = .ok (.aload_n 0, 1) := by decide +kernel
theorem dX4_runSeconds_45 : decode cX4_runSeconds 45 = .ok (.invokevirtual 143, 3) := by decide +kernel
theorem dX4_runSeconds_48 : decode cX4_runSeconds 48 = .ok (.pop, 1) := by decide +kernel
theorem dX4_runSeconds_49 : decode cX4_runSeconds 49 = .ok (.iinc 3 1, 3) := by decide +kernel
theorem dX4_runSeconds_52 : decode cX4_runSeconds 52 = .ok (.goto (-13), 3) := by decide +kernel
theorem dX4_runSeconds_55 : decode cX4_runSeconds 55 = .ok (.aload_n 0, 1) := by decide +kernel
theorem dX4_runSeconds_56 : decode cX4_runSeconds 56 = .ok (.getfield 18, 3) := by decide +kernel
theorem dX4_runSeconds_59 : decode cX4_runSeconds 59 = .ok (.invokevirtual 140, 3) := by decide +kernel
theorem dX4_runSeconds_62 : decode cX4_runSeconds 62 = .ok (.iload_n 2, 1) := by decide +kernel
theorem dX4_runSeconds_63 : decode cX4_runSeconds 63 = .ok (.isub, 1) := by decide +kernel
theorem dX4_runSeconds_64 : decode cX4_runSeconds 64 = .ok (.ireturn, 1) := by decide +kernel
theorem dX4_reelAt_0 : decode cX4_reelAt 0 = .ok (.iload_n 1, 1) := by decide +kernel
theorem dX4_reelAt_1 : decode cX4_reelAt 1 = .ok (.ifCond .lt 12, 3) := by decide +kernel
theorem dX4_reelAt_4 : decode cX4_reelAt 4 = .ok (.iload_n 1, 1) := by decide +kernel
theorem dX4_reelAt_5 : decode cX4_reelAt 5 = .ok (.aload_n 0, 1) := by decide +kernel
theorem dX4_reelAt_6 : decode cX4_reelAt 6 = .ok (.getfield 24, 3) := by decide +kernel
theorem dX4_reelAt_9 : decode cX4_reelAt 9 = .ok (.arraylength, 1) := by decide +kernel
theorem dX4_reelAt_10 : decode cX4_reelAt 10 = .ok (.if_icmp .lt 7, 3) := by decide +kernel
theorem dX4_reelAt_13 : decode cX4_reelAt 13 = .ok (.aconst_null, 1) := by decide +kernel
theorem dX4_reelAt_14 : decode cX4_reelAt 14 = .ok (.goto 9, 3) := by decide +kernel
theorem dX4_reelAt_17 : decode cX4_reelAt 17 = .ok (.aload_n 0, 1) := by decide +kernel
theorem dX4_reelAt_18 : decode cX4_reelAt 18 = .ok (.getfield 24, 3) := by decide +kernel
theorem dX4_reelAt_21 : decode cX4_reelAt 21 = .ok (.iload_n 1, 1) := by decide +kernel
theorem dX4_reelAt_22 : decode cX4_reelAt 22 = .ok (.aaload, 1) := by decide +kernel
theorem dX4_reelAt_23 : decode cX4_reelAt 23 = .ok (.areturn, 1) := by decide +kernel
theorem dX4_soundAt_0 : decode cX4_soundAt 0 = .ok (.aload_n 0, 1) := by decide +kernel
theorem dX4_soundAt_1 : decode cX4_soundAt 1 = .ok (.iload_n 1, 1) := by decide +kernel
theorem dX4_soundAt_2 : decode cX4_soundAt 2 = .ok (.invokevirtual 92, 3) := by decide +kernel
theorem dX4_soundAt_5 : decode cX4_soundAt 5 = .ok (.astore_n 3, 1) := by decide +kernel
theorem dX4_soundAt_6 : decode cX4_soundAt 6 = .ok (.aload_n 3, 1) := by decide +kernel
theorem dX4_soundAt_7 : decode cX4_soundAt 7 = .ok (.ifnonnull 7, 3) := by decide +kernel
theorem dX4_soundAt_10 : decode cX4_soundAt 10 = .ok (.aconst_null, 1) := by decide +kernel
theorem dX4_soundAt_11 : decode cX4_soundAt 11 = .ok (.goto 8, 3) := by decide +kernel
theorem dX4_soundAt_14 : decode cX4_soundAt 14 = .ok (.aload_n 3, 1) := by decide +kernel
theorem dX4_soundAt_15 : decode cX4_soundAt 15 = .ok (.iload_n 2, 1) := by decide +kernel
theorem dX4_soundAt_16 : decode cX4_soundAt 16 = .ok (.invokevirtual 146, 3) := by decide +kernel
theorem dX4_soundAt_19 : decode cX4_soundAt 19 = .ok (.areturn, 1) := by decide +kernel
theorem dX4_channelAt_0 : decode cX4_channelAt 0 = .ok (.iload_n 1, 1) := by decide +kernel
theorem dX4_channelAt_1 : decode cX4_channelAt 1 = .ok (.ifCond .lt 12, 3) := by decide +kernel
theorem dX4_channelAt_4 : decode cX4_channelAt 4 = .ok (.iload_n 1, 1) := by decide +kernel
theorem dX4_channelAt_5 : decode cX4_channelAt 5 = .ok (.aload_n 0, 1) := by decide +kernel
theorem dX4_channelAt_6 : decode cX4_channelAt 6 = .ok (.getfield 30, 3) := by decide +kernel
theorem dX4_channelAt_9 : decode cX4_channelAt 9 = .ok (.arraylength, 1) := by decide +kernel
theorem dX4_channelAt_10 : decode cX4_channelAt 10 = .ok (.if_icmp .lt 7, 3) := by decide +kernel
theorem dX4_channelAt_13 : decode cX4_channelAt 13 = .ok (.aconst_null, 1) := by decide +kernel
theorem dX4_channelAt_14 : decode cX4_channelAt 14 = .ok (.goto 9, 3) := by decide +kernel
theorem dX4_channelAt_17 : decode cX4_channelAt 17 = .ok (.aload_n 0, 1) := by decide +kernel
theorem dX4_channelAt_18 : decode cX4_channelAt 18 = .ok (.getfield 30, 3) := by decide +kernel
theorem dX4_channelAt_21 : decode cX4_channelAt 21 = .ok (.iload_n 1, 1) := by decide +kernel
theorem dX4_channelAt_22 : decode cX4_channelAt 22 = .ok (.aaload, 1) := by decide +kernel
theorem dX4_channelAt_23 : decode cX4_channelAt 23 = .ok (.areturn, 1) := by decide +kernel
theorem dX4_runSecond_0 : decode cX4_runSecond 0 = .ok (.aload_n 0, 1) := by decide +kernel
theorem dX4_runSecond_1 : decode cX4_runSecond 1 = .ok (.invokevirtual 150, 3) := by decide +kernel
theorem dX4_runSecond_4 : decode cX4_runSecond 4 = .ok (.iconst 0, 1) := by decide +kernel
theorem dX4_runSecond_5 : decode cX4_runSecond 5 = .ok (.istore_n 1, 1) := by decide +kernel
theorem dX4_runSecond_6 : decode cX4_runSecond 6 = .ok (.iload_n 1, 1) := by decide +kernel
theorem dX4_runSecond_7 : decode cX4_runSecond 7 = .ok (.aload_n 0, 1) := by decide +kernel
theorem dX4_runSecond_8 : decode cX4_runSecond 8 = .ok (.getfield 30, 3) := by decide +kernel
theorem dX4_runSecond_11 : decode cX4_runSecond 11 = .ok (.arraylength, 1) := by decide +kernel
theorem dX4_runSecond_12 : decode cX4_runSecond 12 = .ok (.if_icmp .ge 24, 3) := by decide +kernel
theorem dX4_runSecond_15 : decode cX4_runSecond 15 = .ok (.aload_n 0, 1) := by decide +kernel
theorem dX4_runSecond_16 : decode cX4_runSecond 16 = .ok (.getfield 30, 3) := by decide +kernel
theorem dX4_runSecond_19 : decode cX4_runSecond 19 = .ok (.iload_n 1, 1) := by decide +kernel
theorem dX4_runSecond_20 : decode cX4_runSecond 20 = .ok (.aaload, 1) := by decide +kernel
theorem dX4_runSecond_21 : decode cX4_runSecond 21 = .ok (.aload_n 0, 1) := by decide +kernel
theorem dX4_runSecond_22 : decode cX4_runSecond 22 = .ok (.getfield 9, 3) := by decide +kernel
theorem dX4_runSecond_25 : decode cX4_runSecond 25 = .ok (.iconst 2, 1) := by decide +kernel
theorem dX4_runSecond_26 : decode cX4_runSecond 26 = .ok (.iaload, 1) := by decide +kernel
theorem dX4_runSecond_27 : decode cX4_runSecond 27 = .ok (.invokevirtual 153, 3) := by decide +kernel
theorem dX4_runSecond_30 : decode cX4_runSecond 30 = .ok (.iinc 1 1, 3) := by decide +kernel
theorem dX4_runSecond_33 : decode cX4_runSecond 33 = .ok (.goto (-27), 3) := by decide +kernel
theorem dX4_runSecond_36 : decode cX4_runSecond 36 = .ok (.aload_n 0, 1) := by decide +kernel
theorem dX4_runSecond_37 : decode cX4_runSecond 37 = .ok (.invokevirtual 156, 3) := by decide +kernel
theorem dX4_runSecond_40 : decode cX4_runSecond 40 = .ok (.aload_n 0, 1) := by decide +kernel
theorem dX4_runSecond_41 : decode cX4_runSecond 41 = .ok (.invokevirtual 159, 3) := by decide +kernel
theorem dX4_runSecond_44 : decode cX4_runSecond 44 = .ok (.iadd, 1) := by decide +kernel
theorem dX4_runSecond_45 : decode cX4_runSecond 45 = .ok (.istore_n 1, 1) := by decide +kernel
theorem dX4_runSecond_46 : decode cX4_runSecond 46 = .ok (.iconst 0, 1) := by decide +kernel
theorem dX4_runSecond_47 : decode cX4_runSecond 47 = .ok (.istore_n 2, 1) := by decide +kernel
theorem dX4_runSecond_48 : decode cX4_runSecond 48 = .ok (.iload_n 2, 1) := by decide +kernel
theorem dX4_runSecond_49 : decode cX4_runSecond 49 = .ok (.aload_n 0, 1) := by decide +kernel
theorem dX4_runSecond_50 : decode cX4_runSecond 50 = .ok (.getfield 24, 3) := by decide +kernel
theorem dX4_runSecond_53 : decode cX4_runSecond 53 = .ok (.arraylength, 1) := by decide +kernel
theorem dX4_runSecond_54 : decode cX4_runSecond 54 = .ok (.if_icmp .ge 18, 3) := by decide +kernel
theorem dX4_runSecond_57 : decode cX4_runSecond 57 = .ok (.aload_n 0, 1) := by decide +kernel
theorem dX4_runSecond_58 : decode cX4_runSecond 58 = .ok (.getfield 24, 3) := by decide +kernel
theorem dX4_runSecond_61 : decode cX4_runSecond 61 = .ok (.iload_n 2, 1) := by decide +kernel
theorem dX4_runSecond_62 : decode cX4_runSecond 62 = .ok (.aaload, 1) := by decide +kernel
theorem dX4_runSecond_63 : decode cX4_runSecond 63 = .ok (.invokevirtual 162, 3) := by decide +kernel
theorem dX4_runSecond_66 : decode cX4_runSecond 66 = .ok (.iinc 2 1, 3) := by decide +kernel
theorem dX4_runSecond_69 : decode cX4_runSecond 69 = .ok (.goto (-21), 3) := by decide +kernel
theorem dX4_runSecond_72 : decode cX4_runSecond 72 = .ok (.aload_n 0, 1) := by decide +kernel
theorem dX4_runSecond_73 : decode cX4_runSecond 73 = .ok (.getfield 37, 3) := by decide +kernel
theorem dX4_runSecond_76 : decode cX4_runSecond 76 = .ok (.invokevirtual 165, 3) := by decide +kernel
theorem dX4_runSecond_79 : decode cX4_runSecond 79 = .ok (.aload_n 0, 1) := by decide +kernel
theorem dX4_runSecond_80 : decode cX4_runSecond 80 = .ok (.invokevirtual 168, 3) := by decide +kernel
theorem dX4_runSecond_83 : decode cX4_runSecond 83 = .ok (.aload_n 0, 1) := by decide +kernel
theorem dX4_runSecond_84 : decode cX4_runSecond 84 = .ok (.getfield 79, 3) := by decide +kernel
theorem dX4_runSecond_87 : decode cX4_runSecond 87 = .ok (.ifCond .lt 25, 3) := by decide +kernel
theorem dX4_runSecond_90 : decode cX4_runSecond 90 = .ok (.aload_n 0, 1) := by decide +kernel
theorem dX4_runSecond_91 : decode cX4_runSecond 91 = .ok (.getfield 79, 3) := by decide +kernel
theorem dX4_runSecond_94 : decode cX4_runSecond 94 = .ok (.aload_n 0, 1) := by decide +kernel
theorem dX4_runSecond_95 : decode cX4_runSecond 95 = .ok (.getfield 44, 3) := by decide +kernel
theorem dX4_runSecond_98 : decode cX4_runSecond 98 = .ok (.arraylength, 1) := by decide +kernel
theorem dX4_runSecond_99 : decode cX4_runSecond 99 = .ok (.if_icmp .ge 13, 3) := by decide +kernel
theorem dX4_runSecond_102 : decode cX4_runSecond 102 = .ok (.aload_n 0, 1) := by decide +kernel
theorem dX4_runSecond_103 : decode cX4_runSecond 103 = .ok (.getfield 44, 3) := by decide +kernel
theorem dX4_runSecond_106 : decode cX4_runSecond 106 = .ok (.aload_n 0, 1) := by decide +kernel
theorem dX4_runSecond_107 : decode cX4_runSecond 107 = .ok (.getfield 79, 3) := by decide +kernel
theorem dX4_runSecond_110 : decode cX4_runSecond 110 = .ok (.iload_n 1, 1) := by decide +kernel
theorem dX4_runSecond_111 : decode cX4_runSecond 111 = .ok (.iastore, 1) := by decide +kernel
theorem dX4_runSecond_112 : decode cX4_runSecond 112 = .ok (.aload_n 0, 1) := by decide +kernel
theorem dX4_runSecond_113 : decode cX4_runSecond 113 = .ok (.dup, 1) := by decide +kernel
theorem dX4_runSecond_114 : decode cX4_runSecond 114 = .ok (.getfield 79, 3) := by decide +kernel
theorem dX4_runSecond_117 : decode cX4_runSecond 117 = .ok (.iconst 1, 1) := by decide +kernel
theorem dX4_runSecond_118 : decode cX4_runSecond 118 = .ok (.iadd, 1) := by decide +kernel
theorem dX4_runSecond_119 : decode cX4_runSecond 119 = .ok (.putfield 79, 3) := by decide +kernel
theorem dX4_runSecond_122 : decode cX4_runSecond 122 = .ok (.iload_n 1, 1) := by decide +kernel
theorem dX4_runSecond_123 : decode cX4_runSecond 123 = .ok (.ireturn, 1) := by decide +kernel
theorem dX4_letCuesCome_0 : decode cX4_letCuesCome 0 = .ok (.aload_n 0, 1) := by decide +kernel
theorem dX4_letCuesCome_1 : decode cX4_letCuesCome 1 = .ok (.getfield 18, 3) := by decide +kernel
theorem dX4_letCuesCome_4 : decode cX4_letCuesCome 4 = .ok (.getfield 171, 3) := by decide +kernel
theorem dX4_letCuesCome_7 : decode cX4_letCuesCome 7 = .ok (.istore_n 1, 1) := by decide +kernel
theorem dX4_letCuesCome_8 : decode cX4_letCuesCome 8 = .ok (.iload_n 1, 1) := by decide +kernel
theorem dX4_letCuesCome_9 : decode cX4_letCuesCome 9 = .ok (.aload_n 0, 1) := by decide +kernel
theorem dX4_letCuesCome_10 : decode cX4_letCuesCome 10 = .ok (.getfield 18, 3) := by decide +kernel
theorem dX4_letCuesCome_13 : decode cX4_letCuesCome 13 = .ok (.getfield 174, 3) := by decide +kernel
theorem dX4_letCuesCome_16 : decode cX4_letCuesCome 16 = .ok (.if_icmp .ge 120, 3) := by decide +kernel
theorem dX4_letCuesCome_19 : decode cX4_letCuesCome 19 = .ok (.aload_n 0, 1) := by decide +kernel
theorem dX4_letCuesCome_20 : decode cX4_letCuesCome 20 = .ok (.getfield 18, 3) := by decide +kernel
theorem dX4_letCuesCome_23 : decode cX4_letCuesCome 23 = .ok (.iload_n 1, 1) := by decide +kernel
theorem dX4_letCuesCome_24 : decode cX4_letCuesCome 24 = .ok (.invokevirtual 108, 3) := by decide +kernel
theorem dX4_letCuesCome_27 : decode cX4_letCuesCome 27 = .ok (.astore_n 2, 1) := by decide +kernel
theorem dX4_letCuesCome_28 : decode cX4_letCuesCome 28 = .ok (.aload_n 2, 1) := by decide +kernel
theorem dX4_letCuesCome_29 : decode cX4_letCuesCome 29 = .ok (.ifnull 14, 3) := by decide +kernel
theorem dX4_letCuesCome_32 : decode cX4_letCuesCome 32 = .ok (.aload_n 2, 1) := by decide +kernel
theorem dX4_letCuesCome_33 : decode cX4_letCuesCome 33 = .ok (.getfield 121, 3) := by decide +kernel
theorem dX4_letCuesCome_36 : decode cX4_letCuesCome 36 = .ok (.aload_n 0, 1) := by decide +kernel
theorem dX4_letCuesCome_37 : decode cX4_letCuesCome 37 = .ok (.getfield 79, 3) := by decide +kernel
theorem dX4_letCuesCome_40 : decode cX4_letCuesCome 40 = .ok (.if_icmp .le 4, 3) := by decide +kernel
theorem dX4_letCuesCome_43 : decode cX4_letCuesCome 43 = .ok (.return_, 1) := by decide +kernel
theorem dX4_letCuesCome_44 : decode cX4_letCuesCome 44 = .ok (.aload_n 0, 1) := by decide +kernel
theorem dX4_letCuesCome_45 : decode cX4_letCuesCome 45 = .ok (.getfield 18, 3) := by decide +kernel
theorem dX4_letCuesCome_48 : decode cX4_letCuesCome 48 = .ok (.iload_n 1, 1) := by decide +kernel
theorem dX4_letCuesCome_49 : decode cX4_letCuesCome 49 = .ok (.iconst 1, 1) := by decide +kernel
theorem dX4_letCuesCome_50 : decode cX4_letCuesCome 50 = .ok (.iadd, 1) := by decide +kernel
theorem dX4_letCuesCome_51 : decode cX4_letCuesCome 51 = .ok (.putfield 171, 3) := by decide +kernel
theorem dX4_letCuesCome_54 : decode cX4_letCuesCome 54 = .ok (.aload_n 2, 1) := by decide +kernel
theorem dX4_letCuesCome_55 : decode cX4_letCuesCome 55 = .ok (.iconst 1, 1) := by decide +kernel
theorem dX4_letCuesCome_56 : decode cX4_letCuesCome 56 = .ok (.putfield 112, 3) := by decide +kernel
theorem dX4_letCuesCome_59 : decode cX4_letCuesCome 59 = .ok (.aload_n 2, 1) := by decide +kernel
theorem dX4_letCuesCome_60 : decode cX4_letCuesCome 60 = .ok (.getfield 175, 3) := by decide +kernel
theorem dX4_letCuesCome_63 : decode cX4_letCuesCome 63 = .ok (.ifCond .ne 22, 3) := by decide +kernel
theorem dX4_letCuesCome_66 : decode cX4_letCuesCome 66 = .ok (.aload_n 2, 1) := by decide +kernel
theorem dX4_letCuesCome_67 : decode cX4_letCuesCome 67 = .ok (.aload_n 0, 1) := by decide +kernel
theorem dX4_letCuesCome_68 : decode cX4_letCuesCome 68 = .ok (.aload_n 2, 1) := by decide +kernel
theorem dX4_letCuesCome_69 : decode cX4_letCuesCome 69 = .ok (.getfield 178, 3) := by decide +kernel
theorem dX4_letCuesCome_72 : decode cX4_letCuesCome 72 = .ok (.aload_n 2, 1) := by decide +kernel
theorem dX4_letCuesCome_73 : decode cX4_letCuesCome 73 = .ok (.getfield 181, 3) := by decide +kernel
theorem dX4_letCuesCome_76 : decode cX4_letCuesCome 76 = .ok (.invokevirtual 184, 3) := by decide +kernel
theorem dX4_letCuesCome_79 : decode cX4_letCuesCome 79 = .ok (.putfield 112, 3) := by decide +kernel
theorem dX4_letCuesCome_82 : decode cX4_letCuesCome 82 = .ok (.goto 48, 3) := by decide +kernel
theorem dX4_letCuesCome_85 : decode cX4_letCuesCome 85 = .ok (.aload_n 2, 1) := by decide +kernel
theorem dX4_letCuesCome_86 : decode cX4_letCuesCome 86 = .ok (.getfield 175, 3) := by decide +kernel
theorem dX4_letCuesCome_89 : decode cX4_letCuesCome 89 = .ok (.iconst 1, 1) := by decide +kernel
theorem dX4_letCuesCome_90 : decode cX4_letCuesCome 90 = .ok (.if_icmp .ne 27, 3) := by decide +kernel
theorem dX4_letCuesCome_93 : decode cX4_letCuesCome 93 = .ok (.aload_n 0, 1) := by decide +kernel
theorem dX4_letCuesCome_94 : decode cX4_letCuesCome 94 = .ok (.getfield 37, 3) := by decide +kernel
theorem dX4_letCuesCome_97 : decode cX4_letCuesCome 97 = .ok (.aload_n 2, 1) := by decide +kernel
theorem dX4_letCuesCome_98 : decode cX4_letCuesCome 98 = .ok (.getfield 178, 3) := by decide +kernel
theorem dX4_letCuesCome_101 : decode cX4_letCuesCome 101 = .ok (.aload_n 2, 1) := by decide +kernel
theorem dX4_letCuesCome_102 : decode cX4_letCuesCome 102 = .ok (.getfield 181, 3) := by decide +kernel
theorem dX4_letCuesCome_105 : decode cX4_letCuesCome 105 = .ok (.aload_n 0, 1) := by decide +kernel
theorem dX4_letCuesCome_106 : decode cX4_letCuesCome 106 = .ok (.getfield 9, 3) := by decide +kernel
theorem dX4_letCuesCome_109 : decode cX4_letCuesCome 109 = .ok (.iconst 1, 1) := by decide +kernel
theorem dX4_letCuesCome_110 : decode cX4_letCuesCome 110 = .ok (.iaload, 1) := by decide +kernel
theorem dX4_letCuesCome_111 : decode cX4_letCuesCome 111 = .ok (.invokevirtual 187, 3) := by decide +kernel
theorem dX4_letCuesCome_114 : decode cX4_letCuesCome 114 = .ok (.goto 16, 3) := by decide +kernel
theorem dX4_letCuesCome_117 : decode cX4_letCuesCome 117 = .ok (.aload_n 0, 1) := by decide +kernel
theorem dX4_letCuesCome_118 : decode cX4_letCuesCome 118 = .ok (.aload_n 2, 1) := by decide +kernel
theorem dX4_letCuesCome_119 : decode cX4_letCuesCome 119 = .ok (.getfield 178, 3) := by decide +kernel
theorem dX4_letCuesCome_122 : decode cX4_letCuesCome 122 = .ok (.aload_n 2, 1) := by decide +kernel
theorem dX4_letCuesCome_123 : decode cX4_letCuesCome 123 = .ok (.getfield 181, 3) := by decide +kernel
theorem dX4_letCuesCome_126 : decode cX4_letCuesCome 126 = .ok (.invokevirtual 191, 3) := by decide +kernel
theorem dX4_letCuesCome_129 : decode cX4_letCuesCome 129 = .ok (.pop, 1) := by decide +kernel
theorem dX4_letCuesCome_130 : decode cX4_letCuesCome 130 = .ok (.iinc 1 1, 3) := by decide +kernel
theorem dX4_letCuesCome_133 : decode cX4_letCuesCome 133 = .ok (.goto (-125), 3) := by decide +kernel
theorem dX4_letCuesCome_136 : decode cX4_letCuesCome 136 = .ok (.return_, 1) := by decide +kernel
theorem dX4_callSound_0 : decode cX4_callSound 0 = .ok (.aload_n 0, 1) := by decide +kernel
theorem dX4_callSound_1 : decode cX4_callSound 1 = .ok (.iload_n 1, 1) := by decide +kernel
theorem dX4_callSound_2 : decode cX4_callSound 2 = .ok (.invokevirtual 92, 3) := by decide +kernel
theorem dX4_callSound_5 : decode cX4_callSound 5 = .ok (.astore_n 3, 1) := by decide +kernel
theorem dX4_callSound_6 : decode cX4_callSound 6 = .ok (.aload_n 3, 1) := by decide +kernel
theorem dX4_callSound_7 : decode cX4_callSound 7 = .ok (.ifnonnull 5, 3) := by decide +kernel
theorem dX4_callSound_10 : decode cX4_callSound 10 = .ok (.iconst 3, 1) := by decide +kernel
theorem dX4_callSound_11 : decode cX4_callSound 11 = .ok (.ireturn, 1) := by decide +kernel
theorem dX4_callSound_12 : decode cX4_callSound 12 = .ok (.aload_n 3, 1) := by decide +kernel
theorem dX4_callSound_13 : decode cX4_callSound 13 = .ok (.getfield 194, 3) := by decide +kernel
theorem dX4_callSound_16 : decode cX4_callSound 16 = .ok (.bipush (-6), 2) := by decide +kernel
theorem dX4_callSound_18 : decode cX4_callSound 18 = .ok (.if_icmp .eq 5, 3) := by decide +kernel
theorem dX4_callSound_21 : decode cX4_callSound 21 = .ok (.iconst 2, 1) := by decide +kernel
theorem dX4_callSound_22 : decode cX4_callSound 22 = .ok (.ireturn, 1) := by decide +kernel
theorem dX4_callSound_23 : decode cX4_callSound 23 = .ok (.aload_n 3, 1) := by decide +kernel
theorem dX4_callSound_24 : decode cX4_callSound 24 = .ok (.iload_n 2, 1) := by decide +kernel
theorem dX4_callSound_25 : decode cX4_callSound 25 = .ok (.invokevirtual 146, 3) := by decide +kernel
theorem dX4_callSound_28 : decode cX4_callSound 28 = .ok (.astore 4, 2) := by decide +kernel
theorem dX4_callSound_30 : decode cX4_callSound 30 = .ok (.aload 4, 2) := by decide +kernel
theorem dX4_callSound_32 : decode cX4_callSound 32 = .ok (.ifnull 15, 3) := by decide +kernel
theorem dX4_callSound_35 : decode cX4_callSound 35 = .ok (.aload_n 3, 1) := by decide +kernel
theorem dX4_callSound_36 : decode cX4_callSound 36 = .ok (.getfield 197, 3) := by decide +kernel
theorem dX4_callSound_39 : decode cX4_callSound 39 = .ok (.aload 4, 2) := by decide +kernel
theorem dX4_callSound_41 : decode cX4_callSound 41 = .ok (.getfield 200, 3) := by decide +kernel
theorem dX4_callSound_44 : decode cX4_callSound 44 = .ok (.if_icmp .eq 5, 3) := by decide +kernel
theorem dX4_callSound_47 : decode cX4_callSound 47 = .ok (.iconst 3, 1) := by decide +kernel
theorem dX4_callSound_48 : decode cX4_callSound 48 = .ok (.ireturn, 1) := by decide +kernel
theorem dX4_callSound_49 : decode cX4_callSound 49 = .ok (.aload_n 3, 1) := by decide +kernel
theorem dX4_callSound_50 : decode cX4_callSound 50 = .ok (.iload_n 2, 1) := by decide +kernel
theorem dX4_callSound_51 : decode cX4_callSound 51 = .ok (.putfield 194, 3) := by decide +kernel
theorem dX4_callSound_54 : decode cX4_callSound 54 = .ok (.aload_n 3, 1) := by decide +kernel
theorem dX4_callSound_55 : decode cX4_callSound 55 = .ok (.aload 4, 2) := by decide +kernel
theorem dX4_callSound_57 : decode cX4_callSound 57 = .ok (.getfield 205, 3) := by decide +kernel
theorem dX4_callSound_60 : decode cX4_callSound 60 = .ok (.putfield 208, 3) := by decide +kernel
theorem dX4_callSound_63 : decode cX4_callSound 63 = .ok (.aload 4, 2) := by decide +kernel
theorem dX4_callSound_65 : decode cX4_callSound 65 = .ok (.getfield 211, 3) := by decide +kernel
theorem dX4_callSound_68 : decode cX4_callSound 68 = .ok (.ifCond .ne 47, 3) := by decide +kernel
theorem dX4_callSound_71 : decode cX4_callSound 71 = .ok (.aload_n 0, 1) := by decide +kernel
theorem dX4_callSound_72 : decode cX4_callSound 72 = .ok (.getfield 72, 3) := by decide +kernel
theorem dX4_callSound_75 : decode cX4_callSound 75 = .ok (.ifCond .lt 40, 3) := by decide +kernel
theorem dX4_callSound_78 : decode cX4_callSound 78 = .ok (.aload_n 0, 1) := by decide +kernel
theorem dX4_callSound_79 : decode cX4_callSound 79 = .ok (.getfield 72, 3) := by decide +kernel
theorem dX4_callSound_82 : decode cX4_callSound 82 = .ok (.aload_n 0, 1) := by decide +kernel
theorem dX4_callSound_83 : decode cX4_callSound 83 = .ok (.getfield 41, 3) := by decide +kernel
theorem dX4_callSound_86 : decode cX4_callSound 86 = .ok (.arraylength, 1) := by decide +kernel
theorem dX4_callSound_87 : decode cX4_callSound 87 = .ok (.if_icmp .ge 28, 3) := by decide +kernel
theorem dX4_callSound_90 : decode cX4_callSound 90 = .ok (.aload_n 0, 1) := by decide +kernel
theorem dX4_callSound_91 : decode cX4_callSound 91 = .ok (.getfield 41, 3) := by decide +kernel
theorem dX4_callSound_94 : decode cX4_callSound 94 = .ok (.aload_n 0, 1) := by decide +kernel
theorem dX4_callSound_95 : decode cX4_callSound 95 = .ok (.getfield 72, 3) := by decide +kernel
theorem dX4_callSound_98 : decode cX4_callSound 98 = .ok (.iload_n 1, 1) := by decide +kernel
theorem dX4_callSound_99 : decode cX4_callSound 99 = .ok (.bipush 6, 2) := by decide +kernel
theorem dX4_callSound_101 : decode cX4_callSound 101 = .ok (.imul, 1) := by decide +kernel
theorem dX4_callSound_102 : decode cX4_callSound 102 = .ok (.iload_n 2, 1) := by decide +kernel
theorem dX4_callSound_103 : decode cX4_callSound 103 = .ok (.iadd, 1) := by decide +kernel
theorem dX4_callSound_104 : decode cX4_callSound 104 = .ok (.iastore, 1) := by decide +kernel
theorem dX4_callSound_105 : decode cX4_callSound 105 = .ok (.aload_n 0, 1) := by decide +kernel
theorem dX4_callSound_106 : decode cX4_callSound 106 = .ok (.dup, 1) := by decide +kernel
theorem dX4_callSound_107 : decode cX4_callSound 107 = .ok (.getfield 72, 3) := by decide +kernel
theorem dX4_callSound_110 : decode cX4_callSound 110 = .ok (.iconst 1, 1) := by decide +kernel
theorem dX4_callSound_111 : decode cX4_callSound 111 = .ok (.iadd, 1) := by decide +kernel
theorem dX4_callSound_112 : decode cX4_callSound 112 = .ok (.putfield 72, 3) := by decide +kernel
theorem dX4_callSound_115 : decode cX4_callSound 115 = .ok (.aload 4, 2) := by decide +kernel
theorem dX4_callSound_117 : decode cX4_callSound 117 = .ok (.dup, 1) := by decide +kernel
theorem dX4_callSound_118 : decode cX4_callSound 118 = .ok (.getfield 211, 3) := by decide +kernel
theorem dX4_callSound_121 : decode cX4_callSound 121 = .ok (.iconst 1, 1) := by decide +kernel
theorem dX4_callSound_122 : decode cX4_callSound 122 = .ok (.iadd, 1) := by decide +kernel
theorem dX4_callSound_123 : decode cX4_callSound 123 = .ok (.putfield 211, 3) := by decide +kernel
theorem dX4_callSound_126 : decode cX4_callSound 126 = .ok (.iconst 1, 1) := by decide +kernel
theorem dX4_callSound_127 : decode cX4_callSound 127 = .ok (.ireturn, 1) := by decide +kernel
theorem dX4_loudnessOfReels_0 : decode cX4_loudnessOfReels 0 = .ok (.iconst 0, 1) := by decide +kernel
theorem dX4_loudnessOfReels_1 : decode cX4_loudnessOfReels 1 = .ok (.istore_n 1, 1) := by decide +kernel
theorem dX4_loudnessOfReels_2 : decode cX4_loudnessOfReels 2 = .ok (.iconst 0, 1) := by decide +kernel
theorem dX4_loudnessOfReels_3 : decode cX4_loudnessOfReels 3 = .ok (.istore_n 2, 1) := by decide +kernel
theorem dX4_loudnessOfReels_4 : decode cX4_loudnessOfReels 4 = .ok (.iload_n 2, 1) := by decide +kernel
theorem dX4_loudnessOfReels_5 : decode cX4_loudnessOfReels 5 = .ok (.aload_n 0, 1) := by decide +kernel
theorem dX4_loudnessOfReels_6 : decode cX4_loudnessOfReels 6 = .ok (.getfield 24, 3) := by decide +kernel
theorem dX4_loudnessOfReels_9 : decode cX4_loudnessOfReels 9 = .ok (.arraylength, 1) := by decide +kernel
theorem dX4_loudnessOfReels_10 : decode cX4_loudnessOfReels 10 = .ok (.if_icmp .ge 44, 3) := by decide +kernel
theorem dX4_loudnessOfReels_13 : decode cX4_loudnessOfReels 13 = .ok (.aload_n 0, 1) := by decide +kernel
theorem dX4_loudnessOfReels_14 : decode cX4_loudnessOfReels 14 = .ok (.getfield 24, 3) := by decide +kernel
theorem dX4_loudnessOfReels_17 : decode cX4_loudnessOfReels 17 = .ok (.iload_n 2, 1) := by decide +kernel
theorem dX4_loudnessOfReels_18 : decode cX4_loudnessOfReels 18 = .ok (.aaload, 1) := by decide +kernel
theorem dX4_loudnessOfReels_19 : decode cX4_loudnessOfReels 19 = .ok (.aload_n 0, 1) := by decide +kernel
theorem dX4_loudnessOfReels_20 : decode cX4_loudnessOfReels 20 = .ok (.getfield 24, 3) := by decide +kernel
theorem dX4_loudnessOfReels_23 : decode cX4_loudnessOfReels 23 = .ok (.iload_n 2, 1) := by decide +kernel
theorem dX4_loudnessOfReels_24 : decode cX4_loudnessOfReels 24 = .ok (.aaload, 1) := by decide +kernel
theorem dX4_loudnessOfReels_25 : decode cX4_loudnessOfReels 25 = .ok (.getfield 194, 3) := by decide +kernel
theorem dX4_loudnessOfReels_28 : decode cX4_loudnessOfReels 28 = .ok (.invokevirtual 146, 3) := by decide +kernel
theorem dX4_loudnessOfReels_31 : decode cX4_loudnessOfReels 31 = .ok (.astore_n 3, 1) := by decide +kernel
theorem dX4_loudnessOfReels_32 : decode cX4_loudnessOfReels 32 = .ok (.aload_n 3, 1) := by decide +kernel
theorem dX4_loudnessOfReels_33 : decode cX4_loudnessOfReels 33 = .ok (.ifnull 15, 3) := by decide +kernel
theorem dX4_loudnessOfReels_36 : decode cX4_loudnessOfReels 36 = .ok (.iload_n 1, 1) := by decide +kernel
theorem dX4_loudnessOfReels_37 : decode cX4_loudnessOfReels 37 = .ok (.aload_n 0, 1) := by decide +kernel
theorem dX4_loudnessOfReels_38 : decode cX4_loudnessOfReels 38 = .ok (.iload_n 2, 1) := by decide +kernel
theorem dX4_loudnessOfReels_39 : decode cX4_loudnessOfReels 39 = .ok (.aload_n 3, 1) := by decide +kernel
theorem dX4_loudnessOfReels_40 : decode cX4_loudnessOfReels 40 = .ok (.getfield 214, 3) := by decide +kernel
theorem dX4_loudnessOfReels_43 : decode cX4_loudnessOfReels 43 = .ok (.invokevirtual 217, 3) := by decide +kernel
theorem dX4_loudnessOfReels_46 : decode cX4_loudnessOfReels 46 = .ok (.iadd, 1) := by decide +kernel
theorem dX4_loudnessOfReels_47 : decode cX4_loudnessOfReels 47 = .ok (.istore_n 1, 1) := by decide +kernel
theorem dX4_loudnessOfReels_48 : decode cX4_loudnessOfReels 48 = .ok (.iinc 2 1, 3) := by decide +kernel
theorem dX4_loudnessOfReels_51 : decode cX4_loudnessOfReels 51 = .ok (.goto (-47), 3) := by decide +kernel
theorem dX4_loudnessOfReels_54 : decode cX4_loudnessOfReels 54 = .ok (.iload_n 1, 1) := by decide +kernel
theorem dX4_loudnessOfReels_55 : decode cX4_loudnessOfReels 55 = .ok (.ireturn, 1) := by decide +kernel
theorem dX4_loudnessOfDoors_0 : decode cX4_loudnessOfDoors 0 = .ok (.iconst 0, 1) := by decide +kernel
theorem dX4_loudnessOfDoors_1 : decode cX4_loudnessOfDoors 1 = .ok (.istore_n 1, 1) := by decide +kernel
theorem dX4_loudnessOfDoors_2 : decode cX4_loudnessOfDoors 2 = .ok (.iconst 0, 1) := by decide +kernel
theorem dX4_loudnessOfDoors_3 : decode cX4_loudnessOfDoors 3 = .ok (.istore_n 2, 1) := by decide +kernel
theorem dX4_loudnessOfDoors_4 : decode cX4_loudnessOfDoors 4 = .ok (.iload_n 2, 1) := by decide +kernel
theorem dX4_loudnessOfDoors_5 : decode cX4_loudnessOfDoors 5 = .ok (.aload_n 0, 1) := by decide +kernel
theorem dX4_loudnessOfDoors_6 : decode cX4_loudnessOfDoors 6 = .ok (.getfield 37, 3) := by decide +kernel
theorem dX4_loudnessOfDoors_9 : decode cX4_loudnessOfDoors 9 = .ok (.getfield 137, 3) := by decide +kernel
theorem dX4_loudnessOfDoors_12 : decode cX4_loudnessOfDoors 12 = .ok (.if_icmp .ge 40, 3) := by decide +kernel
theorem dX4_loudnessOfDoors_15 : decode cX4_loudnessOfDoors 15 = .ok (.iload_n 2, 1) := by decide +kernel
theorem dX4_loudnessOfDoors_16 : decode cX4_loudnessOfDoors 16 = .ok (.bipush 24, 2) := by decide +kernel
theorem dX4_loudnessOfDoors_18 : decode cX4_loudnessOfDoors 18 = .ok (.if_icmp .ge 34, 3) := by decide +kernel
theorem dX4_loudnessOfDoors_21 : decode cX4_loudnessOfDoors 21 = .ok (.iload_n 1, 1) := by decide +kernel
theorem dX4_loudnessOfDoors_22 : decode cX4_loudnessOfDoors 22 = .ok (.aload_n 0, 1) := by decide +kernel
theorem dX4_loudnessOfDoors_23 : decode cX4_loudnessOfDoors 23 = .ok (.aload_n 0, 1) := by decide +kernel
theorem dX4_loudnessOfDoors_24 : decode cX4_loudnessOfDoors 24 = .ok (.getfield 37, 3) := by decide +kernel
theorem dX4_loudnessOfDoors_27 : decode cX4_loudnessOfDoors 27 = .ok (.getfield 220, 3) := by decide +kernel
theorem dX4_loudnessOfDoors_30 : decode cX4_loudnessOfDoors 30 = .ok (.iload_n 2, 1) := by decide +kernel
theorem dX4_loudnessOfDoors_31 : decode cX4_loudnessOfDoors 31 = .ok (.iaload, 1) := by decide +kernel
theorem dX4_loudnessOfDoors_32 : decode cX4_loudnessOfDoors 32 = .ok (.aload_n 0, 1) := by decide +kernel
theorem dX4_loudnessOfDoors_33 : decode cX4_loudnessOfDoors 33 = .ok (.getfield 37, 3) := by decide +kernel
theorem dX4_loudnessOfDoors_36 : decode cX4_loudnessOfDoors 36 = .ok (.getfield 223, 3) := by decide +kernel
theorem dX4_loudnessOfDoors_39 : decode cX4_loudnessOfDoors 39 = .ok (.iload_n 2, 1) := by decide +kernel
theorem dX4_loudnessOfDoors_40 : decode cX4_loudnessOfDoors 40 = .ok (.iaload, 1) := by decide +kernel
theorem dX4_loudnessOfDoors_41 : decode cX4_loudnessOfDoors 41 = .ok (.invokevirtual 217, 3) := by decide +kernel
theorem dX4_loudnessOfDoors_44 : decode cX4_loudnessOfDoors 44 = .ok (.iadd, 1) := by decide +kernel
theorem dX4_loudnessOfDoors_45 : decode cX4_loudnessOfDoors 45 = .ok (.istore_n 1, 1) := by decide +kernel
theorem dX4_loudnessOfDoors_46 : decode cX4_loudnessOfDoors 46 = .ok (.iinc 2 1, 3) := by decide +kernel
theorem dX4_loudnessOfDoors_49 : decode cX4_loudnessOfDoors 49 = .ok (.goto (-45), 3) := by decide +kernel
theorem dX4_loudnessOfDoors_52 : decode cX4_loudnessOfDoors 52 = .ok (.iload_n 1, 1) := by decide +kernel
theorem dX4_loudnessOfDoors_53 : decode cX4_loudnessOfDoors 53 = .ok (.ireturn, 1) := by decide +kernel
theorem dX4_heardOn_0 : decode cX4_heardOn 0 = .ok (.aload_n 0, 1) := by decide +kernel
theorem dX4_heardOn_1 : decode cX4_heardOn 1 = .ok (.iload_n 1, 1) := by decide +kernel
theorem dX4_heardOn_2 : decode cX4_heardOn 2 = .ok (.invokevirtual 127, 3) := by decide +kernel
theorem dX4_heardOn_5 : decode cX4_heardOn 5 = .ok (.astore_n 3, 1) := by decide +kernel
theorem dX4_heardOn_6 : decode cX4_heardOn 6 = .ok (.aload_n 3, 1) := by decide +kernel
theorem dX4_heardOn_7 : decode cX4_heardOn 7 = .ok (.ifnonnull 7, 3) := by decide +kernel
theorem dX4_heardOn_10 : decode cX4_heardOn 10 = .ok (.iconst 0, 1) := by decide +kernel
theorem dX4_heardOn_11 : decode cX4_heardOn 11 = .ok (.goto 12, 3) := by decide +kernel
theorem dX4_heardOn_14 : decode cX4_heardOn 14 = .ok (.iload_n 2, 1) := by decide +kernel
theorem dX4_heardOn_15 : decode cX4_heardOn 15 = .ok (.aload_n 3, 1) := by decide +kernel
theorem dX4_heardOn_16 : decode cX4_heardOn 16 = .ok (.getfield 62, 3) := by decide +kernel
theorem dX4_heardOn_19 : decode cX4_heardOn 19 = .ok (.imul, 1) := by decide +kernel
theorem dX4_heardOn_20 : decode cX4_heardOn 20 = .ok (.bipush 50, 2) := by decide +kernel
theorem dX4_heardOn_22 : decode cX4_heardOn 22 = .ok (.idiv, 1) := by decide +kernel
theorem dX4_heardOn_23 : decode cX4_heardOn 23 = .ok (.ireturn, 1) := by decide +kernel
theorem dX4_windReels_0 : decode cX4_windReels 0 = .ok (.iconst 0, 1) := by decide +kernel
theorem dX4_windReels_1 : decode cX4_windReels 1 = .ok (.istore_n 1, 1) := by decide +kernel
theorem dX4_windReels_2 : decode cX4_windReels 2 = .ok (.iload_n 1, 1) := by decide +kernel
theorem dX4_windReels_3 : decode cX4_windReels 3 = .ok (.aload_n 0, 1) := by decide +kernel
theorem dX4_windReels_4 : decode cX4_windReels 4 = .ok (.getfield 24, 3) := by decide +kernel
theorem dX4_windReels_7 : decode cX4_windReels 7 = .ok (.arraylength, 1) := by decide +kernel
theorem dX4_windReels_8 : decode cX4_windReels 8 = .ok (.if_icmp .ge 96, 3) := by decide +kernel
theorem dX4_windReels_11 : decode cX4_windReels 11 = .ok (.aload_n 0, 1) := by decide +kernel
theorem dX4_windReels_12 : decode cX4_windReels 12 = .ok (.getfield 24, 3) := by decide +kernel
theorem dX4_windReels_15 : decode cX4_windReels 15 = .ok (.iload_n 1, 1) := by decide +kernel
theorem dX4_windReels_16 : decode cX4_windReels 16 = .ok (.aaload, 1) := by decide +kernel
theorem dX4_windReels_17 : decode cX4_windReels 17 = .ok (.getfield 194, 3) := by decide +kernel
theorem dX4_windReels_20 : decode cX4_windReels 20 = .ok (.bipush (-6), 2) := by decide +kernel
theorem dX4_windReels_22 : decode cX4_windReels 22 = .ok (.if_icmp .ne 76, 3) := by decide +kernel
theorem dX4_windReels_25 : decode cX4_windReels 25 = .ok (.aload_n 0, 1) := by decide +kernel
theorem dX4_windReels_26 : decode cX4_windReels 26 = .ok (.getfield 18, 3) := by decide +kernel
theorem dX4_windReels_29 : decode cX4_windReels 29 = .ok (.aload_n 0, 1) := by decide +kernel
theorem dX4_windReels_30 : decode cX4_windReels 30 = .ok (.getfield 18, 3) := by decide +kernel
theorem dX4_windReels_33 : decode cX4_windReels 33 = .ok (.iload_n 1, 1) := by decide +kernel
theorem dX4_windReels_34 : decode cX4_windReels 34 = .ok (.invokevirtual 225, 3) := by decide +kernel
theorem dX4_windReels_37 : decode cX4_windReels 37 = .ok (.invokevirtual 108, 3) := by decide +kernel
theorem dX4_windReels_40 : decode cX4_windReels 40 = .ok (.astore_n 2, 1) := by decide +kernel
theorem dX4_windReels_41 : decode cX4_windReels 41 = .ok (.aload_n 2, 1) := by decide +kernel
theorem dX4_windReels_42 : decode cX4_windReels 42 = .ok (.ifnonnull 7, 3) := by decide +kernel
theorem dX4_windReels_45 : decode cX4_windReels 45 = .ok (.aconst_null, 1) := by decide +kernel
theorem dX4_windReels_46 : decode cX4_windReels 46 = .ok (.goto 16, 3) := by decide +kernel
theorem dX4_windReels_49 : decode cX4_windReels 49 = .ok (.aload_n 0, 1) := by decide +kernel
theorem dX4_windReels_50 : decode cX4_windReels 50 = .ok (.getfield 24, 3) := by decide +kernel
theorem dX4_windReels_53 : decode cX4_windReels 53 = .ok (.iload_n 1, 1) := by decide +kernel
theorem dX4_windReels_54 : decode cX4_windReels 54 = .ok (.aaload, 1) := by decide +kernel
theorem dX4_windReels_55 : decode cX4_windReels 55 = .ok (.aload_n 2, 1) := by decide +kernel
theorem dX4_windReels_56 : decode cX4_windReels 56 = .ok (.getfield 181, 3) := by decide +kernel
theorem dX4_windReels_59 : decode cX4_windReels 59 = .ok (.invokevirtual 146, 3) := by decide +kernel
theorem dX4_windReels_62 : decode cX4_windReels 62 = .ok (.astore_n 3, 1) := by decide +kernel
theorem dX4_windReels_63 : decode cX4_windReels 63 = .ok (.aload_n 3, 1) := by decide +kernel
theorem dX4_windReels_64 : decode cX4_windReels 64 = .ok (.ifnull 34, 3) := by decide +kernel
theorem dX4_windReels_67 : decode cX4_windReels 67 = .ok (.aload_n 0, 1) := by decide +kernel
theorem dX4_windReels_68 : decode cX4_windReels 68 = .ok (.getfield 24, 3) := by decide +kernel
theorem dX4_windReels_71 : decode cX4_windReels 71 = .ok (.iload_n 1, 1) := by decide +kernel
theorem dX4_windReels_72 : decode cX4_windReels 72 = .ok (.aaload, 1) := by decide +kernel
theorem dX4_windReels_73 : decode cX4_windReels 73 = .ok (.aload_n 0, 1) := by decide +kernel
theorem dX4_windReels_74 : decode cX4_windReels 74 = .ok (.getfield 24, 3) := by decide +kernel
theorem dX4_windReels_77 : decode cX4_windReels 77 = .ok (.iload_n 1, 1) := by decide +kernel
theorem dX4_windReels_78 : decode cX4_windReels 78 = .ok (.aaload, 1) := by decide +kernel
theorem dX4_windReels_79 : decode cX4_windReels 79 = .ok (.getfield 197, 3) := by decide +kernel
theorem dX4_windReels_82 : decode cX4_windReels 82 = .ok (.aload_n 3, 1) := by decide +kernel
theorem dX4_windReels_83 : decode cX4_windReels 83 = .ok (.getfield 200, 3) := by decide +kernel
theorem dX4_windReels_86 : decode cX4_windReels 86 = .ok (.aload_n 0, 1) := by decide +kernel
theorem dX4_windReels_87 : decode cX4_windReels 87 = .ok (.getfield 9, 3) := by decide +kernel
theorem dX4_windReels_90 : decode cX4_windReels 90 = .ok (.iconst 0, 1) := by decide +kernel
theorem dX4_windReels_91 : decode cX4_windReels 91 = .ok (.iaload, 1) := by decide +kernel
theorem dX4_windReels_92 : decode cX4_windReels 92 = .ok (.invokestatic 229, 3) := by decide +kernel
theorem dX4_windReels_95 : decode cX4_windReels 95 = .ok (.putfield 197, 3) := by decide +kernel
theorem dX4_windReels_98 : decode cX4_windReels 98 = .ok (.iinc 1 1, 3) := by decide +kernel
theorem dX4_windReels_101 : decode cX4_windReels 101 = .ok (.goto (-99), 3) := by decide +kernel
theorem dX4_windReels_104 : decode cX4_windReels 104 = .ok (.return_, 1) := by decide +kernel
theorem dX4_goesOn_0 : decode cX4_goesOn 0 = .ok (.aload_n 0, 1) := by decide +kernel
theorem dX4_goesOn_1 : decode cX4_goesOn 1 = .ok (.getfield 18, 3) := by decide +kernel
theorem dX4_goesOn_4 : decode cX4_goesOn 4 = .ok (.invokevirtual 233, 3) := by decide +kernel
theorem dX4_goesOn_7 : decode cX4_goesOn 7 = .ok (.ifCond .ne 20, 3) := by decide +kernel
theorem dX4_goesOn_10 : decode cX4_goesOn 10 = .ok (.aload_n 0, 1) := by decide +kernel
theorem dX4_goesOn_11 : decode cX4_goesOn 11 = .ok (.getfield 37, 3) := by decide +kernel
theorem dX4_goesOn_14 : decode cX4_goesOn 14 = .ok (.getfield 137, 3) := by decide +kernel
theorem dX4_goesOn_17 : decode cX4_goesOn 17 = .ok (.ifCond .gt 10, 3) := by decide +kernel
theorem dX4_goesOn_20 : decode cX4_goesOn 20 = .ok (.aload_n 0, 1) := by decide +kernel
theorem dX4_goesOn_21 : decode cX4_goesOn 21 = .ok (.invokevirtual 237, 3) := by decide +kernel
theorem dX4_goesOn_24 : decode cX4_goesOn 24 = .ok (.ifCond .eq 7, 3) := by decide +kernel
theorem dX4_goesOn_27 : decode cX4_goesOn 27 = .ok (.iconst 1, 1) := by decide +kernel
theorem dX4_goesOn_28 : decode cX4_goesOn 28 = .ok (.goto 4, 3) := by decide +kernel
theorem dX4_goesOn_31 : decode cX4_goesOn 31 = .ok (.iconst 0, 1) := by decide +kernel
theorem dX4_goesOn_32 : decode cX4_goesOn 32 = .ok (.ireturn, 1) := by decide +kernel
theorem dX4_playingReels_0 : decode cX4_playingReels 0 = .ok (.iconst 0, 1) := by decide +kernel
theorem dX4_playingReels_1 : decode cX4_playingReels 1 = .ok (.istore_n 1, 1) := by decide +kernel
theorem dX4_playingReels_2 : decode cX4_playingReels 2 = .ok (.iconst 0, 1) := by decide +kernel
theorem dX4_playingReels_3 : decode cX4_playingReels 3 = .ok (.istore_n 2, 1) := by decide +kernel
theorem dX4_playingReels_4 : decode cX4_playingReels 4 = .ok (.iload_n 2, 1) := by decide +kernel
theorem dX4_playingReels_5 : decode cX4_playingReels 5 = .ok (.aload_n 0, 1) := by decide +kernel
theorem dX4_playingReels_6 : decode cX4_playingReels 6 = .ok (.getfield 24, 3) := by decide +kernel
theorem dX4_playingReels_9 : decode cX4_playingReels 9 = .ok (.arraylength, 1) := by decide +kernel
theorem dX4_playingReels_10 : decode cX4_playingReels 10 = .ok (.if_icmp .ge 29, 3) := by decide +kernel
theorem dX4_playingReels_13 : decode cX4_playingReels 13 = .ok (.aload_n 0, 1) := by decide +kernel
theorem dX4_playingReels_14 : decode cX4_playingReels 14 = .ok (.getfield 24, 3) := by decide +kernel
theorem dX4_playingReels_17 : decode cX4_playingReels 17 = .ok (.iload_n 2, 1) := by decide +kernel
theorem dX4_playingReels_18 : decode cX4_playingReels 18 = .ok (.aaload, 1) := by decide +kernel
theorem dX4_playingReels_19 : decode cX4_playingReels 19 = .ok (.getfield 194, 3) := by decide +kernel
theorem dX4_playingReels_22 : decode cX4_playingReels 22 = .ok (.bipush (-6), 2) := by decide +kernel
theorem dX4_playingReels_24 : decode cX4_playingReels 24 = .ok (.if_icmp .eq 9, 3) := by decide +kernel
theorem dX4_playingReels_27 : decode cX4_playingReels 27 = .ok (.iload_n 1, 1) := by decide +kernel
theorem dX4_playingReels_28 : decode cX4_playingReels 28 = .ok (.iconst 1, 1) := by decide +kernel
theorem dX4_playingReels_29 : decode cX4_playingReels 29 = .ok (.iload_n 2, 1) := by decide +kernel
theorem dX4_playingReels_30 : decode cX4_playingReels 30 = .ok (.ishl, 1) := by decide +kernel
theorem dX4_playingReels_31 : decode cX4_playingReels 31 = .ok (.ior, 1) := by decide +kernel
theorem dX4_playingReels_32 : decode cX4_playingReels 32 = .ok (.istore_n 1, 1) := by decide +kernel
theorem dX4_playingReels_33 : decode cX4_playingReels 33 = .ok (.iinc 2 1, 3) := by decide +kernel
theorem dX4_playingReels_36 : decode cX4_playingReels 36 = .ok (.goto (-32), 3) := by decide +kernel
theorem dX4_playingReels_39 : decode cX4_playingReels 39 = .ok (.iload_n 1, 1) := by decide +kernel
theorem dX4_playingReels_40 : decode cX4_playingReels 40 = .ok (.ireturn, 1) := by decide +kernel
theorem dX4_loudestSecond_0 : decode cX4_loudestSecond 0 = .ok (.bipush (-6), 2) := by decide +kernel
theorem dX4_loudestSecond_2 : decode cX4_loudestSecond 2 = .ok (.istore_n 1, 1) := by decide +kernel
theorem dX4_loudestSecond_3 : decode cX4_loudestSecond 3 = .ok (.iconst 0, 1) := by decide +kernel
theorem dX4_loudestSecond_4 : decode cX4_loudestSecond 4 = .ok (.istore_n 2, 1) := by decide +kernel
theorem dX4_loudestSecond_5 : decode cX4_loudestSecond 5 = .ok (.iconst 0, 1) := by decide +kernel
theorem dX4_loudestSecond_6 : decode cX4_loudestSecond 6 = .ok (.istore_n 3, 1) := by decide +kernel
theorem dX4_loudestSecond_7 : decode cX4_loudestSecond 7 = .ok (.iload_n 3, 1) := by decide +kernel
theorem dX4_loudestSecond_8 : decode cX4_loudestSecond 8 = .ok (.aload_n 0, 1) := by decide +kernel
theorem dX4_loudestSecond_9 : decode cX4_loudestSecond 9 = .ok (.getfield 79, 3) := by decide +kernel
theorem dX4_loudestSecond_12 : decode cX4_loudestSecond 12 = .ok (.if_icmp .ge 43, 3) := by decide +kernel
theorem dX4_loudestSecond_15 : decode cX4_loudestSecond 15 = .ok (.iload_n 3, 1) := by decide +kernel
theorem dX4_loudestSecond_16 : decode cX4_loudestSecond 16 = .ok (.aload_n 0, 1) := by decide +kernel
theorem dX4_loudestSecond_17 : decode cX4_loudestSecond 17 = .ok (.getfield 44, 3) := by decide +kernel
theorem dX4_loudestSecond_20 : decode cX4_loudestSecond 20 = .ok (.arraylength, 1) := by decide +kernel
theorem dX4_loudestSecond_21 : decode cX4_loudestSecond 21 = .ok (.if_icmp .ge 34, 3) := by decide +kernel
theorem dX4_loudestSecond_24 : decode cX4_loudestSecond 24 = .ok (.iload_n 1, 1) := by decide +kernel
theorem dX4_loudestSecond_25 : decode cX4_loudestSecond 25 = .ok (.bipush (-6), 2) := by decide +kernel
theorem dX4_loudestSecond_27 : decode cX4_loudestSecond 27 = .ok (.if_icmp .eq 13, 3) := by decide +kernel
theorem dX4_loudestSecond_30 : decode cX4_loudestSecond 30 = .ok (.aload_n 0, 1) := by decide +kernel
theorem dX4_loudestSecond_31 : decode cX4_loudestSecond 31 = .ok (.getfield 44, 3) := by decide +kernel
theorem dX4_loudestSecond_34 : decode cX4_loudestSecond 34 = .ok (.iload_n 3, 1) := by decide +kernel
theorem dX4_loudestSecond_35 : decode cX4_loudestSecond 35 = .ok (.iaload, 1) := by decide +kernel
theorem dX4_loudestSecond_36 : decode cX4_loudestSecond 36 = .ok (.iload_n 2, 1) := by decide +kernel
theorem dX4_loudestSecond_37 : decode cX4_loudestSecond 37 = .ok (.if_icmp .le 12, 3) := by decide +kernel
theorem dX4_loudestSecond_40 : decode cX4_loudestSecond 40 = .ok (.iload_n 3, 1) := by decide +kernel
theorem dX4_loudestSecond_41 : decode cX4_loudestSecond 41 = .ok (.istore_n 1, 1) := by decide +kernel
theorem dX4_loudestSecond_42 : decode cX4_loudestSecond 42 = .ok (.aload_n 0, 1) := by decide +kernel
theorem dX4_loudestSecond_43 : decode cX4_loudestSecond 43 = .ok (.getfield 44, 3) := by decide +kernel
theorem dX4_loudestSecond_46 : decode cX4_loudestSecond 46 = .ok (.iload_n 3, 1) := by decide +kernel
theorem dX4_loudestSecond_47 : decode cX4_loudestSecond 47 = .ok (.iaload, 1) := by decide +kernel
theorem dX4_loudestSecond_48 : decode cX4_loudestSecond 48 = .ok (.istore_n 2, 1) := by decide +kernel
theorem dX4_loudestSecond_49 : decode cX4_loudestSecond 49 = .ok (.iinc 3 1, 3) := by decide +kernel
theorem dX4_loudestSecond_52 : decode cX4_loudestSecond 52 = .ok (.goto (-45), 3) := by decide +kernel
theorem dX4_loudestSecond_55 : decode cX4_loudestSecond 55 = .ok (.iload_n 1, 1) := by decide +kernel
theorem dX4_loudestSecond_56 : decode cX4_loudestSecond 56 = .ok (.ireturn, 1) := by decide +kernel
theorem dX4_tooLoudSeconds_0 : decode cX4_tooLoudSeconds 0 = .ok (.iconst 0, 1) := by decide +kernel
theorem dX4_tooLoudSeconds_1 : decode cX4_tooLoudSeconds 1 = .ok (.istore_n 1, 1) := by decide +kernel
theorem dX4_tooLoudSeconds_2 : decode cX4_tooLoudSeconds 2 = .ok (.iconst 0, 1) := by decide +kernel
theorem dX4_tooLoudSeconds_3 : decode cX4_tooLoudSeconds 3 = .ok (.istore_n 2, 1) := by decide +kernel
theorem dX4_tooLoudSeconds_4 : decode cX4_tooLoudSeconds 4 = .ok (.iload_n 2, 1) := by decide +kernel
theorem dX4_tooLoudSeconds_5 : decode cX4_tooLoudSeconds 5 = .ok (.aload_n 0, 1) := by decide +kernel
theorem dX4_tooLoudSeconds_6 : decode cX4_tooLoudSeconds 6 = .ok (.getfield 79, 3) := by decide +kernel
theorem dX4_tooLoudSeconds_9 : decode cX4_tooLoudSeconds 9 = .ok (.if_icmp .ge 36, 3) := by decide +kernel
theorem dX4_tooLoudSeconds_12 : decode cX4_tooLoudSeconds 12 = .ok (.iload_n 2, 1) := by decide +kernel
theorem dX4_tooLoudSeconds_13 : decode cX4_tooLoudSeconds 13 = .ok (.aload_n 0, 1) := by decide +kernel
theorem dX4_tooLoudSeconds_14 : decode cX4_tooLoudSeconds 14 = .ok (.getfield 44, 3) := by decide +kernel
theorem dX4_tooLoudSeconds_17 : decode cX4_tooLoudSeconds 17 = .ok (.arraylength, 1) := by decide +kernel
theorem dX4_tooLoudSeconds_18 : decode cX4_tooLoudSeconds 18 = .ok (.if_icmp .ge 27, 3) := by decide +kernel
theorem dX4_tooLoudSeconds_21 : decode cX4_tooLoudSeconds 21 = .ok (.aload_n 0, 1) := by decide +kernel
theorem dX4_tooLoudSeconds_22 : decode cX4_tooLoudSeconds 22 = .ok (.getfield 44, 3) := by decide +kernel
theorem dX4_tooLoudSeconds_25 : decode cX4_tooLoudSeconds 25 = .ok (.iload_n 2, 1) := by decide +kernel
theorem dX4_tooLoudSeconds_26 : decode cX4_tooLoudSeconds 26 = .ok (.iaload, 1) := by decide +kernel
theorem dX4_tooLoudSeconds_27 : decode cX4_tooLoudSeconds 27 = .ok (.aload_n 0, 1) := by decide +kernel
theorem dX4_tooLoudSeconds_28 : decode cX4_tooLoudSeconds 28 = .ok (.getfield 9, 3) := by decide +kernel
theorem dX4_tooLoudSeconds_31 : decode cX4_tooLoudSeconds 31 = .ok (.iconst 3, 1) := by decide +kernel
theorem dX4_tooLoudSeconds_32 : decode cX4_tooLoudSeconds 32 = .ok (.iaload, 1) := by decide +kernel
theorem dX4_tooLoudSeconds_33 : decode cX4_tooLoudSeconds 33 = .ok (.if_icmp .le 6, 3) := by decide +kernel
theorem dX4_tooLoudSeconds_36 : decode cX4_tooLoudSeconds 36 = .ok (.iinc 1 1, 3) := by decide +kernel
theorem dX4_tooLoudSeconds_39 : decode cX4_tooLoudSeconds 39 = .ok (.iinc 2 1, 3) := by decide +kernel
theorem dX4_tooLoudSeconds_42 : decode cX4_tooLoudSeconds 42 = .ok (.goto (-38), 3) := by decide +kernel
theorem dX4_tooLoudSeconds_45 : decode cX4_tooLoudSeconds 45 = .ok (.iload_n 1, 1) := by decide +kernel
theorem dX4_tooLoudSeconds_46 : decode cX4_tooLoudSeconds 46 = .ok (.ireturn, 1) := by decide +kernel
theorem dX4_secondsHeard_0 : decode cX4_secondsHeard 0 = .ok (.iconst 0, 1) := by decide +kernel
theorem dX4_secondsHeard_1 : decode cX4_secondsHeard 1 = .ok (.aload_n 0, 1) := by decide +kernel
theorem dX4_secondsHeard_2 : decode cX4_secondsHeard 2 = .ok (.getfield 79, 3) := by decide +kernel
theorem dX4_secondsHeard_5 : decode cX4_secondsHeard 5 = .ok (.aload_n 0, 1) := by decide +kernel
theorem dX4_secondsHeard_6 : decode cX4_secondsHeard 6 = .ok (.getfield 44, 3) := by decide +kernel
theorem dX4_secondsHeard_9 : decode cX4_secondsHeard 9 = .ok (.arraylength, 1) := by decide +kernel
theorem dX4_secondsHeard_10 : decode cX4_secondsHeard 10 = .ok (.invokestatic 240, 3) := by decide +kernel
theorem dX4_secondsHeard_13 : decode cX4_secondsHeard 13 = .ok (.invokestatic 245, 3) := by decide +kernel
theorem dX4_secondsHeard_16 : decode cX4_secondsHeard 16 = .ok (.ireturn, 1) := by decide +kernel
theorem dX5_init_0 : decode cX5_init 0 = .ok (.aload_n 0, 1) := by decide +kernel
theorem dX5_init_1 : decode cX5_init 1 = .ok (.invokespecial 3, 3) := by decide +kernel
theorem dX5_init_4 : decode cX5_init 4 = .ok (.aload_n 0, 1) := by decide +kernel
theorem dX5_init_5 : decode cX5_init 5 = .ok (.bipush 6, 2) := by decide +kernel
theorem dX5_init_7 : decode cX5_init 7 = .ok (.anewarray 9, 3) := by decide +kernel
theorem dX5_init_10 : decode cX5_init 10 = .ok (.putfield 11, 3) := by decide +kernel
theorem dX5_init_13 : decode cX5_init 13 = .ok (.aload_n 0, 1) := by decide +kernel
theorem dX5_init_14 : decode cX5_init 14 = .ok (.bipush (-6), 2) := by decide +kernel
theorem dX5_init_16 : decode cX5_init 16 = .ok (.putfield 17, 3) := by decide +kernel
theorem dX5_init_19 : decode cX5_init 19 = .ok (.iconst 0, 1) := by decide +kernel
theorem dX5_init_20 : decode cX5_init 20 = .ok (.istore_n 1, 1) := by decide +kernel
theorem dX5_init_21 : decode cX5_init 21 = .ok (.iload_n 1, 1) := by decide +kernel
theorem dX5_init_22 : decode cX5_init 22 = .ok (.aload_n 0, 1) := by decide +kernel
theorem dX5_init_23 : decode cX5_init 23 = .ok (.getfield 11, 3) := by decide +kernel
theorem dX5_init_26 : decode cX5_init 26 = .ok (.arraylength, 1) := by decide +kernel
theorem dX5_init_27 : decode cX5_init 27 = .ok (.if_icmp .ge 22, 3) := by decide +kernel
theorem dX5_init_30 : decode cX5_init 30 = .ok (.aload_n 0, 1) := by decide +kernel
theorem dX5_init_31 : decode cX5_init 31 = .ok (.getfield 11, 3) := by decide +kernel
theorem dX5_init_34 : decode cX5_init 34 = .ok (.iload_n 1, 1) := by decide +kernel
theorem dX5_init_35 : decode cX5_init 35 = .ok (.new 9, 3) := by decide +kernel
theorem dX5_init_38 : decode cX5_init 38 = .ok (.dup, 1) := by decide +kernel
theorem dX5_init_39 : decode cX5_init 39 = .ok (.invokespecial 21, 3) := by decide +kernel
theorem dX5_init_42 : decode cX5_init 42 = .ok (.aastore, 1) := by decide +kernel
theorem dX5_init_43 : decode cX5_init 43 = .ok (.iinc 1 1, 3) := by decide +kernel
theorem dX5_init_46 : decode cX5_init 46 = .ok (.goto (-25), 3) := by decide +kernel
theorem dX5_init_49 : decode cX5_init 49 = .ok (.return_, 1) := by decide +kernel
theorem dX5_copyFrom_0 : decode cX5_copyFrom 0 = .ok (.aload_n 0, 1) := by decide +kernel
theorem dX5_copyFrom_1 : decode cX5_copyFrom 1 = .ok (.aload_n 1, 1) := by decide +kernel
theorem dX5_copyFrom_2 : decode cX5_copyFrom 2 = .ok (.getfield 22, 3) := by decide +kernel
theorem dX5_copyFrom_5 : decode cX5_copyFrom 5 = .ok (.putfield 22, 3) := by decide +kernel
theorem dX5_copyFrom_8 : decode cX5_copyFrom 8 = .ok (.aload_n 0, 1) := by decide +kernel
theorem dX5_copyFrom_9 : decode cX5_copyFrom 9 = .ok (.aload_n 1, 1) := by decide +kernel
theorem dX5_copyFrom_10 : decode cX5_copyFrom 10 = .ok (.getfield 25, 3) := by decide +kernel
theorem dX5_copyFrom_13 : decode cX5_copyFrom 13 = .ok (.putfield 25, 3) := by decide +kernel
theorem dX5_copyFrom_16 : decode cX5_copyFrom 16 = .ok (.aload_n 0, 1) := by decide +kernel
theorem dX5_copyFrom_17 : decode cX5_copyFrom 17 = .ok (.aload_n 1, 1) := by decide +kernel
theorem dX5_copyFrom_18 : decode cX5_copyFrom 18 = .ok (.getfield 17, 3) := by decide +kernel
theorem dX5_copyFrom_21 : decode cX5_copyFrom 21 = .ok (.putfield 17, 3) := by decide +kernel
theorem dX5_copyFrom_24 : decode cX5_copyFrom 24 = .ok (.aload_n 0, 1) := by decide +kernel
theorem dX5_copyFrom_25 : decode cX5_copyFrom 25 = .ok (.aload_n 1, 1) := by decide +kernel
theorem dX5_copyFrom_26 : decode cX5_copyFrom 26 = .ok (.getfield 28, 3) := by decide +kernel
theorem dX5_copyFrom_29 : decode cX5_copyFrom 29 = .ok (.putfield 28, 3) := by decide +kernel
theorem dX5_copyFrom_32 : decode cX5_copyFrom 32 = .ok (.iconst 0, 1) := by decide +kernel
theorem dX5_copyFrom_33 : decode cX5_copyFrom 33 = .ok (.istore_n 2, 1) := by decide +kernel
theorem dX5_copyFrom_34 : decode cX5_copyFrom 34 = .ok (.iload_n 2, 1) := by decide +kernel
theorem dX5_copyFrom_35 : decode cX5_copyFrom 35 = .ok (.aload_n 0, 1) := by decide +kernel
theorem dX5_copyFrom_36 : decode cX5_copyFrom 36 = .ok (.getfield 22, 3) := by decide +kernel
theorem dX5_copyFrom_39 : decode cX5_copyFrom 39 = .ok (.if_icmp .ge 33, 3) := by decide +kernel
theorem dX5_copyFrom_42 : decode cX5_copyFrom 42 = .ok (.iload_n 2, 1) := by decide +kernel
theorem dX5_copyFrom_43 : decode cX5_copyFrom 43 = .ok (.aload_n 0, 1) := by decide +kernel
theorem dX5_copyFrom_44 : decode cX5_copyFrom 44 = .ok (.getfield 11, 3) := by decide +kernel
theorem dX5_copyFrom_47 : decode cX5_copyFrom 47 = .ok (.arraylength, 1) := by decide +kernel
theorem dX5_copyFrom_48 : decode cX5_copyFrom 48 = .ok (.if_icmp .ge 24, 3) := by decide +kernel
theorem dX5_copyFrom_51 : decode cX5_copyFrom 51 = .ok (.aload_n 0, 1) := by decide +kernel
theorem dX5_copyFrom_52 : decode cX5_copyFrom 52 = .ok (.getfield 11, 3) := by decide +kernel
theorem dX5_copyFrom_55 : decode cX5_copyFrom 55 = .ok (.iload_n 2, 1) := by decide +kernel
theorem dX5_copyFrom_56 : decode cX5_copyFrom 56 = .ok (.aaload, 1) := by decide +kernel
theorem dX5_copyFrom_57 : decode cX5_copyFrom 57 = .ok (.aload_n 1, 1) := by decide +kernel
theorem dX5_copyFrom_58 : decode cX5_copyFrom 58 = .ok (.getfield 11, 3) := by decide +kernel
theorem dX5_copyFrom_61 : decode cX5_copyFrom 61 = .ok (.iload_n 2, 1) := by decide +kernel
theorem dX5_copyFrom_62 : decode cX5_copyFrom 62 = .ok (.aaload, 1) := by decide +kernel
theorem dX5_copyFrom_63 : decode cX5_copyFrom 63 = .ok (.invokevirtual 31, 3) := by decide +kernel
theorem dX5_copyFrom_66 : decode cX5_copyFrom 66 = .ok (.iinc 2 1, 3) := by decide +kernel
theorem dX5_copyFrom_69 : decode cX5_copyFrom 69 = .ok (.goto (-35), 3) := by decide +kernel
theorem dX5_copyFrom_72 : decode cX5_copyFrom 72 = .ok (.return_, 1) := by decide +kernel
theorem dX5_rewind_0 : decode cX5_rewind 0 = .ok (.aload_n 0, 1) := by decide +kernel
theorem dX5_rewind_1 : decode cX5_rewind 1 = .ok (.iconst 0, 1) := by decide +kernel
theorem dX5_rewind_2 : decode cX5_rewind 2 = .ok (.putfield 25, 3) := by decide +kernel
theorem dX5_rewind_5 : decode cX5_rewind 5 = .ok (.aload_n 0, 1) := by decide +kernel
theorem dX5_rewind_6 : decode cX5_rewind 6 = .ok (.bipush (-6), 2) := by decide +kernel
theorem dX5_rewind_8 : decode cX5_rewind 8 = .ok (.putfield 17, 3) := by decide +kernel
theorem dX5_rewind_11 : decode cX5_rewind 11 = .ok (.aload_n 0, 1) := by decide +kernel
theorem dX5_rewind_12 : decode cX5_rewind 12 = .ok (.iconst 0, 1) := by decide +kernel
theorem dX5_rewind_13 : decode cX5_rewind 13 = .ok (.putfield 28, 3) := by decide +kernel
theorem dX5_rewind_16 : decode cX5_rewind 16 = .ok (.iconst 0, 1) := by decide +kernel
theorem dX5_rewind_17 : decode cX5_rewind 17 = .ok (.istore_n 1, 1) := by decide +kernel
theorem dX5_rewind_18 : decode cX5_rewind 18 = .ok (.iload_n 1, 1) := by decide +kernel
theorem dX5_rewind_19 : decode cX5_rewind 19 = .ok (.aload_n 0, 1) := by decide +kernel
theorem dX5_rewind_20 : decode cX5_rewind 20 = .ok (.getfield 22, 3) := by decide +kernel
theorem dX5_rewind_23 : decode cX5_rewind 23 = .ok (.if_icmp .ge 28, 3) := by decide +kernel
theorem dX5_rewind_26 : decode cX5_rewind 26 = .ok (.iload_n 1, 1) := by decide +kernel
theorem dX5_rewind_27 : decode cX5_rewind 27 = .ok (.aload_n 0, 1) := by decide +kernel
theorem dX5_rewind_28 : decode cX5_rewind 28 = .ok (.getfield 11, 3) := by decide +kernel
theorem dX5_rewind_31 : decode cX5_rewind 31 = .ok (.arraylength, 1) := by decide +kernel
theorem dX5_rewind_32 : decode cX5_rewind 32 = .ok (.if_icmp .ge 19, 3) := by decide +kernel
theorem dX5_rewind_35 : decode cX5_rewind 35 = .ok (.aload_n 0, 1) := by decide +kernel
theorem dX5_rewind_36 : decode cX5_rewind 36 = .ok (.getfield 11, 3) := by decide +kernel
theorem dX5_rewind_39 : decode cX5_rewind 39 = .ok (.iload_n 1, 1) := by decide +kernel
theorem dX5_rewind_40 : decode cX5_rewind 40 = .ok (.aaload, 1) := by decide +kernel
theorem dX5_rewind_41 : decode cX5_rewind 41 = .ok (.iconst 0, 1) := by decide +kernel
theorem dX5_rewind_42 : decode cX5_rewind 42 = .ok (.putfield 35, 3) := by decide +kernel
theorem dX5_rewind_45 : decode cX5_rewind 45 = .ok (.iinc 1 1, 3) := by decide +kernel
theorem dX5_rewind_48 : decode cX5_rewind 48 = .ok (.goto (-30), 3) := by decide +kernel
theorem dX5_rewind_51 : decode cX5_rewind 51 = .ok (.return_, 1) := by decide +kernel
theorem dX5_soundNumbered_0 : decode cX5_soundNumbered 0 = .ok (.iload_n 1, 1) := by decide +kernel
theorem dX5_soundNumbered_1 : decode cX5_soundNumbered 1 = .ok (.ifCond .lt 20, 3) := by decide +kernel
theorem dX5_soundNumbered_4 : decode cX5_soundNumbered 4 = .ok (.iload_n 1, 1) := by decide +kernel
theorem dX5_soundNumbered_5 : decode cX5_soundNumbered 5 = .ok (.aload_n 0, 1) := by decide +kernel
theorem dX5_soundNumbered_6 : decode cX5_soundNumbered 6 = .ok (.getfield 22, 3) := by decide +kernel
theorem dX5_soundNumbered_9 : decode cX5_soundNumbered 9 = .ok (.if_icmp .ge 12, 3) := by decide +kernel
theorem dX5_soundNumbered_12 : decode cX5_soundNumbered 12 = .ok (.iload_n 1, 1) := by decide +kernel
theorem dX5_soundNumbered_13 : decode cX5_soundNumbered 13 = .ok (.aload_n 0, 1) := by decide +kernel
theorem dX5_soundNumbered_14 : decode cX5_soundNumbered 14 = .ok (.getfield 11, 3) := by decide +kernel
theorem dX5_soundNumbered_17 : decode cX5_soundNumbered 17 = .ok (.arraylength, 1) := by decide +kernel
theorem dX5_soundNumbered_18 : decode cX5_soundNumbered 18 = .ok (.if_icmp .lt 7, 3) := by decide +kernel
theorem dX5_soundNumbered_21 : decode cX5_soundNumbered 21 = .ok (.aconst_null, 1) := by decide +kernel
theorem dX5_soundNumbered_22 : decode cX5_soundNumbered 22 = .ok (.goto 9, 3) := by decide +kernel
theorem dX5_soundNumbered_25 : decode cX5_soundNumbered 25 = .ok (.aload_n 0, 1) := by decide +kernel
theorem dX5_soundNumbered_26 : decode cX5_soundNumbered 26 = .ok (.getfield 11, 3) := by decide +kernel
theorem dX5_soundNumbered_29 : decode cX5_soundNumbered 29 = .ok (.iload_n 1, 1) := by decide +kernel
theorem dX5_soundNumbered_30 : decode cX5_soundNumbered 30 = .ok (.aaload, 1) := by decide +kernel
theorem dX5_soundNumbered_31 : decode cX5_soundNumbered 31 = .ok (.areturn, 1) := by decide +kernel
theorem dX5_tapeLength_0 : decode cX5_tapeLength 0 = .ok (.aload_n 0, 1) := by decide +kernel
theorem dX5_tapeLength_1 : decode cX5_tapeLength 1 = .ok (.aload_n 0, 1) := by decide +kernel
theorem dX5_tapeLength_2 : decode cX5_tapeLength 2 = .ok (.getfield 22, 3) := by decide +kernel
theorem dX5_tapeLength_5 : decode cX5_tapeLength 5 = .ok (.iconst 1, 1) := by decide +kernel
theorem dX5_tapeLength_6 : decode cX5_tapeLength 6 = .ok (.isub, 1) := by decide +kernel
theorem dX5_tapeLength_7 : decode cX5_tapeLength 7 = .ok (.invokevirtual 38, 3) := by decide +kernel
theorem dX5_tapeLength_10 : decode cX5_tapeLength 10 = .ok (.astore_n 1, 1) := by decide +kernel
theorem dX5_tapeLength_11 : decode cX5_tapeLength 11 = .ok (.aload_n 1, 1) := by decide +kernel
theorem dX5_tapeLength_12 : decode cX5_tapeLength 12 = .ok (.ifnonnull 7, 3) := by decide +kernel
theorem dX5_tapeLength_15 : decode cX5_tapeLength 15 = .ok (.iconst 0, 1) := by decide +kernel
theorem dX5_tapeLength_16 : decode cX5_tapeLength 16 = .ok (.goto 12, 3) := by decide +kernel
theorem dX5_tapeLength_19 : decode cX5_tapeLength 19 = .ok (.aload_n 1, 1) := by decide +kernel
theorem dX5_tapeLength_20 : decode cX5_tapeLength 20 = .ok (.getfield 42, 3) := by decide +kernel
theorem dX5_tapeLength_23 : decode cX5_tapeLength 23 = .ok (.aload_n 1, 1) := by decide +kernel
theorem dX5_tapeLength_24 : decode cX5_tapeLength 24 = .ok (.getfield 45, 3) := by decide +kernel
theorem dX5_tapeLength_27 : decode cX5_tapeLength 27 = .ok (.iadd, 1) := by decide +kernel
theorem dX5_tapeLength_28 : decode cX5_tapeLength 28 = .ok (.ireturn, 1) := by decide +kernel
theorem dX5_appendSound_0 : decode cX5_appendSound 0 = .ok (.aload_n 0, 1) := by decide +kernel
theorem dX5_appendSound_1 : decode cX5_appendSound 1 = .ok (.getfield 22, 3) := by decide +kernel
theorem dX5_appendSound_4 : decode cX5_appendSound 4 = .ok (.ifCond .lt 15, 3) := by decide +kernel
theorem dX5_appendSound_7 : decode cX5_appendSound 7 = .ok (.aload_n 0, 1) := by decide +kernel
theorem dX5_appendSound_8 : decode cX5_appendSound 8 = .ok (.getfield 22, 3) := by decide +kernel
theorem dX5_appendSound_11 : decode cX5_appendSound 11 = .ok (.aload_n 0, 1) := by decide +kernel
theorem dX5_appendSound_12 : decode cX5_appendSound 12 = .ok (.getfield 11, 3) := by decide +kernel
theorem dX5_appendSound_15 : decode cX5_appendSound 15 = .ok (.arraylength, 1) := by decide +kernel
theorem dX5_appendSound_16 : decode cX5_appendSound 16 = .ok (.if_icmp .lt 6, 3) := by decide +kernel
theorem dX5_appendSound_19 : decode cX5_appendSound 19 = .ok (.bipush (-4), 2) := by decide +kernel
theorem dX5_appendSound_21 : decode cX5_appendSound 21 = .ok (.ireturn, 1) := by decide +kernel
theorem dX5_appendSound_22 : decode cX5_appendSound 22 = .ok (.aload_n 0, 1) := by decide +kernel
theorem dX5_appendSound_23 : decode cX5_appendSound 23 = .ok (.getfield 11, 3) := by decide +kernel
theorem dX5_appendSound_26 : decode cX5_appendSound 26 = .ok (.aload_n 0, 1) := by decide +kernel
theorem dX5_appendSound_27 : decode cX5_appendSound 27 = .ok (.getfield 22, 3) := by decide +kernel
theorem dX5_appendSound_30 : decode cX5_appendSound 30 = .ok (.aaload, 1) := by decide +kernel
theorem dX5_appendSound_31 : decode cX5_appendSound 31 = .ok (.astore_n 3, 1) := by decide +kernel
theorem dX5_appendSound_32 : decode cX5_appendSound 32 = .ok (.aload_n 3, 1) := by decide +kernel
theorem dX5_appendSound_33 : decode cX5_appendSound 33 = .ok (.aload_n 0, 1) := by decide +kernel
theorem dX5_appendSound_34 : decode cX5_appendSound 34 = .ok (.invokevirtual 48, 3) := by decide +kernel
theorem dX5_appendSound_37 : decode cX5_appendSound 37 = .ok (.putfield 42, 3) := by decide +kernel
theorem dX5_appendSound_40 : decode cX5_appendSound 40 = .ok (.aload_n 3, 1) := by decide +kernel
theorem dX5_appendSound_41 : decode cX5_appendSound 41 = .ok (.iload_n 1, 1) := by decide +kernel
theorem dX5_appendSound_42 : decode cX5_appendSound 42 = .ok (.putfield 45, 3) := by decide +kernel
theorem dX5_appendSound_45 : decode cX5_appendSound 45 = .ok (.aload_n 3, 1) := by decide +kernel
theorem dX5_appendSound_46 : decode cX5_appendSound 46 = .ok (.iload_n 2, 1) := by decide +kernel
theorem dX5_appendSound_47 : decode cX5_appendSound 47 = .ok (.putfield 52, 3) := by decide +kernel
theorem dX5_appendSound_50 : decode cX5_appendSound 50 = .ok (.aload_n 3, 1) := by decide +kernel
theorem dX5_appendSound_51 : decode cX5_appendSound 51 = .ok (.iconst 0, 1) := by decide +kernel
theorem dX5_appendSound_52 : decode cX5_appendSound 52 = .ok (.putfield 35, 3) := by decide +kernel
theorem dX5_appendSound_55 : decode cX5_appendSound 55 = .ok (.aload_n 0, 1) := by decide +kernel
theorem dX5_appendSound_56 : decode cX5_appendSound 56 = .ok (.dup, 1) := by decide +kernel
theorem dX5_appendSound_57 : decode cX5_appendSound 57 = .ok (.getfield 22, 3) := by decide +kernel
theorem dX5_appendSound_60 : decode cX5_appendSound 60 = .ok (.iconst 1, 1) := by decide +kernel
theorem dX5_appendSound_61 : decode cX5_appendSound 61 = .ok (.iadd, 1) := by decide +kernel
theorem dX5_appendSound_62 : decode cX5_appendSound 62 = .ok (.putfield 22, 3) := by decide +kernel
theorem dX5_appendSound_65 : decode cX5_appendSound 65 = .ok (.aload_n 0, 1) := by decide +kernel
theorem dX5_appendSound_66 : decode cX5_appendSound 66 = .ok (.getfield 22, 3) := by decide +kernel
theorem dX5_appendSound_69 : decode cX5_appendSound 69 = .ok (.iconst 1, 1) := by decide +kernel
theorem dX5_appendSound_70 : decode cX5_appendSound 70 = .ok (.isub, 1) := by decide +kernel
theorem dX5_appendSound_71 : decode cX5_appendSound 71 = .ok (.ireturn, 1) := by decide +kernel
theorem dX5_playSecond_0 : decode cX5_playSecond 0 = .ok (.aload_n 0, 1) := by decide +kernel
theorem dX5_playSecond_1 : decode cX5_playSecond 1 = .ok (.getfield 17, 3) := by decide +kernel
theorem dX5_playSecond_4 : decode cX5_playSecond 4 = .ok (.bipush (-6), 2) := by decide +kernel
theorem dX5_playSecond_6 : decode cX5_playSecond 6 = .ok (.if_icmp .ne 4, 3) := by decide +kernel
theorem dX5_playSecond_9 : decode cX5_playSecond 9 = .ok (.return_, 1) := by decide +kernel
theorem dX5_playSecond_10 : decode cX5_playSecond 10 = .ok (.aload_n 0, 1) := by decide +kernel
theorem dX5_playSecond_11 : decode cX5_playSecond 11 = .ok (.dup, 1) := by decide +kernel
theorem dX5_playSecond_12 : decode cX5_playSecond 12 = .ok (.getfield 25, 3) := by decide +kernel
theorem dX5_playSecond_15 : decode cX5_playSecond 15 = .ok (.iconst 1, 1) := by decide +kernel
theorem dX5_playSecond_16 : decode cX5_playSecond 16 = .ok (.iadd, 1) := by decide +kernel
theorem dX5_playSecond_17 : decode cX5_playSecond 17 = .ok (.putfield 25, 3) := by decide +kernel
theorem dX5_playSecond_20 : decode cX5_playSecond 20 = .ok (.aload_n 0, 1) := by decide +kernel
theorem dX5_playSecond_21 : decode cX5_playSecond 21 = .ok (.dup, 1) := by decide +kernel
theorem dX5_playSecond_22 : decode cX5_playSecond 22 = .ok (.getfield 28, 3) := by decide +kernel
theorem dX5_playSecond_25 : decode cX5_playSecond 25 = .ok (.iconst 1, 1) := by decide +kernel
theorem dX5_playSecond_26 : decode cX5_playSecond 26 = .ok (.isub, 1) := by decide +kernel
theorem dX5_playSecond_27 : decode cX5_playSecond 27 = .ok (.putfield 28, 3) := by decide +kernel
theorem dX5_playSecond_30 : decode cX5_playSecond 30 = .ok (.aload_n 0, 1) := by decide +kernel
theorem dX5_playSecond_31 : decode cX5_playSecond 31 = .ok (.getfield 28, 3) := by decide +kernel
theorem dX5_playSecond_34 : decode cX5_playSecond 34 = .ok (.ifCond .gt 9, 3) := by decide +kernel
theorem dX5_playSecond_37 : decode cX5_playSecond 37 = .ok (.aload_n 0, 1) := by decide +kernel
theorem dX5_playSecond_38 : decode cX5_playSecond 38 = .ok (.bipush (-6), 2) := by decide +kernel
theorem dX5_playSecond_40 : decode cX5_playSecond 40 = .ok (.putfield 17, 3) := by decide +kernel
theorem dX5_playSecond_43 : decode cX5_playSecond 43 = .ok (.return_, 1) := by decide +kernel
theorem dX6_init_0 : decode cX6_init 0 = .ok (.aload_n 0, 1) := by decide +kernel
theorem dX6_init_1 : decode cX6_init 1 = .ok (.invokespecial 3, 3) := by decide +kernel
theorem dX6_init_4 : decode cX6_init 4 = .ok (.aload_n 0, 1) := by decide +kernel
theorem dX6_init_5 : decode cX6_init 5 = .ok (.bipush 24, 2) := by decide +kernel
theorem dX6_init_7 : decode cX6_init 7 = .ok (.anewarray 9, 3) := by decide +kernel
theorem dX6_init_10 : decode cX6_init 10 = .ok (.putfield 11, 3) := by decide +kernel
theorem dX6_init_13 : decode cX6_init 13 = .ok (.iconst 0, 1) := by decide +kernel
theorem dX6_init_14 : decode cX6_init 14 = .ok (.istore_n 1, 1) := by decide +kernel
theorem dX6_init_15 : decode cX6_init 15 = .ok (.iload_n 1, 1) := by decide +kernel
theorem dX6_init_16 : decode cX6_init 16 = .ok (.aload_n 0, 1) := by decide +kernel
theorem dX6_init_17 : decode cX6_init 17 = .ok (.getfield 11, 3) := by decide +kernel
theorem dX6_init_20 : decode cX6_init 20 = .ok (.arraylength, 1) := by decide +kernel
theorem dX6_init_21 : decode cX6_init 21 = .ok (.if_icmp .ge 22, 3) := by decide +kernel
theorem dX6_init_24 : decode cX6_init 24 = .ok (.aload_n 0, 1) := by decide +kernel
theorem dX6_init_25 : decode cX6_init 25 = .ok (.getfield 11, 3) := by decide +kernel
theorem dX6_init_28 : decode cX6_init 28 = .ok (.iload_n 1, 1) := by decide +kernel
theorem dX6_init_29 : decode cX6_init 29 = .ok (.new 9, 3) := by decide +kernel
theorem dX6_init_32 : decode cX6_init 32 = .ok (.dup, 1) := by decide +kernel
theorem dX6_init_33 : decode cX6_init 33 = .ok (.invokespecial 17, 3) := by decide +kernel
theorem dX6_init_36 : decode cX6_init 36 = .ok (.aastore, 1) := by decide +kernel
theorem dX6_init_37 : decode cX6_init 37 = .ok (.iinc 1 1, 3) := by decide +kernel
theorem dX6_init_40 : decode cX6_init 40 = .ok (.goto (-25), 3) := by decide +kernel
theorem dX6_init_43 : decode cX6_init 43 = .ok (.return_, 1) := by decide +kernel
theorem dX6_copyFrom_0 : decode cX6_copyFrom 0 = .ok (.aload_n 0, 1) := by decide +kernel
theorem dX6_copyFrom_1 : decode cX6_copyFrom 1 = .ok (.aload_n 1, 1) := by decide +kernel
theorem dX6_copyFrom_2 : decode cX6_copyFrom 2 = .ok (.getfield 18, 3) := by decide +kernel
theorem dX6_copyFrom_5 : decode cX6_copyFrom 5 = .ok (.putfield 18, 3) := by decide +kernel
theorem dX6_copyFrom_8 : decode cX6_copyFrom 8 = .ok (.aload_n 0, 1) := by decide +kernel
theorem dX6_copyFrom_9 : decode cX6_copyFrom 9 = .ok (.aload_n 1, 1) := by decide +kernel
theorem dX6_copyFrom_10 : decode cX6_copyFrom 10 = .ok (.getfield 22, 3) := by decide +kernel
theorem dX6_copyFrom_13 : decode cX6_copyFrom 13 = .ok (.putfield 22, 3) := by decide +kernel
theorem dX6_copyFrom_16 : decode cX6_copyFrom 16 = .ok (.iconst 0, 1) := by decide +kernel
theorem dX6_copyFrom_17 : decode cX6_copyFrom 17 = .ok (.istore_n 2, 1) := by decide +kernel
theorem dX6_copyFrom_18 : decode cX6_copyFrom 18 = .ok (.iload_n 2, 1) := by decide +kernel
theorem dX6_copyFrom_19 : decode cX6_copyFrom 19 = .ok (.aload_n 0, 1) := by decide +kernel
theorem dX6_copyFrom_20 : decode cX6_copyFrom 20 = .ok (.getfield 18, 3) := by decide +kernel
theorem dX6_copyFrom_23 : decode cX6_copyFrom 23 = .ok (.if_icmp .ge 33, 3) := by decide +kernel
theorem dX6_copyFrom_26 : decode cX6_copyFrom 26 = .ok (.iload_n 2, 1) := by decide +kernel
theorem dX6_copyFrom_27 : decode cX6_copyFrom 27 = .ok (.aload_n 0, 1) := by decide +kernel
theorem dX6_copyFrom_28 : decode cX6_copyFrom 28 = .ok (.getfield 11, 3) := by decide +kernel
theorem dX6_copyFrom_31 : decode cX6_copyFrom 31 = .ok (.arraylength, 1) := by decide +kernel
theorem dX6_copyFrom_32 : decode cX6_copyFrom 32 = .ok (.if_icmp .ge 24, 3) := by decide +kernel
theorem dX6_copyFrom_35 : decode cX6_copyFrom 35 = .ok (.aload_n 0, 1) := by decide +kernel
theorem dX6_copyFrom_36 : decode cX6_copyFrom 36 = .ok (.getfield 11, 3) := by decide +kernel
theorem dX6_copyFrom_39 : decode cX6_copyFrom 39 = .ok (.iload_n 2, 1) := by decide +kernel
theorem dX6_copyFrom_40 : decode cX6_copyFrom 40 = .ok (.aaload, 1) := by decide +kernel
theorem dX6_copyFrom_41 : decode cX6_copyFrom 41 = .ok (.aload_n 1, 1) := by decide +kernel
theorem dX6_copyFrom_42 : decode cX6_copyFrom 42 = .ok (.getfield 11, 3) := by decide +kernel
theorem dX6_copyFrom_45 : decode cX6_copyFrom 45 = .ok (.iload_n 2, 1) := by decide +kernel
theorem dX6_copyFrom_46 : decode cX6_copyFrom 46 = .ok (.aaload, 1) := by decide +kernel
theorem dX6_copyFrom_47 : decode cX6_copyFrom 47 = .ok (.invokevirtual 25, 3) := by decide +kernel
theorem dX6_copyFrom_50 : decode cX6_copyFrom 50 = .ok (.iinc 2 1, 3) := by decide +kernel
theorem dX6_copyFrom_53 : decode cX6_copyFrom 53 = .ok (.goto (-35), 3) := by decide +kernel
theorem dX6_copyFrom_56 : decode cX6_copyFrom 56 = .ok (.return_, 1) := by decide +kernel
theorem dX6_letAllCome_0 : decode cX6_letAllCome 0 = .ok (.aload_n 0, 1) := by decide +kernel
theorem dX6_letAllCome_1 : decode cX6_letAllCome 1 = .ok (.iconst 0, 1) := by decide +kernel
theorem dX6_letAllCome_2 : decode cX6_letAllCome 2 = .ok (.putfield 22, 3) := by decide +kernel
theorem dX6_letAllCome_5 : decode cX6_letAllCome 5 = .ok (.iconst 0, 1) := by decide +kernel
theorem dX6_letAllCome_6 : decode cX6_letAllCome 6 = .ok (.istore_n 1, 1) := by decide +kernel
theorem dX6_letAllCome_7 : decode cX6_letAllCome 7 = .ok (.iload_n 1, 1) := by decide +kernel
theorem dX6_letAllCome_8 : decode cX6_letAllCome 8 = .ok (.aload_n 0, 1) := by decide +kernel
theorem dX6_letAllCome_9 : decode cX6_letAllCome 9 = .ok (.getfield 18, 3) := by decide +kernel
theorem dX6_letAllCome_12 : decode cX6_letAllCome 12 = .ok (.if_icmp .ge 28, 3) := by decide +kernel
theorem dX6_letAllCome_15 : decode cX6_letAllCome 15 = .ok (.iload_n 1, 1) := by decide +kernel
theorem dX6_letAllCome_16 : decode cX6_letAllCome 16 = .ok (.aload_n 0, 1) := by decide +kernel
theorem dX6_letAllCome_17 : decode cX6_letAllCome 17 = .ok (.getfield 11, 3) := by decide +kernel
theorem dX6_letAllCome_20 : decode cX6_letAllCome 20 = .ok (.arraylength, 1) := by decide +kernel
theorem dX6_letAllCome_21 : decode cX6_letAllCome 21 = .ok (.if_icmp .ge 19, 3) := by decide +kernel
theorem dX6_letAllCome_24 : decode cX6_letAllCome 24 = .ok (.aload_n 0, 1) := by decide +kernel
theorem dX6_letAllCome_25 : decode cX6_letAllCome 25 = .ok (.getfield 11, 3) := by decide +kernel
theorem dX6_letAllCome_28 : decode cX6_letAllCome 28 = .ok (.iload_n 1, 1) := by decide +kernel
theorem dX6_letAllCome_29 : decode cX6_letAllCome 29 = .ok (.aaload, 1) := by decide +kernel
theorem dX6_letAllCome_30 : decode cX6_letAllCome 30 = .ok (.iconst 0, 1) := by decide +kernel
theorem dX6_letAllCome_31 : decode cX6_letAllCome 31 = .ok (.putfield 29, 3) := by decide +kernel
theorem dX6_letAllCome_34 : decode cX6_letAllCome 34 = .ok (.iinc 1 1, 3) := by decide +kernel
theorem dX6_letAllCome_37 : decode cX6_letAllCome 37 = .ok (.goto (-30), 3) := by decide +kernel
theorem dX6_letAllCome_40 : decode cX6_letAllCome 40 = .ok (.return_, 1) := by decide +kernel
theorem dX6_cueAt_0 : decode cX6_cueAt 0 = .ok (.iload_n 1, 1) := by decide +kernel
theorem dX6_cueAt_1 : decode cX6_cueAt 1 = .ok (.ifCond .lt 20, 3) := by decide +kernel
theorem dX6_cueAt_4 : decode cX6_cueAt 4 = .ok (.iload_n 1, 1) := by decide +kernel
theorem dX6_cueAt_5 : decode cX6_cueAt 5 = .ok (.aload_n 0, 1) := by decide +kernel
theorem dX6_cueAt_6 : decode cX6_cueAt 6 = .ok (.getfield 18, 3) := by decide +kernel
theorem dX6_cueAt_9 : decode cX6_cueAt 9 = .ok (.if_icmp .ge 12, 3) := by decide +kernel
theorem dX6_cueAt_12 : decode cX6_cueAt 12 = .ok (.iload_n 1, 1) := by decide +kernel
theorem dX6_cueAt_13 : decode cX6_cueAt 13 = .ok (.aload_n 0, 1) := by decide +kernel
theorem dX6_cueAt_14 : decode cX6_cueAt 14 = .ok (.getfield 11, 3) := by decide +kernel
theorem dX6_cueAt_17 : decode cX6_cueAt 17 = .ok (.arraylength, 1) := by decide +kernel
theorem dX6_cueAt_18 : decode cX6_cueAt 18 = .ok (.if_icmp .lt 7, 3) := by decide +kernel
theorem dX6_cueAt_21 : decode cX6_cueAt 21 = .ok (.aconst_null, 1) := by decide +kernel
theorem dX6_cueAt_22 : decode cX6_cueAt 22 = .ok (.goto 9, 3) := by decide +kernel
theorem dX6_cueAt_25 : decode cX6_cueAt 25 = .ok (.aload_n 0, 1) := by decide +kernel
theorem dX6_cueAt_26 : decode cX6_cueAt 26 = .ok (.getfield 11, 3) := by decide +kernel
theorem dX6_cueAt_29 : decode cX6_cueAt 29 = .ok (.iload_n 1, 1) := by decide +kernel
theorem dX6_cueAt_30 : decode cX6_cueAt 30 = .ok (.aaload, 1) := by decide +kernel
theorem dX6_cueAt_31 : decode cX6_cueAt 31 = .ok (.areturn, 1) := by decide +kernel
theorem dX6_anyToCome_0 : decode cX6_anyToCome 0 = .ok (.aload_n 0, 1) := by decide +kernel
theorem dX6_anyToCome_1 : decode cX6_anyToCome 1 = .ok (.getfield 22, 3) := by decide +kernel
theorem dX6_anyToCome_4 : decode cX6_anyToCome 4 = .ok (.aload_n 0, 1) := by decide +kernel
theorem dX6_anyToCome_5 : decode cX6_anyToCome 5 = .ok (.getfield 18, 3) := by decide +kernel
theorem dX6_anyToCome_8 : decode cX6_anyToCome 8 = .ok (.if_icmp .ge 7, 3) := by decide +kernel
theorem dX6_anyToCome_11 : decode cX6_anyToCome 11 = .ok (.iconst 1, 1) := by decide +kernel
theorem dX6_anyToCome_12 : decode cX6_anyToCome 12 = .ok (.goto 4, 3) := by decide +kernel
theorem dX6_anyToCome_15 : decode cX6_anyToCome 15 = .ok (.iconst 0, 1) := by decide +kernel
theorem dX6_anyToCome_16 : decode cX6_anyToCome 16 = .ok (.ireturn, 1) := by decide +kernel
theorem dX6_insertCue_0 : decode cX6_insertCue 0 = .ok (.aload_n 0, 1) := by decide +kernel
theorem dX6_insertCue_1 : decode cX6_insertCue 1 = .ok (.getfield 18, 3) := by decide +kernel
theorem dX6_insertCue_4 : decode cX6_insertCue 4 = .ok (.ifCond .lt 15, 3) := by decide +kernel
theorem dX6_insertCue_7 : decode cX6_insertCue 7 = .ok (.aload_n 0, 1) := by decide +kernel
theorem dX6_insertCue_8 : decode cX6_insertCue 8 = .ok (.getfield 18, 3) := by decide +kernel
theorem dX6_insertCue_11 : decode cX6_insertCue 11 = .ok (.aload_n 0, 1) := by decide +kernel
theorem dX6_insertCue_12 : decode cX6_insertCue 12 = .ok (.getfield 11, 3) := by decide +kernel
theorem dX6_insertCue_15 : decode cX6_insertCue 15 = .ok (.arraylength, 1) := by decide +kernel
theorem dX6_insertCue_16 : decode cX6_insertCue 16 = .ok (.if_icmp .lt 6, 3) := by decide +kernel
theorem dX6_insertCue_19 : decode cX6_insertCue 19 = .ok (.bipush (-4), 2) := by decide +kernel
theorem dX6_insertCue_21 : decode cX6_insertCue 21 = .ok (.ireturn, 1) := by decide +kernel
theorem dX6_insertCue_22 : decode cX6_insertCue 22 = .ok (.aload_n 0, 1) := by decide +kernel
theorem dX6_insertCue_23 : decode cX6_insertCue 23 = .ok (.getfield 11, 3) := by decide +kernel
theorem dX6_insertCue_26 : decode cX6_insertCue 26 = .ok (.aload_n 0, 1) := by decide +kernel
theorem dX6_insertCue_27 : decode cX6_insertCue 27 = .ok (.getfield 18, 3) := by decide +kernel
theorem dX6_insertCue_30 : decode cX6_insertCue 30 = .ok (.aaload, 1) := by decide +kernel
theorem dX6_insertCue_31 : decode cX6_insertCue 31 = .ok (.astore 5, 2) := by decide +kernel
theorem dX6_insertCue_33 : decode cX6_insertCue 33 = .ok (.aload 5, 2) := by decide +kernel
theorem dX6_insertCue_35 : decode cX6_insertCue 35 = .ok (.iload_n 1, 1) := by decide +kernel
theorem dX6_insertCue_36 : decode cX6_insertCue 36 = .ok (.putfield 32, 3) := by decide +kernel
theorem dX6_insertCue_39 : decode cX6_insertCue 39 = .ok (.aload 5, 2) := by decide +kernel
theorem dX6_insertCue_41 : decode cX6_insertCue 41 = .ok (.iload_n 2, 1) := by decide +kernel
theorem dX6_insertCue_42 : decode cX6_insertCue 42 = .ok (.putfield 35, 3) := by decide +kernel
theorem dX6_insertCue_45 : decode cX6_insertCue 45 = .ok (.aload 5, 2) := by decide +kernel
theorem dX6_insertCue_47 : decode cX6_insertCue 47 = .ok (.iload_n 3, 1) := by decide +kernel
theorem dX6_insertCue_48 : decode cX6_insertCue 48 = .ok (.putfield 38, 3) := by decide +kernel
theorem dX6_insertCue_51 : decode cX6_insertCue 51 = .ok (.aload 5, 2) := by decide +kernel
theorem dX6_insertCue_53 : decode cX6_insertCue 53 = .ok (.iload 4, 2) := by decide +kernel
theorem dX6_insertCue_55 : decode cX6_insertCue 55 = .ok (.putfield 41, 3) := by decide +kernel
theorem dX6_insertCue_58 : decode cX6_insertCue 58 = .ok (.aload 5, 2) := by decide +kernel
theorem dX6_insertCue_60 : decode cX6_insertCue 60 = .ok (.iconst 0, 1) := by decide +kernel
theorem dX6_insertCue_61 : decode cX6_insertCue 61 = .ok (.putfield 29, 3) := by decide +kernel
theorem dX6_insertCue_64 : decode cX6_insertCue 64 = .ok (.aload_n 0, 1) := by decide +kernel
theorem dX6_insertCue_65 : decode cX6_insertCue 65 = .ok (.dup, 1) := by decide +kernel
theorem dX6_insertCue_66 : decode cX6_insertCue 66 = .ok (.getfield 18, 3) := by decide +kernel
theorem dX6_insertCue_69 : decode cX6_insertCue 69 = .ok (.iconst 1, 1) := by decide +kernel
theorem dX6_insertCue_70 : decode cX6_insertCue 70 = .ok (.iadd, 1) := by decide +kernel
theorem dX6_insertCue_71 : decode cX6_insertCue 71 = .ok (.putfield 18, 3) := by decide +kernel
theorem dX6_insertCue_74 : decode cX6_insertCue 74 = .ok (.aload_n 0, 1) := by decide +kernel
theorem dX6_insertCue_75 : decode cX6_insertCue 75 = .ok (.invokevirtual 44, 3) := by decide +kernel
theorem dX6_insertCue_78 : decode cX6_insertCue 78 = .ok (.ireturn, 1) := by decide +kernel
theorem dX6_removeCue_0 : decode cX6_removeCue 0 = .ok (.aload_n 0, 1) := by decide +kernel
theorem dX6_removeCue_1 : decode cX6_removeCue 1 = .ok (.iload_n 1, 1) := by decide +kernel
theorem dX6_removeCue_2 : decode cX6_removeCue 2 = .ok (.invokevirtual 48, 3) := by decide +kernel
theorem dX6_removeCue_5 : decode cX6_removeCue 5 = .ok (.astore_n 2, 1) := by decide +kernel
theorem dX6_removeCue_6 : decode cX6_removeCue 6 = .ok (.aload_n 2, 1) := by decide +kernel
theorem dX6_removeCue_7 : decode cX6_removeCue 7 = .ok (.ifnonnull 5, 3) := by decide +kernel
theorem dX6_removeCue_10 : decode cX6_removeCue 10 = .ok (.iconst (-1), 1) := by decide +kernel
theorem dX6_removeCue_11 : decode cX6_removeCue 11 = .ok (.ireturn, 1) := by decide +kernel
theorem dX6_removeCue_12 : decode cX6_removeCue 12 = .ok (.aload_n 2, 1) := by decide +kernel
theorem dX6_removeCue_13 : decode cX6_removeCue 13 = .ok (.getfield 29, 3) := by decide +kernel
theorem dX6_removeCue_16 : decode cX6_removeCue 16 = .ok (.ifCond .eq 6, 3) := by decide +kernel
theorem dX6_removeCue_19 : decode cX6_removeCue 19 = .ok (.bipush (-5), 2) := by decide +kernel
theorem dX6_removeCue_21 : decode cX6_removeCue 21 = .ok (.ireturn, 1) := by decide +kernel
theorem dX6_removeCue_22 : decode cX6_removeCue 22 = .ok (.aload_n 0, 1) := by decide +kernel
theorem dX6_removeCue_23 : decode cX6_removeCue 23 = .ok (.iload_n 1, 1) := by decide +kernel
theorem dX6_removeCue_24 : decode cX6_removeCue 24 = .ok (.invokevirtual 52, 3) := by decide +kernel
theorem dX6_removeCue_27 : decode cX6_removeCue 27 = .ok (.aload_n 0, 1) := by decide +kernel
theorem dX6_removeCue_28 : decode cX6_removeCue 28 = .ok (.dup, 1) := by decide +kernel
theorem dX6_removeCue_29 : decode cX6_removeCue 29 = .ok (.getfield 18, 3) := by decide +kernel
theorem dX6_removeCue_32 : decode cX6_removeCue 32 = .ok (.iconst 1, 1) := by decide +kernel
theorem dX6_removeCue_33 : decode cX6_removeCue 33 = .ok (.isub, 1) := by decide +kernel
theorem dX6_removeCue_34 : decode cX6_removeCue 34 = .ok (.putfield 18, 3) := by decide +kernel
theorem dX6_removeCue_37 : decode cX6_removeCue 37 = .ok (.aload_n 0, 1) := by decide +kernel
theorem dX6_removeCue_38 : decode cX6_removeCue 38 = .ok (.getfield 18, 3) := by decide +kernel
theorem dX6_removeCue_41 : decode cX6_removeCue 41 = .ok (.ireturn, 1) := by decide +kernel
theorem dX6_makeLast_0 : decode cX6_makeLast 0 = .ok (.aload_n 0, 1) := by decide +kernel
theorem dX6_makeLast_1 : decode cX6_makeLast 1 = .ok (.iload_n 1, 1) := by decide +kernel
theorem dX6_makeLast_2 : decode cX6_makeLast 2 = .ok (.invokevirtual 48, 3) := by decide +kernel
theorem dX6_makeLast_5 : decode cX6_makeLast 5 = .ok (.astore_n 2, 1) := by decide +kernel
theorem dX6_makeLast_6 : decode cX6_makeLast 6 = .ok (.iconst 0, 1) := by decide +kernel
theorem dX6_makeLast_7 : decode cX6_makeLast 7 = .ok (.iload_n 1, 1) := by decide +kernel
theorem dX6_makeLast_8 : decode cX6_makeLast 8 = .ok (.invokestatic 56, 3) := by decide +kernel
theorem dX6_makeLast_11 : decode cX6_makeLast 11 = .ok (.iconst 1, 1) := by decide +kernel
theorem dX6_makeLast_12 : decode cX6_makeLast 12 = .ok (.iadd, 1) := by decide +kernel
theorem dX6_makeLast_13 : decode cX6_makeLast 13 = .ok (.istore_n 3, 1) := by decide +kernel
theorem dX6_makeLast_14 : decode cX6_makeLast 14 = .ok (.iload_n 3, 1) := by decide +kernel
theorem dX6_makeLast_15 : decode cX6_makeLast 15 = .ok (.aload_n 0, 1) := by decide +kernel
theorem dX6_makeLast_16 : decode cX6_makeLast 16 = .ok (.getfield 18, 3) := by decide +kernel
theorem dX6_makeLast_19 : decode cX6_makeLast 19 = .ok (.if_icmp .ge 39, 3) := by decide +kernel
theorem dX6_makeLast_22 : decode cX6_makeLast 22 = .ok (.iload_n 3, 1) := by decide +kernel
theorem dX6_makeLast_23 : decode cX6_makeLast 23 = .ok (.aload_n 0, 1) := by decide +kernel
theorem dX6_makeLast_24 : decode cX6_makeLast 24 = .ok (.getfield 11, 3) := by decide +kernel
theorem dX6_makeLast_27 : decode cX6_makeLast 27 = .ok (.arraylength, 1) := by decide +kernel
theorem dX6_makeLast_28 : decode cX6_makeLast 28 = .ok (.if_icmp .ge 30, 3) := by decide +kernel
theorem dX6_makeLast_31 : decode cX6_makeLast 31 = .ok (.aload_n 0, 1) := by decide +kernel
theorem dX6_makeLast_32 : decode cX6_makeLast 32 = .ok (.getfield 11, 3) := by decide +kernel
theorem dX6_makeLast_35 : decode cX6_makeLast 35 = .ok (.iload_n 3, 1) := by decide +kernel
theorem dX6_makeLast_36 : decode cX6_makeLast 36 = .ok (.iconst 1, 1) := by decide +kernel
theorem dX6_makeLast_37 : decode cX6_makeLast 37 = .ok (.isub, 1) := by decide +kernel
theorem dX6_makeLast_38 : decode cX6_makeLast 38 = .ok (.aload_n 0, 1) := by decide +kernel
theorem dX6_makeLast_39 : decode cX6_makeLast 39 = .ok (.getfield 11, 3) := by decide +kernel
theorem dX6_makeLast_42 : decode cX6_makeLast 42 = .ok (.iload_n 3, 1) := by decide +kernel
theorem dX6_makeLast_43 : decode cX6_makeLast 43 = .ok (.aaload, 1) := by decide +kernel
theorem dX6_makeLast_44 : decode cX6_makeLast 44 = .ok (.aastore, 1) := by decide +kernel
theorem dX6_makeLast_45 : decode cX6_makeLast 45 = .ok (.aload_n 0, 1) := by decide +kernel
theorem dX6_makeLast_46 : decode cX6_makeLast 46 = .ok (.getfield 11, 3) := by decide +kernel
theorem dX6_makeLast_49 : decode cX6_makeLast 49 = .ok (.iload_n 3, 1) := by decide +kernel
theorem dX6_makeLast_50 : decode cX6_makeLast 50 = .ok (.aload_n 2, 1) := by decide +kernel
theorem dX6_makeLast_51 : decode cX6_makeLast 51 = .ok (.aastore, 1) := by decide +kernel
theorem dX6_makeLast_52 : decode cX6_makeLast 52 = .ok (.iinc 3 1, 3) := by decide +kernel
theorem dX6_makeLast_55 : decode cX6_makeLast 55 = .ok (.goto (-41), 3) := by decide +kernel
theorem dX6_makeLast_58 : decode cX6_makeLast 58 = .ok (.return_, 1) := by decide +kernel
theorem dX6_sortLast_0 : decode cX6_sortLast 0 = .ok (.aload_n 0, 1) := by decide +kernel
theorem dX6_sortLast_1 : decode cX6_sortLast 1 = .ok (.getfield 18, 3) := by decide +kernel
theorem dX6_sortLast_4 : decode cX6_sortLast 4 = .ok (.iconst 1, 1) := by decide +kernel
theorem dX6_sortLast_5 : decode cX6_sortLast 5 = .ok (.isub, 1) := by decide +kernel
theorem dX6_sortLast_6 : decode cX6_sortLast 6 = .ok (.istore_n 1, 1) := by decide +kernel
theorem dX6_sortLast_7 : decode cX6_sortLast 7 = .ok (.aload_n 0, 1) := by decide +kernel
theorem dX6_sortLast_8 : decode cX6_sortLast 8 = .ok (.iload_n 1, 1) := by decide +kernel
theorem dX6_sortLast_9 : decode cX6_sortLast 9 = .ok (.invokevirtual 48, 3) := by decide +kernel
theorem dX6_sortLast_12 : decode cX6_sortLast 12 = .ok (.astore_n 2, 1) := by decide +kernel
theorem dX6_sortLast_13 : decode cX6_sortLast 13 = .ok (.aload_n 2, 1) := by decide +kernel
theorem dX6_sortLast_14 : decode cX6_sortLast 14 = .ok (.ifnonnull 5, 3) := by decide +kernel
theorem dX6_sortLast_17 : decode cX6_sortLast 17 = .ok (.iconst (-1), 1) := by decide +kernel
theorem dX6_sortLast_18 : decode cX6_sortLast 18 = .ok (.ireturn, 1) := by decide +kernel
theorem dX6_sortLast_19 : decode cX6_sortLast 19 = .ok (.iload_n 1, 1) := by decide +kernel
theorem dX6_sortLast_20 : decode cX6_sortLast 20 = .ok (.ifCond .le 41, 3) := by decide +kernel
theorem dX6_sortLast_23 : decode cX6_sortLast 23 = .ok (.aload_n 0, 1) := by decide +kernel
theorem dX6_sortLast_24 : decode cX6_sortLast 24 = .ok (.getfield 11, 3) := by decide +kernel
theorem dX6_sortLast_27 : decode cX6_sortLast 27 = .ok (.iload_n 1, 1) := by decide +kernel
theorem dX6_sortLast_28 : decode cX6_sortLast 28 = .ok (.iconst 1, 1) := by decide +kernel
theorem dX6_sortLast_29 : decode cX6_sortLast 29 = .ok (.isub, 1) := by decide +kernel
theorem dX6_sortLast_30 : decode cX6_sortLast 30 = .ok (.aaload, 1) := by decide +kernel
theorem dX6_sortLast_31 : decode cX6_sortLast 31 = .ok (.getfield 32, 3) := by decide +kernel
theorem dX6_sortLast_34 : decode cX6_sortLast 34 = .ok (.aload_n 2, 1) := by decide +kernel
theorem dX6_sortLast_35 : decode cX6_sortLast 35 = .ok (.getfield 32, 3) := by decide +kernel
theorem dX6_sortLast_38 : decode cX6_sortLast 38 = .ok (.if_icmp .le 23, 3) := by decide +kernel
theorem dX6_sortLast_41 : decode cX6_sortLast 41 = .ok (.aload_n 0, 1) := by decide +kernel
theorem dX6_sortLast_42 : decode cX6_sortLast 42 = .ok (.getfield 11, 3) := by decide +kernel
theorem dX6_sortLast_45 : decode cX6_sortLast 45 = .ok (.iload_n 1, 1) := by decide +kernel
theorem dX6_sortLast_46 : decode cX6_sortLast 46 = .ok (.aload_n 0, 1) := by decide +kernel
theorem dX6_sortLast_47 : decode cX6_sortLast 47 = .ok (.getfield 11, 3) := by decide +kernel
theorem dX6_sortLast_50 : decode cX6_sortLast 50 = .ok (.iload_n 1, 1) := by decide +kernel
theorem dX6_sortLast_51 : decode cX6_sortLast 51 = .ok (.iconst 1, 1) := by decide +kernel
theorem dX6_sortLast_52 : decode cX6_sortLast 52 = .ok (.isub, 1) := by decide +kernel
theorem dX6_sortLast_53 : decode cX6_sortLast 53 = .ok (.aaload, 1) := by decide +kernel
theorem dX6_sortLast_54 : decode cX6_sortLast 54 = .ok (.aastore, 1) := by decide +kernel
theorem dX6_sortLast_55 : decode cX6_sortLast 55 = .ok (.iinc 1 (-1), 3) := by decide +kernel
theorem dX6_sortLast_58 : decode cX6_sortLast 58 = .ok (.goto (-39), 3) := by decide +kernel
theorem dX6_sortLast_61 : decode cX6_sortLast 61 = .ok (.aload_n 0, 1) := by decide +kernel
theorem dX6_sortLast_62 : decode cX6_sortLast 62 = .ok (.getfield 11, 3) := by decide +kernel
theorem dX6_sortLast_65 : decode cX6_sortLast 65 = .ok (.iload_n 1, 1) := by decide +kernel
theorem dX6_sortLast_66 : decode cX6_sortLast 66 = .ok (.aload_n 2, 1) := by decide +kernel
theorem dX6_sortLast_67 : decode cX6_sortLast 67 = .ok (.aastore, 1) := by decide +kernel
theorem dX6_sortLast_68 : decode cX6_sortLast 68 = .ok (.iload_n 1, 1) := by decide +kernel
theorem dX6_sortLast_69 : decode cX6_sortLast 69 = .ok (.ireturn, 1) := by decide +kernel
theorem dX6_nextFor_0 : decode cX6_nextFor 0 = .ok (.iconst 0, 1) := by decide +kernel
theorem dX6_nextFor_1 : decode cX6_nextFor 1 = .ok (.aload_n 0, 1) := by decide +kernel
theorem dX6_nextFor_2 : decode cX6_nextFor 2 = .ok (.getfield 22, 3) := by decide +kernel
theorem dX6_nextFor_5 : decode cX6_nextFor 5 = .ok (.invokestatic 56, 3) := by decide +kernel
theorem dX6_nextFor_8 : decode cX6_nextFor 8 = .ok (.istore_n 2, 1) := by decide +kernel
theorem dX6_nextFor_9 : decode cX6_nextFor 9 = .ok (.iload_n 2, 1) := by decide +kernel
theorem dX6_nextFor_10 : decode cX6_nextFor 10 = .ok (.aload_n 0, 1) := by decide +kernel
theorem dX6_nextFor_11 : decode cX6_nextFor 11 = .ok (.getfield 18, 3) := by decide +kernel
theorem dX6_nextFor_14 : decode cX6_nextFor 14 = .ok (.if_icmp .ge 45, 3) := by decide +kernel
theorem dX6_nextFor_17 : decode cX6_nextFor 17 = .ok (.iload_n 2, 1) := by decide +kernel
theorem dX6_nextFor_18 : decode cX6_nextFor 18 = .ok (.aload_n 0, 1) := by decide +kernel
theorem dX6_nextFor_19 : decode cX6_nextFor 19 = .ok (.getfield 11, 3) := by decide +kernel
theorem dX6_nextFor_22 : decode cX6_nextFor 22 = .ok (.arraylength, 1) := by decide +kernel
theorem dX6_nextFor_23 : decode cX6_nextFor 23 = .ok (.if_icmp .ge 36, 3) := by decide +kernel
theorem dX6_nextFor_26 : decode cX6_nextFor 26 = .ok (.aload_n 0, 1) := by decide +kernel
theorem dX6_nextFor_27 : decode cX6_nextFor 27 = .ok (.getfield 11, 3) := by decide +kernel
theorem dX6_nextFor_30 : decode cX6_nextFor 30 = .ok (.iload_n 2, 1) := by decide +kernel
theorem dX6_nextFor_31 : decode cX6_nextFor 31 = .ok (.aaload, 1) := by decide +kernel
theorem dX6_nextFor_32 : decode cX6_nextFor 32 = .ok (.getfield 35, 3) := by decide +kernel
theorem dX6_nextFor_35 : decode cX6_nextFor 35 = .ok (.ifCond .ne 18, 3) := by decide +kernel
theorem dX6_nextFor_38 : decode cX6_nextFor 38 = .ok (.aload_n 0, 1) := by decide +kernel
theorem dX6_nextFor_39 : decode cX6_nextFor 39 = .ok (.getfield 11, 3) := by decide +kernel
theorem dX6_nextFor_42 : decode cX6_nextFor 42 = .ok (.iload_n 2, 1) := by decide +kernel
theorem dX6_nextFor_43 : decode cX6_nextFor 43 = .ok (.aaload, 1) := by decide +kernel
theorem dX6_nextFor_44 : decode cX6_nextFor 44 = .ok (.getfield 38, 3) := by decide +kernel
theorem dX6_nextFor_47 : decode cX6_nextFor 47 = .ok (.iload_n 1, 1) := by decide +kernel
theorem dX6_nextFor_48 : decode cX6_nextFor 48 = .ok (.if_icmp .ne 5, 3) := by decide +kernel
theorem dX6_nextFor_51 : decode cX6_nextFor 51 = .ok (.iload_n 2, 1) := by decide +kernel
theorem dX6_nextFor_52 : decode cX6_nextFor 52 = .ok (.ireturn, 1) := by decide +kernel
theorem dX6_nextFor_53 : decode cX6_nextFor 53 = .ok (.iinc 2 1, 3) := by decide +kernel
theorem dX6_nextFor_56 : decode cX6_nextFor 56 = .ok (.goto (-47), 3) := by decide +kernel
theorem dX6_nextFor_59 : decode cX6_nextFor 59 = .ok (.bipush (-6), 2) := by decide +kernel
theorem dX6_nextFor_61 : decode cX6_nextFor 61 = .ok (.ireturn, 1) := by decide +kernel
theorem dX6_countOf_0 : decode cX6_countOf 0 = .ok (.iconst 0, 1) := by decide +kernel
theorem dX6_countOf_1 : decode cX6_countOf 1 = .ok (.istore_n 2, 1) := by decide +kernel
theorem dX6_countOf_2 : decode cX6_countOf 2 = .ok (.iconst 0, 1) := by decide +kernel
theorem dX6_countOf_3 : decode cX6_countOf 3 = .ok (.istore_n 3, 1) := by decide +kernel
theorem dX6_countOf_4 : decode cX6_countOf 4 = .ok (.iload_n 3, 1) := by decide +kernel
theorem dX6_countOf_5 : decode cX6_countOf 5 = .ok (.aload_n 0, 1) := by decide +kernel
theorem dX6_countOf_6 : decode cX6_countOf 6 = .ok (.getfield 18, 3) := by decide +kernel
theorem dX6_countOf_9 : decode cX6_countOf 9 = .ok (.if_icmp .ge 34, 3) := by decide +kernel
theorem dX6_countOf_12 : decode cX6_countOf 12 = .ok (.iload_n 3, 1) := by decide +kernel
theorem dX6_countOf_13 : decode cX6_countOf 13 = .ok (.aload_n 0, 1) := by decide +kernel
theorem dX6_countOf_14 : decode cX6_countOf 14 = .ok (.getfield 11, 3) := by decide +kernel
theorem dX6_countOf_17 : decode cX6_countOf 17 = .ok (.arraylength, 1) := by decide +kernel
theorem dX6_countOf_18 : decode cX6_countOf 18 = .ok (.if_icmp .ge 25, 3) := by decide +kernel
theorem dX6_countOf_21 : decode cX6_countOf 21 = .ok (.aload_n 0, 1) := by decide +kernel
theorem dX6_countOf_22 : decode cX6_countOf 22 = .ok (.getfield 11, 3) := by decide +kernel
theorem dX6_countOf_25 : decode cX6_countOf 25 = .ok (.iload_n 3, 1) := by decide +kernel
theorem dX6_countOf_26 : decode cX6_countOf 26 = .ok (.aaload, 1) := by decide +kernel
theorem dX6_countOf_27 : decode cX6_countOf 27 = .ok (.getfield 29, 3) := by decide +kernel
theorem dX6_countOf_30 : decode cX6_countOf 30 = .ok (.iload_n 1, 1) := by decide +kernel
theorem dX6_countOf_31 : decode cX6_countOf 31 = .ok (.if_icmp .ne 6, 3) := by decide +kernel
theorem dX6_countOf_34 : decode cX6_countOf 34 = .ok (.iinc 2 1, 3) := by decide +kernel
theorem dX6_countOf_37 : decode cX6_countOf 37 = .ok (.iinc 3 1, 3) := by decide +kernel
theorem dX6_countOf_40 : decode cX6_countOf 40 = .ok (.goto (-36), 3) := by decide +kernel
theorem dX6_countOf_43 : decode cX6_countOf 43 = .ok (.iload_n 2, 1) := by decide +kernel
theorem dX6_countOf_44 : decode cX6_countOf 44 = .ok (.ireturn, 1) := by decide +kernel
theorem dX6_missedCues_0 : decode cX6_missedCues 0 = .ok (.aload_n 0, 1) := by decide +kernel
theorem dX6_missedCues_1 : decode cX6_missedCues 1 = .ok (.iconst 2, 1) := by decide +kernel
theorem dX6_missedCues_2 : decode cX6_missedCues 2 = .ok (.invokevirtual 62, 3) := by decide +kernel
theorem dX6_missedCues_5 : decode cX6_missedCues 5 = .ok (.aload_n 0, 1) := by decide +kernel
theorem dX6_missedCues_6 : decode cX6_missedCues 6 = .ok (.iconst 3, 1) := by decide +kernel
theorem dX6_missedCues_7 : decode cX6_missedCues 7 = .ok (.invokevirtual 62, 3) := by decide +kernel
theorem dX6_missedCues_10 : decode cX6_missedCues 10 = .ok (.iadd, 1) := by decide +kernel
theorem dX6_missedCues_11 : decode cX6_missedCues 11 = .ok (.ireturn, 1) := by decide +kernel
theorem dX7_init_0 : decode cX7_init 0 = .ok (.aload_n 0, 1) := by decide +kernel
theorem dX7_init_1 : decode cX7_init 1 = .ok (.invokespecial 1, 3) := by decide +kernel
theorem dX7_init_4 : decode cX7_init 4 = .ok (.return_, 1) := by decide +kernel
theorem dX7_copyFrom_0 : decode cX7_copyFrom 0 = .ok (.aload_n 0, 1) := by decide +kernel
theorem dX7_copyFrom_1 : decode cX7_copyFrom 1 = .ok (.aload_n 1, 1) := by decide +kernel
theorem dX7_copyFrom_2 : decode cX7_copyFrom 2 = .ok (.getfield 7, 3) := by decide +kernel
theorem dX7_copyFrom_5 : decode cX7_copyFrom 5 = .ok (.putfield 7, 3) := by decide +kernel
theorem dX7_copyFrom_8 : decode cX7_copyFrom 8 = .ok (.aload_n 0, 1) := by decide +kernel
theorem dX7_copyFrom_9 : decode cX7_copyFrom 9 = .ok (.aload_n 1, 1) := by decide +kernel
theorem dX7_copyFrom_10 : decode cX7_copyFrom 10 = .ok (.getfield 13, 3) := by decide +kernel
theorem dX7_copyFrom_13 : decode cX7_copyFrom 13 = .ok (.putfield 13, 3) := by decide +kernel
theorem dX7_copyFrom_16 : decode cX7_copyFrom 16 = .ok (.aload_n 0, 1) := by decide +kernel
theorem dX7_copyFrom_17 : decode cX7_copyFrom 17 = .ok (.aload_n 1, 1) := by decide +kernel
theorem dX7_copyFrom_18 : decode cX7_copyFrom 18 = .ok (.getfield 16, 3) := by decide +kernel
theorem dX7_copyFrom_21 : decode cX7_copyFrom 21 = .ok (.putfield 16, 3) := by decide +kernel
theorem dX7_copyFrom_24 : decode cX7_copyFrom 24 = .ok (.aload_n 0, 1) := by decide +kernel
theorem dX7_copyFrom_25 : decode cX7_copyFrom 25 = .ok (.aload_n 1, 1) := by decide +kernel
theorem dX7_copyFrom_26 : decode cX7_copyFrom 26 = .ok (.getfield 19, 3) := by decide +kernel
theorem dX7_copyFrom_29 : decode cX7_copyFrom 29 = .ok (.putfield 19, 3) := by decide +kernel
theorem dX7_copyFrom_32 : decode cX7_copyFrom 32 = .ok (.return_, 1) := by decide +kernel
theorem dX8_init_0 : decode cX8_init 0 = .ok (.aload_n 0, 1) := by decide +kernel
theorem dX8_init_1 : decode cX8_init 1 = .ok (.invokespecial 1, 3) := by decide +kernel
theorem dX8_init_4 : decode cX8_init 4 = .ok (.aload_n 0, 1) := by decide +kernel
theorem dX8_init_5 : decode cX8_init 5 = .ok (.new 7, 3) := by decide +kernel
theorem dX8_init_8 : decode cX8_init 8 = .ok (.dup, 1) := by decide +kernel
theorem dX8_init_9 : decode cX8_init 9 = .ok (.invokespecial 9, 3) := by decide +kernel
theorem dX8_init_12 : decode cX8_init 12 = .ok (.putfield 10, 3) := by decide +kernel
theorem dX8_init_15 : decode cX8_init 15 = .ok (.aload_n 0, 1) := by decide +kernel
theorem dX8_init_16 : decode cX8_init 16 = .ok (.new 7, 3) := by decide +kernel
theorem dX8_init_19 : decode cX8_init 19 = .ok (.dup, 1) := by decide +kernel
theorem dX8_init_20 : decode cX8_init 20 = .ok (.invokespecial 9, 3) := by decide +kernel
theorem dX8_init_23 : decode cX8_init 23 = .ok (.putfield 16, 3) := by decide +kernel
theorem dX8_init_26 : decode cX8_init 26 = .ok (.aload_n 0, 1) := by decide +kernel
theorem dX8_init_27 : decode cX8_init 27 = .ok (.bipush 7, 2) := by decide +kernel
theorem dX8_init_29 : decode cX8_init 29 = .ok (.anewarray 7, 3) := by decide +kernel
theorem dX8_init_32 : decode cX8_init 32 = .ok (.putfield 19, 3) := by decide +kernel
theorem dX8_init_35 : decode cX8_init 35 = .ok (.aload_n 0, 1) := by decide +kernel
theorem dX8_init_36 : decode cX8_init 36 = .ok (.iconst 2, 1) := by decide +kernel
theorem dX8_init_37 : decode cX8_init 37 = .ok (.anewarray 7, 3) := by decide +kernel
theorem dX8_init_40 : decode cX8_init 40 = .ok (.putfield 23, 3) := by decide +kernel
theorem dX8_init_43 : decode cX8_init 43 = .ok (.aload_n 0, 1) := by decide +kernel
theorem dX8_init_44 : decode cX8_init 44 = .ok (.iconst 2, 1) := by decide +kernel
theorem dX8_init_45 : decode cX8_init 45 = .ok (.newarray .boolean, 2) := by decide +kernel
theorem dX8_init_47 : decode cX8_init 47 = .ok (.putfield 26, 3) := by decide +kernel
theorem dX8_init_50 : decode cX8_init 50 = .ok (.aload_n 0, 1) := by decide +kernel
theorem dX8_init_51 : decode cX8_init 51 = .ok (.new 30, 3) := by decide +kernel
theorem dX8_init_54 : decode cX8_init 54 = .ok (.dup, 1) := by decide +kernel
theorem dX8_init_55 : decode cX8_init 55 = .ok (.invokespecial 32, 3) := by decide +kernel
theorem dX8_init_58 : decode cX8_init 58 = .ok (.putfield 33, 3) := by decide +kernel
theorem dX8_init_61 : decode cX8_init 61 = .ok (.iconst 0, 1) := by decide +kernel
theorem dX8_init_62 : decode cX8_init 62 = .ok (.istore_n 1, 1) := by decide +kernel
theorem dX8_init_63 : decode cX8_init 63 = .ok (.iload_n 1, 1) := by decide +kernel
theorem dX8_init_64 : decode cX8_init 64 = .ok (.aload_n 0, 1) := by decide +kernel
theorem dX8_init_65 : decode cX8_init 65 = .ok (.getfield 19, 3) := by decide +kernel
theorem dX8_init_68 : decode cX8_init 68 = .ok (.arraylength, 1) := by decide +kernel
theorem dX8_init_69 : decode cX8_init 69 = .ok (.if_icmp .ge 22, 3) := by decide +kernel
theorem dX8_init_72 : decode cX8_init 72 = .ok (.aload_n 0, 1) := by decide +kernel
theorem dX8_init_73 : decode cX8_init 73 = .ok (.getfield 19, 3) := by decide +kernel
theorem dX8_init_76 : decode cX8_init 76 = .ok (.iload_n 1, 1) := by decide +kernel
theorem dX8_init_77 : decode cX8_init 77 = .ok (.new 7, 3) := by decide +kernel
theorem dX8_init_80 : decode cX8_init 80 = .ok (.dup, 1) := by decide +kernel
theorem dX8_init_81 : decode cX8_init 81 = .ok (.invokespecial 9, 3) := by decide +kernel
theorem dX8_init_84 : decode cX8_init 84 = .ok (.aastore, 1) := by decide +kernel
theorem dX8_init_85 : decode cX8_init 85 = .ok (.iinc 1 1, 3) := by decide +kernel
theorem dX8_init_88 : decode cX8_init 88 = .ok (.goto (-25), 3) := by decide +kernel
theorem dX8_init_91 : decode cX8_init 91 = .ok (.iconst 0, 1) := by decide +kernel
theorem dX8_init_92 : decode cX8_init 92 = .ok (.istore_n 1, 1) := by decide +kernel
theorem dX8_init_93 : decode cX8_init 93 = .ok (.iload_n 1, 1) := by decide +kernel
theorem dX8_init_94 : decode cX8_init 94 = .ok (.aload_n 0, 1) := by decide +kernel
theorem dX8_init_95 : decode cX8_init 95 = .ok (.getfield 23, 3) := by decide +kernel
theorem dX8_init_98 : decode cX8_init 98 = .ok (.arraylength, 1) := by decide +kernel
theorem dX8_init_99 : decode cX8_init 99 = .ok (.if_icmp .ge 22, 3) := by decide +kernel
theorem dX8_init_102 : decode cX8_init 102 = .ok (.aload_n 0, 1) := by decide +kernel
theorem dX8_init_103 : decode cX8_init 103 = .ok (.getfield 23, 3) := by decide +kernel
theorem dX8_init_106 : decode cX8_init 106 = .ok (.iload_n 1, 1) := by decide +kernel
theorem dX8_init_107 : decode cX8_init 107 = .ok (.new 7, 3) := by decide +kernel
theorem dX8_init_110 : decode cX8_init 110 = .ok (.dup, 1) := by decide +kernel
theorem dX8_init_111 : decode cX8_init 111 = .ok (.invokespecial 9, 3) := by decide +kernel
theorem dX8_init_114 : decode cX8_init 114 = .ok (.aastore, 1) := by decide +kernel
theorem dX8_init_115 : decode cX8_init 115 = .ok (.iinc 1 1, 3) := by decide +kernel
theorem dX8_init_118 : decode cX8_init 118 = .ok (.goto (-25), 3) := by decide +kernel
theorem dX8_init_121 : decode cX8_init 121 = .ok (.return_, 1) := by decide +kernel
theorem dX8_set_0 : decode cX8_set 0 = .ok (.aload_n 0, 1) := by decide +kernel
theorem dX8_set_1 : decode cX8_set 1 = .ok (.invokevirtual 37, 3) := by decide +kernel
theorem dX8_set_4 : decode cX8_set 4 = .ok (.aload_n 0, 1) := by decide +kernel
theorem dX8_set_5 : decode cX8_set 5 = .ok (.aload_n 0, 1) := by decide +kernel
theorem dX8_set_6 : decode cX8_set 6 = .ok (.getfield 10, 3) := by decide +kernel
theorem dX8_set_9 : decode cX8_set 9 = .ok (.iload_n 1, 1) := by decide +kernel
theorem dX8_set_10 : decode cX8_set 10 = .ok (.iload_n 2, 1) := by decide +kernel
theorem dX8_set_11 : decode cX8_set 11 = .ok (.invokevirtual 40, 3) := by decide +kernel
theorem dX8_set_14 : decode cX8_set 14 = .ok (.invokevirtual 44, 3) := by decide +kernel
theorem dX8_set_17 : decode cX8_set 17 = .ok (.ireturn, 1) := by decide +kernel
theorem dX8_sound_0 : decode cX8_sound 0 = .ok (.aload_n 0, 1) := by decide +kernel
theorem dX8_sound_1 : decode cX8_sound 1 = .ok (.invokevirtual 37, 3) := by decide +kernel
theorem dX8_sound_4 : decode cX8_sound 4 = .ok (.aload_n 0, 1) := by decide +kernel
theorem dX8_sound_5 : decode cX8_sound 5 = .ok (.aload_n 0, 1) := by decide +kernel
theorem dX8_sound_6 : decode cX8_sound 6 = .ok (.getfield 10, 3) := by decide +kernel
theorem dX8_sound_9 : decode cX8_sound 9 = .ok (.iload_n 1, 1) := by decide +kernel
theorem dX8_sound_10 : decode cX8_sound 10 = .ok (.iload_n 2, 1) := by decide +kernel
theorem dX8_sound_11 : decode cX8_sound 11 = .ok (.iload_n 3, 1) := by decide +kernel
theorem dX8_sound_12 : decode cX8_sound 12 = .ok (.invokevirtual 48, 3) := by decide +kernel
theorem dX8_sound_15 : decode cX8_sound 15 = .ok (.invokevirtual 44, 3) := by decide +kernel
theorem dX8_sound_18 : decode cX8_sound 18 = .ok (.ireturn, 1) := by decide +kernel
theorem dX8_cue_0 : decode cX8_cue 0 = .ok (.aload_n 0, 1) := by decide +kernel
theorem dX8_cue_1 : decode cX8_cue 1 = .ok (.invokevirtual 37, 3) := by decide +kernel
theorem dX8_cue_4 : decode cX8_cue 4 = .ok (.aload_n 0, 1) := by decide +kernel
theorem dX8_cue_5 : decode cX8_cue 5 = .ok (.aload_n 0, 1) := by decide +kernel
theorem dX8_cue_6 : decode cX8_cue 6 = .ok (.getfield 10, 3) := by decide +kernel
theorem dX8_cue_9 : decode cX8_cue 9 = .ok (.iload_n 1, 1) := by decide +kernel
theorem dX8_cue_10 : decode cX8_cue 10 = .ok (.iload_n 2, 1) := by decide +kernel
theorem dX8_cue_11 : decode cX8_cue 11 = .ok (.iload_n 3, 1) := by decide +kernel
theorem dX8_cue_12 : decode cX8_cue 12 = .ok (.iload 4, 2) := by decide +kernel
theorem dX8_cue_14 : decode cX8_cue 14 = .ok (.invokevirtual 52, 3) := by decide +kernel
theorem dX8_cue_17 : decode cX8_cue 17 = .ok (.invokevirtual 44, 3) := by decide +kernel
theorem dX8_cue_20 : decode cX8_cue 20 = .ok (.ireturn, 1) := by decide +kernel
theorem dX8_takeOut_0 : decode cX8_takeOut 0 = .ok (.aload_n 0, 1) := by decide +kernel
theorem dX8_takeOut_1 : decode cX8_takeOut 1 = .ok (.invokevirtual 37, 3) := by decide +kernel
theorem dX8_takeOut_4 : decode cX8_takeOut 4 = .ok (.aload_n 0, 1) := by decide +kernel
theorem dX8_takeOut_5 : decode cX8_takeOut 5 = .ok (.aload_n 0, 1) := by decide +kernel
theorem dX8_takeOut_6 : decode cX8_takeOut 6 = .ok (.getfield 10, 3) := by decide +kernel
theorem dX8_takeOut_9 : decode cX8_takeOut 9 = .ok (.getfield 56, 3) := by decide +kernel
theorem dX8_takeOut_12 : decode cX8_takeOut 12 = .ok (.iload_n 1, 1) := by decide +kernel
theorem dX8_takeOut_13 : decode cX8_takeOut 13 = .ok (.invokevirtual 60, 3) := by decide +kernel
theorem dX8_takeOut_16 : decode cX8_takeOut 16 = .ok (.invokevirtual 44, 3) := by decide +kernel
theorem dX8_takeOut_19 : decode cX8_takeOut 19 = .ok (.ireturn, 1) := by decide +kernel
theorem dX8_move_0 : decode cX8_move 0 = .ok (.aload_n 0, 1) := by decide +kernel
theorem dX8_move_1 : decode cX8_move 1 = .ok (.invokevirtual 37, 3) := by decide +kernel
theorem dX8_move_4 : decode cX8_move 4 = .ok (.aload_n 0, 1) := by decide +kernel
theorem dX8_move_5 : decode cX8_move 5 = .ok (.aload_n 0, 1) := by decide +kernel
theorem dX8_move_6 : decode cX8_move 6 = .ok (.getfield 10, 3) := by decide +kernel
theorem dX8_move_9 : decode cX8_move 9 = .ok (.iload_n 1, 1) := by decide +kernel
theorem dX8_move_10 : decode cX8_move 10 = .ok (.iload_n 2, 1) := by decide +kernel
theorem dX8_move_11 : decode cX8_move 11 = .ok (.invokevirtual 65, 3) := by decide +kernel
theorem dX8_move_14 : decode cX8_move 14 = .ok (.invokevirtual 44, 3) := by decide +kernel
theorem dX8_move_17 : decode cX8_move 17 = .ok (.ireturn, 1) := by decide +kernel
theorem dX8_goal_0 : decode cX8_goal 0 = .ok (.aload_n 0, 1) := by decide +kernel
theorem dX8_goal_1 : decode cX8_goal 1 = .ok (.invokevirtual 37, 3) := by decide +kernel
theorem dX8_goal_4 : decode cX8_goal 4 = .ok (.aload_n 0, 1) := by decide +kernel
theorem dX8_goal_5 : decode cX8_goal 5 = .ok (.aload_n 0, 1) := by decide +kernel
theorem dX8_goal_6 : decode cX8_goal 6 = .ok (.getfield 10, 3) := by decide +kernel
theorem dX8_goal_9 : decode cX8_goal 9 = .ok (.iload_n 1, 1) := by decide +kernel
theorem dX8_goal_10 : decode cX8_goal 10 = .ok (.iload_n 2, 1) := by decide +kernel
theorem dX8_goal_11 : decode cX8_goal 11 = .ok (.invokevirtual 68, 3) := by decide +kernel
theorem dX8_goal_14 : decode cX8_goal 14 = .ok (.invokevirtual 44, 3) := by decide +kernel
theorem dX8_goal_17 : decode cX8_goal 17 = .ok (.ireturn, 1) := by decide +kernel
theorem dX8_begin_0 : decode cX8_begin 0 = .ok (.aload_n 0, 1) := by decide +kernel
theorem dX8_begin_1 : decode cX8_begin 1 = .ok (.invokevirtual 37, 3) := by decide +kernel
theorem dX8_begin_4 : decode cX8_begin 4 = .ok (.aload_n 0, 1) := by decide +kernel
theorem dX8_begin_5 : decode cX8_begin 5 = .ok (.aload_n 0, 1) := by decide +kernel
theorem dX8_begin_6 : decode cX8_begin 6 = .ok (.getfield 10, 3) := by decide +kernel
theorem dX8_begin_9 : decode cX8_begin 9 = .ok (.invokevirtual 71, 3) := by decide +kernel
theorem dX8_begin_12 : decode cX8_begin 12 = .ok (.invokevirtual 44, 3) := by decide +kernel
theorem dX8_begin_15 : decode cX8_begin 15 = .ok (.ireturn, 1) := by decide +kernel
theorem dX8_pass_0 : decode cX8_pass 0 = .ok (.aload_n 0, 1) := by decide +kernel
theorem dX8_pass_1 : decode cX8_pass 1 = .ok (.invokevirtual 37, 3) := by decide +kernel
theorem dX8_pass_4 : decode cX8_pass 4 = .ok (.aload_n 0, 1) := by decide +kernel
theorem dX8_pass_5 : decode cX8_pass 5 = .ok (.aload_n 0, 1) := by decide +kernel
theorem dX8_pass_6 : decode cX8_pass 6 = .ok (.getfield 10, 3) := by decide +kernel
theorem dX8_pass_9 : decode cX8_pass 9 = .ok (.iload_n 1, 1) := by decide +kernel
theorem dX8_pass_10 : decode cX8_pass 10 = .ok (.invokevirtual 75, 3) := by decide +kernel
theorem dX8_pass_13 : decode cX8_pass 13 = .ok (.invokevirtual 44, 3) := by decide +kernel
theorem dX8_pass_16 : decode cX8_pass 16 = .ok (.ireturn, 1) := by decide +kernel
theorem dX8_ofCue_0 : decode cX8_ofCue 0 = .ok (.aload_n 0, 1) := by decide +kernel
theorem dX8_ofCue_1 : decode cX8_ofCue 1 = .ok (.getfield 10, 3) := by decide +kernel
theorem dX8_ofCue_4 : decode cX8_ofCue 4 = .ok (.getfield 56, 3) := by decide +kernel
theorem dX8_ofCue_7 : decode cX8_ofCue 7 = .ok (.iload_n 1, 1) := by decide +kernel
theorem dX8_ofCue_8 : decode cX8_ofCue 8 = .ok (.invokevirtual 78, 3) := by decide +kernel
theorem dX8_ofCue_11 : decode cX8_ofCue 11 = .ok (.astore_n 3, 1) := by decide +kernel
theorem dX8_ofCue_12 : decode cX8_ofCue 12 = .ok (.aload_n 3, 1) := by decide +kernel
theorem dX8_ofCue_13 : decode cX8_ofCue 13 = .ok (.ifnonnull 5, 3) := by decide +kernel
theorem dX8_ofCue_16 : decode cX8_ofCue 16 = .ok (.iconst (-1), 1) := by decide +kernel
theorem dX8_ofCue_17 : decode cX8_ofCue 17 = .ok (.ireturn, 1) := by decide +kernel
theorem dX8_ofCue_18 : decode cX8_ofCue 18 = .ok (.iload_n 2, 1) := by decide +kernel
theorem dX8_ofCue_19 : decode cX8_ofCue 19 = .ok (.tableswitch 58 0 4 #[33, 38, 43, 48, 53], 33) := by decide +kernel
theorem dX8_ofCue_52 : decode cX8_ofCue 52 = .ok (.aload_n 3, 1) := by decide +kernel
theorem dX8_ofCue_53 : decode cX8_ofCue 53 = .ok (.getfield 82, 3) := by decide +kernel
theorem dX8_ofCue_56 : decode cX8_ofCue 56 = .ok (.ireturn, 1) := by decide +kernel
theorem dX8_ofCue_57 : decode cX8_ofCue 57 = .ok (.aload_n 3, 1) := by decide +kernel
theorem dX8_ofCue_58 : decode cX8_ofCue 58 = .ok (.getfield 88, 3) := by decide +kernel
theorem dX8_ofCue_61 : decode cX8_ofCue 61 = .ok (.ireturn, 1) := by decide +kernel
theorem dX8_ofCue_62 : decode cX8_ofCue 62 = .ok (.aload_n 3, 1) := by decide +kernel
theorem dX8_ofCue_63 : decode cX8_ofCue 63 = .ok (.getfield 91, 3) := by decide +kernel
theorem dX8_ofCue_66 : decode cX8_ofCue 66 = .ok (.ireturn, 1) := by decide +kernel
theorem dX8_ofCue_67 : decode cX8_ofCue 67 = .ok (.aload_n 3, 1) := by decide +kernel
theorem dX8_ofCue_68 : decode cX8_ofCue 68 = .ok (.getfield 94, 3) := by decide +kernel
theorem dX8_ofCue_71 : decode cX8_ofCue 71 = .ok (.ireturn, 1) := by decide +kernel
theorem dX8_ofCue_72 : decode cX8_ofCue 72 = .ok (.aload_n 3, 1) := by decide +kernel
theorem dX8_ofCue_73 : decode cX8_ofCue 73 = .ok (.getfield 97, 3) := by decide +kernel
theorem dX8_ofCue_76 : decode cX8_ofCue 76 = .ok (.ireturn, 1) := by decide +kernel
theorem dX8_ofCue_77 : decode cX8_ofCue 77 = .ok (.bipush (-2), 2) := by decide +kernel
theorem dX8_ofCue_79 : decode cX8_ofCue 79 = .ok (.ireturn, 1) := by decide +kernel
theorem dX8_ofReel_0 : decode cX8_ofReel 0 = .ok (.aload_n 0, 1) := by decide +kernel
theorem dX8_ofReel_1 : decode cX8_ofReel 1 = .ok (.getfield 10, 3) := by decide +kernel
theorem dX8_ofReel_4 : decode cX8_ofReel 4 = .ok (.iload_n 1, 1) := by decide +kernel
theorem dX8_ofReel_5 : decode cX8_ofReel 5 = .ok (.invokevirtual 100, 3) := by decide +kernel
theorem dX8_ofReel_8 : decode cX8_ofReel 8 = .ok (.astore_n 3, 1) := by decide +kernel
theorem dX8_ofReel_9 : decode cX8_ofReel 9 = .ok (.aload_n 3, 1) := by decide +kernel
theorem dX8_ofReel_10 : decode cX8_ofReel 10 = .ok (.ifnonnull 5, 3) := by decide +kernel
theorem dX8_ofReel_13 : decode cX8_ofReel 13 = .ok (.iconst (-1), 1) := by decide +kernel
theorem dX8_ofReel_14 : decode cX8_ofReel 14 = .ok (.ireturn, 1) := by decide +kernel
theorem dX8_ofReel_15 : decode cX8_ofReel 15 = .ok (.iload_n 2, 1) := by decide +kernel
theorem dX8_ofReel_16 : decode cX8_ofReel 16 = .ok (.tableswitch 77 0 5 #[40, 45, 50, 55, 60, 65], 40) := by decide +kernel
theorem dX8_ofReel_56 : decode cX8_ofReel 56 = .ok (.aload_n 3, 1) := by decide +kernel
theorem dX8_ofReel_57 : decode cX8_ofReel 57 = .ok (.getfield 104, 3) := by decide +kernel
theorem dX8_ofReel_60 : decode cX8_ofReel 60 = .ok (.ireturn, 1) := by decide +kernel
theorem dX8_ofReel_61 : decode cX8_ofReel 61 = .ok (.aload_n 3, 1) := by decide +kernel
theorem dX8_ofReel_62 : decode cX8_ofReel 62 = .ok (.getfield 109, 3) := by decide +kernel
theorem dX8_ofReel_65 : decode cX8_ofReel 65 = .ok (.ireturn, 1) := by decide +kernel
theorem dX8_ofReel_66 : decode cX8_ofReel 66 = .ok (.aload_n 3, 1) := by decide +kernel
theorem dX8_ofReel_67 : decode cX8_ofReel 67 = .ok (.getfield 112, 3) := by decide +kernel
theorem dX8_ofReel_70 : decode cX8_ofReel 70 = .ok (.ireturn, 1) := by decide +kernel
theorem dX8_ofReel_71 : decode cX8_ofReel 71 = .ok (.aload_n 3, 1) := by decide +kernel
theorem dX8_ofReel_72 : decode cX8_ofReel 72 = .ok (.getfield 115, 3) := by decide +kernel
theorem dX8_ofReel_75 : decode cX8_ofReel 75 = .ok (.ireturn, 1) := by decide +kernel
theorem dX8_ofReel_76 : decode cX8_ofReel 76 = .ok (.aload_n 3, 1) := by decide +kernel
theorem dX8_ofReel_77 : decode cX8_ofReel 77 = .ok (.invokevirtual 118, 3) := by decide +kernel
theorem dX8_ofReel_80 : decode cX8_ofReel 80 = .ok (.ireturn, 1) := by decide +kernel
theorem dX8_ofReel_81 : decode cX8_ofReel 81 = .ok (.aload_n 0, 1) := by decide +kernel
theorem dX8_ofReel_82 : decode cX8_ofReel 82 = .ok (.getfield 10, 3) := by decide +kernel
theorem dX8_ofReel_85 : decode cX8_ofReel 85 = .ok (.getfield 56, 3) := by decide +kernel
theorem dX8_ofReel_88 : decode cX8_ofReel 88 = .ok (.iload_n 1, 1) := by decide +kernel
theorem dX8_ofReel_89 : decode cX8_ofReel 89 = .ok (.invokevirtual 121, 3) := by decide +kernel
theorem dX8_ofReel_92 : decode cX8_ofReel 92 = .ok (.ireturn, 1) := by decide +kernel
theorem dX8_ofReel_93 : decode cX8_ofReel 93 = .ok (.bipush (-2), 2) := by decide +kernel
theorem dX8_ofReel_95 : decode cX8_ofReel 95 = .ok (.ireturn, 1) := by decide +kernel
theorem dX8_ofSound_0 : decode cX8_ofSound 0 = .ok (.aload_n 0, 1) := by decide +kernel
theorem dX8_ofSound_1 : decode cX8_ofSound 1 = .ok (.getfield 10, 3) := by decide +kernel
theorem dX8_ofSound_4 : decode cX8_ofSound 4 = .ok (.iload_n 1, 1) := by decide +kernel
theorem dX8_ofSound_5 : decode cX8_ofSound 5 = .ok (.iload_n 2, 1) := by decide +kernel
theorem dX8_ofSound_6 : decode cX8_ofSound 6 = .ok (.invokevirtual 124, 3) := by decide +kernel
theorem dX8_ofSound_9 : decode cX8_ofSound 9 = .ok (.astore 4, 2) := by decide +kernel
theorem dX8_ofSound_11 : decode cX8_ofSound 11 = .ok (.aload 4, 2) := by decide +kernel
theorem dX8_ofSound_13 : decode cX8_ofSound 13 = .ok (.ifnonnull 5, 3) := by decide +kernel
theorem dX8_ofSound_16 : decode cX8_ofSound 16 = .ok (.iconst (-1), 1) := by decide +kernel
theorem dX8_ofSound_17 : decode cX8_ofSound 17 = .ok (.ireturn, 1) := by decide +kernel
theorem dX8_ofSound_18 : decode cX8_ofSound 18 = .ok (.iload_n 3, 1) := by decide +kernel
theorem dX8_ofSound_19 : decode cX8_ofSound 19 = .ok (.tableswitch 53 0 3 #[29, 35, 41, 47], 29) := by decide +kernel
theorem dX8_ofSound_48 : decode cX8_ofSound 48 = .ok (.aload 4, 2) := by decide +kernel
theorem dX8_ofSound_50 : decode cX8_ofSound 50 = .ok (.getfield 128, 3) := by decide +kernel
theorem dX8_ofSound_53 : decode cX8_ofSound 53 = .ok (.ireturn, 1) := by decide +kernel
theorem dX8_ofSound_54 : decode cX8_ofSound 54 = .ok (.aload 4, 2) := by decide +kernel
theorem dX8_ofSound_56 : decode cX8_ofSound 56 = .ok (.getfield 133, 3) := by decide +kernel
theorem dX8_ofSound_59 : decode cX8_ofSound 59 = .ok (.ireturn, 1) := by decide +kernel
theorem dX8_ofSound_60 : decode cX8_ofSound 60 = .ok (.aload 4, 2) := by decide +kernel
theorem dX8_ofSound_62 : decode cX8_ofSound 62 = .ok (.getfield 136, 3) := by decide +kernel
theorem dX8_ofSound_65 : decode cX8_ofSound 65 = .ok (.ireturn, 1) := by decide +kernel
theorem dX8_ofSound_66 : decode cX8_ofSound 66 = .ok (.aload 4, 2) := by decide +kernel
theorem dX8_ofSound_68 : decode cX8_ofSound 68 = .ok (.getfield 139, 3) := by decide +kernel
theorem dX8_ofSound_71 : decode cX8_ofSound 71 = .ok (.ireturn, 1) := by decide +kernel
theorem dX8_ofSound_72 : decode cX8_ofSound 72 = .ok (.bipush (-2), 2) := by decide +kernel
theorem dX8_ofSound_74 : decode cX8_ofSound 74 = .ok (.ireturn, 1) := by decide +kernel
theorem dX8_played_0 : decode cX8_played 0 = .ok (.iload_n 1, 1) := by decide +kernel
theorem dX8_played_1 : decode cX8_played 1 = .ok (.ifCond .lt 26, 3) := by decide +kernel
theorem dX8_played_4 : decode cX8_played 4 = .ok (.iload_n 1, 1) := by decide +kernel
theorem dX8_played_5 : decode cX8_played 5 = .ok (.aload_n 0, 1) := by decide +kernel
theorem dX8_played_6 : decode cX8_played 6 = .ok (.getfield 10, 3) := by decide +kernel
theorem dX8_played_9 : decode cX8_played 9 = .ok (.getfield 142, 3) := by decide +kernel
theorem dX8_played_12 : decode cX8_played 12 = .ok (.if_icmp .ge 15, 3) := by decide +kernel
theorem dX8_played_15 : decode cX8_played 15 = .ok (.iload_n 1, 1) := by decide +kernel
theorem dX8_played_16 : decode cX8_played 16 = .ok (.aload_n 0, 1) := by decide +kernel
theorem dX8_played_17 : decode cX8_played 17 = .ok (.getfield 10, 3) := by decide +kernel
theorem dX8_played_20 : decode cX8_played 20 = .ok (.getfield 145, 3) := by decide +kernel
theorem dX8_played_23 : decode cX8_played 23 = .ok (.arraylength, 1) := by decide +kernel
theorem dX8_played_24 : decode cX8_played 24 = .ok (.if_icmp .lt 5, 3) := by decide +kernel
theorem dX8_played_27 : decode cX8_played 27 = .ok (.iconst (-1), 1) := by decide +kernel
theorem dX8_played_28 : decode cX8_played 28 = .ok (.ireturn, 1) := by decide +kernel
theorem dX8_played_29 : decode cX8_played 29 = .ok (.aload_n 0, 1) := by decide +kernel
theorem dX8_played_30 : decode cX8_played 30 = .ok (.getfield 10, 3) := by decide +kernel
theorem dX8_played_33 : decode cX8_played 33 = .ok (.getfield 145, 3) := by decide +kernel
theorem dX8_played_36 : decode cX8_played 36 = .ok (.iload_n 1, 1) := by decide +kernel
theorem dX8_played_37 : decode cX8_played 37 = .ok (.iaload, 1) := by decide +kernel
theorem dX8_played_38 : decode cX8_played 38 = .ok (.bipush 6, 2) := by decide +kernel
theorem dX8_played_40 : decode cX8_played 40 = .ok (.idiv, 1) := by decide +kernel
theorem dX8_played_41 : decode cX8_played 41 = .ok (.istore_n 3, 1) := by decide +kernel
theorem dX8_played_42 : decode cX8_played 42 = .ok (.aload_n 0, 1) := by decide +kernel
theorem dX8_played_43 : decode cX8_played 43 = .ok (.getfield 10, 3) := by decide +kernel
theorem dX8_played_46 : decode cX8_played 46 = .ok (.getfield 145, 3) := by decide +kernel
theorem dX8_played_49 : decode cX8_played 49 = .ok (.iload_n 1, 1) := by decide +kernel
theorem dX8_played_50 : decode cX8_played 50 = .ok (.iaload, 1) := by decide +kernel
theorem dX8_played_51 : decode cX8_played 51 = .ok (.bipush 6, 2) := by decide +kernel
theorem dX8_played_53 : decode cX8_played 53 = .ok (.irem, 1) := by decide +kernel
theorem dX8_played_54 : decode cX8_played 54 = .ok (.istore 4, 2) := by decide +kernel
theorem dX8_played_56 : decode cX8_played 56 = .ok (.aload_n 0, 1) := by decide +kernel
theorem dX8_played_57 : decode cX8_played 57 = .ok (.getfield 10, 3) := by decide +kernel
theorem dX8_played_60 : decode cX8_played 60 = .ok (.iload_n 3, 1) := by decide +kernel
theorem dX8_played_61 : decode cX8_played 61 = .ok (.iload 4, 2) := by decide +kernel
theorem dX8_played_63 : decode cX8_played 63 = .ok (.invokevirtual 124, 3) := by decide +kernel
theorem dX8_played_66 : decode cX8_played 66 = .ok (.astore 5, 2) := by decide +kernel
theorem dX8_played_68 : decode cX8_played 68 = .ok (.aload 5, 2) := by decide +kernel
theorem dX8_played_70 : decode cX8_played 70 = .ok (.ifnonnull 5, 3) := by decide +kernel
theorem dX8_played_73 : decode cX8_played 73 = .ok (.iconst (-1), 1) := by decide +kernel
theorem dX8_played_74 : decode cX8_played 74 = .ok (.ireturn, 1) := by decide +kernel
theorem dX8_played_75 : decode cX8_played 75 = .ok (.iload_n 2, 1) := by decide +kernel
theorem dX8_played_76 : decode cX8_played 76 = .ok (.tableswitch 39 0 2 #[28, 30, 33], 28) := by decide +kernel
theorem dX8_played_104 : decode cX8_played 104 = .ok (.iload_n 3, 1) := by decide +kernel
theorem dX8_played_105 : decode cX8_played 105 = .ok (.ireturn, 1) := by decide +kernel
theorem dX8_played_106 : decode cX8_played 106 = .ok (.iload 4, 2) := by decide +kernel
theorem dX8_played_108 : decode cX8_played 108 = .ok (.ireturn, 1) := by decide +kernel
theorem dX8_played_109 : decode cX8_played 109 = .ok (.aload 5, 2) := by decide +kernel
theorem dX8_played_111 : decode cX8_played 111 = .ok (.getfield 139, 3) := by decide +kernel
theorem dX8_played_114 : decode cX8_played 114 = .ok (.ireturn, 1) := by decide +kernel
theorem dX8_played_115 : decode cX8_played 115 = .ok (.bipush (-2), 2) := by decide +kernel
theorem dX8_played_117 : decode cX8_played 117 = .ok (.ireturn, 1) := by decide +kernel
theorem dX8_ofChannel_0 : decode cX8_ofChannel 0 = .ok (.aload_n 0, 1) := by decide +kernel
theorem dX8_ofChannel_1 : decode cX8_ofChannel 1 = .ok (.getfield 10, 3) := by decide +kernel
theorem dX8_ofChannel_4 : decode cX8_ofChannel 4 = .ok (.iload_n 1, 1) := by decide +kernel
theorem dX8_ofChannel_5 : decode cX8_ofChannel 5 = .ok (.invokevirtual 149, 3) := by decide +kernel
theorem dX8_ofChannel_8 : decode cX8_ofChannel 8 = .ok (.astore_n 3, 1) := by decide +kernel
theorem dX8_ofChannel_9 : decode cX8_ofChannel 9 = .ok (.aload_n 3, 1) := by decide +kernel
theorem dX8_ofChannel_10 : decode cX8_ofChannel 10 = .ok (.ifnonnull 5, 3) := by decide +kernel
theorem dX8_ofChannel_13 : decode cX8_ofChannel 13 = .ok (.iconst (-1), 1) := by decide +kernel
theorem dX8_ofChannel_14 : decode cX8_ofChannel 14 = .ok (.ireturn, 1) := by decide +kernel
theorem dX8_ofChannel_15 : decode cX8_ofChannel 15 = .ok (.iload_n 2, 1) := by decide +kernel
theorem dX8_ofChannel_16 : decode cX8_ofChannel 16 = .ok (.tableswitch 50 0 2 #[28, 33, 38], 28) := by decide +kernel
theorem dX8_ofChannel_44 : decode cX8_ofChannel 44 = .ok (.aload_n 3, 1) := by decide +kernel
theorem dX8_ofChannel_45 : decode cX8_ofChannel 45 = .ok (.getfield 153, 3) := by decide +kernel
theorem dX8_ofChannel_48 : decode cX8_ofChannel 48 = .ok (.ireturn, 1) := by decide +kernel
theorem dX8_ofChannel_49 : decode cX8_ofChannel 49 = .ok (.aload_n 3, 1) := by decide +kernel
theorem dX8_ofChannel_50 : decode cX8_ofChannel 50 = .ok (.getfield 158, 3) := by decide +kernel
theorem dX8_ofChannel_53 : decode cX8_ofChannel 53 = .ok (.ireturn, 1) := by decide +kernel
theorem dX8_ofChannel_54 : decode cX8_ofChannel 54 = .ok (.aload_n 0, 1) := by decide +kernel
theorem dX8_ofChannel_55 : decode cX8_ofChannel 55 = .ok (.getfield 10, 3) := by decide +kernel
theorem dX8_ofChannel_58 : decode cX8_ofChannel 58 = .ok (.getfield 161, 3) := by decide +kernel
theorem dX8_ofChannel_61 : decode cX8_ofChannel 61 = .ok (.iload_n 1, 1) := by decide +kernel
theorem dX8_ofChannel_62 : decode cX8_ofChannel 62 = .ok (.invokevirtual 165, 3) := by decide +kernel
theorem dX8_ofChannel_65 : decode cX8_ofChannel 65 = .ok (.ireturn, 1) := by decide +kernel
theorem dX8_ofChannel_66 : decode cX8_ofChannel 66 = .ok (.bipush (-2), 2) := by decide +kernel
theorem dX8_ofChannel_68 : decode cX8_ofChannel 68 = .ok (.ireturn, 1) := by decide +kernel
theorem dX8_loud_0 : decode cX8_loud 0 = .ok (.iload_n 1, 1) := by decide +kernel
theorem dX8_loud_1 : decode cX8_loud 1 = .ok (.ifCond .lt 26, 3) := by decide +kernel
theorem dX8_loud_4 : decode cX8_loud 4 = .ok (.iload_n 1, 1) := by decide +kernel
theorem dX8_loud_5 : decode cX8_loud 5 = .ok (.aload_n 0, 1) := by decide +kernel
theorem dX8_loud_6 : decode cX8_loud 6 = .ok (.getfield 10, 3) := by decide +kernel
theorem dX8_loud_9 : decode cX8_loud 9 = .ok (.getfield 170, 3) := by decide +kernel
theorem dX8_loud_12 : decode cX8_loud 12 = .ok (.if_icmp .ge 15, 3) := by decide +kernel
theorem dX8_loud_15 : decode cX8_loud 15 = .ok (.iload_n 1, 1) := by decide +kernel
theorem dX8_loud_16 : decode cX8_loud 16 = .ok (.aload_n 0, 1) := by decide +kernel
theorem dX8_loud_17 : decode cX8_loud 17 = .ok (.getfield 10, 3) := by decide +kernel
theorem dX8_loud_20 : decode cX8_loud 20 = .ok (.getfield 173, 3) := by decide +kernel
theorem dX8_loud_23 : decode cX8_loud 23 = .ok (.arraylength, 1) := by decide +kernel
theorem dX8_loud_24 : decode cX8_loud 24 = .ok (.if_icmp .lt 5, 3) := by decide +kernel
theorem dX8_loud_27 : decode cX8_loud 27 = .ok (.iconst (-1), 1) := by decide +kernel
theorem dX8_loud_28 : decode cX8_loud 28 = .ok (.ireturn, 1) := by decide +kernel
theorem dX8_loud_29 : decode cX8_loud 29 = .ok (.aload_n 0, 1) := by decide +kernel
theorem dX8_loud_30 : decode cX8_loud 30 = .ok (.getfield 10, 3) := by decide +kernel
theorem dX8_loud_33 : decode cX8_loud 33 = .ok (.getfield 173, 3) := by decide +kernel
theorem dX8_loud_36 : decode cX8_loud 36 = .ok (.iload_n 1, 1) := by decide +kernel
theorem dX8_loud_37 : decode cX8_loud 37 = .ok (.iaload, 1) := by decide +kernel
theorem dX8_loud_38 : decode cX8_loud 38 = .ok (.ireturn, 1) := by decide +kernel
theorem dX8_count_0 : decode cX8_count 0 = .ok (.iload_n 1, 1) := by decide +kernel
theorem dX8_count_1 : decode cX8_count 1 = .ok (.tableswitch 219 0 14 #[75, 83, 94, 106, 118, 130, 142, 150, 158, 166, 176, 186, 196, 206, 214], 75) := by decide +kernel
theorem dX8_count_76 : decode cX8_count 76 = .ok (.aload_n 0, 1) := by decide +kernel
theorem dX8_count_77 : decode cX8_count 77 = .ok (.getfield 10, 3) := by decide +kernel
theorem dX8_count_80 : decode cX8_count 80 = .ok (.getfield 170, 3) := by decide +kernel
theorem dX8_count_83 : decode cX8_count 83 = .ok (.ireturn, 1) := by decide +kernel
theorem dX8_count_84 : decode cX8_count 84 = .ok (.aload_n 0, 1) := by decide +kernel
theorem dX8_count_85 : decode cX8_count 85 = .ok (.getfield 10, 3) := by decide +kernel
theorem dX8_count_88 : decode cX8_count 88 = .ok (.getfield 56, 3) := by decide +kernel
theorem dX8_count_91 : decode cX8_count 91 = .ok (.getfield 176, 3) := by decide +kernel
theorem dX8_count_94 : decode cX8_count 94 = .ok (.ireturn, 1) := by decide +kernel
theorem dX8_count_95 : decode cX8_count 95 = .ok (.aload_n 0, 1) := by decide +kernel
theorem dX8_count_96 : decode cX8_count 96 = .ok (.getfield 10, 3) := by decide +kernel
theorem dX8_count_99 : decode cX8_count 99 = .ok (.getfield 56, 3) := by decide +kernel
theorem dX8_count_102 : decode cX8_count 102 = .ok (.iconst 0, 1) := by decide +kernel
theorem dX8_count_103 : decode cX8_count 103 = .ok (.invokevirtual 177, 3) := by decide +kernel
theorem dX8_count_106 : decode cX8_count 106 = .ok (.ireturn, 1) := by decide +kernel
theorem dX8_count_107 : decode cX8_count 107 = .ok (.aload_n 0, 1) := by decide +kernel
theorem dX8_count_108 : decode cX8_count 108 = .ok (.getfield 10, 3) := by decide +kernel
theorem dX8_count_111 : decode cX8_count 111 = .ok (.getfield 56, 3) := by decide +kernel
theorem dX8_count_114 : decode cX8_count 114 = .ok (.iconst 1, 1) := by decide +kernel
theorem dX8_count_115 : decode cX8_count 115 = .ok (.invokevirtual 177, 3) := by decide +kernel
theorem dX8_count_118 : decode cX8_count 118 = .ok (.ireturn, 1) := by decide +kernel
theorem dX8_count_119 : decode cX8_count 119 = .ok (.aload_n 0, 1) := by decide +kernel
theorem dX8_count_120 : decode cX8_count 120 = .ok (.getfield 10, 3) := by decide +kernel
theorem dX8_count_123 : decode cX8_count 123 = .ok (.getfield 56, 3) := by decide +kernel
theorem dX8_count_126 : decode cX8_count 126 = .ok (.iconst 2, 1) := by decide +kernel
theorem dX8_count_127 : decode cX8_count 127 = .ok (.invokevirtual 177, 3) := by decide +kernel
theorem dX8_count_130 : decode cX8_count 130 = .ok (.ireturn, 1) := by decide +kernel
theorem dX8_count_131 : decode cX8_count 131 = .ok (.aload_n 0, 1) := by decide +kernel
theorem dX8_count_132 : decode cX8_count 132 = .ok (.getfield 10, 3) := by decide +kernel
theorem dX8_count_135 : decode cX8_count 135 = .ok (.getfield 56, 3) := by decide +kernel
theorem dX8_count_138 : decode cX8_count 138 = .ok (.iconst 3, 1) := by decide +kernel
theorem dX8_count_139 : decode cX8_count 139 = .ok (.invokevirtual 177, 3) := by decide +kernel
theorem dX8_count_142 : decode cX8_count 142 = .ok (.ireturn, 1) := by decide +kernel
theorem dX8_count_143 : decode cX8_count 143 = .ok (.aload_n 0, 1) := by decide +kernel
theorem dX8_count_144 : decode cX8_count 144 = .ok (.getfield 10, 3) := by decide +kernel
theorem dX8_count_147 : decode cX8_count 147 = .ok (.invokevirtual 180, 3) := by decide +kernel
theorem dX8_count_150 : decode cX8_count 150 = .ok (.ireturn, 1) := by decide +kernel
theorem dX8_count_151 : decode cX8_count 151 = .ok (.aload_n 0, 1) := by decide +kernel
theorem dX8_count_152 : decode cX8_count 152 = .ok (.getfield 10, 3) := by decide +kernel
theorem dX8_count_155 : decode cX8_count 155 = .ok (.invokevirtual 183, 3) := by decide +kernel
theorem dX8_count_158 : decode cX8_count 158 = .ok (.ireturn, 1) := by decide +kernel
theorem dX8_count_159 : decode cX8_count 159 = .ok (.aload_n 0, 1) := by decide +kernel
theorem dX8_count_160 : decode cX8_count 160 = .ok (.getfield 10, 3) := by decide +kernel
theorem dX8_count_163 : decode cX8_count 163 = .ok (.invokevirtual 186, 3) := by decide +kernel
theorem dX8_count_166 : decode cX8_count 166 = .ok (.ireturn, 1) := by decide +kernel
theorem dX8_count_167 : decode cX8_count 167 = .ok (.aload_n 0, 1) := by decide +kernel
theorem dX8_count_168 : decode cX8_count 168 = .ok (.getfield 10, 3) := by decide +kernel
theorem dX8_count_171 : decode cX8_count 171 = .ok (.getfield 189, 3) := by decide +kernel
theorem dX8_count_174 : decode cX8_count 174 = .ok (.iconst 0, 1) := by decide +kernel
theorem dX8_count_175 : decode cX8_count 175 = .ok (.iaload, 1) := by decide +kernel
theorem dX8_count_176 : decode cX8_count 176 = .ok (.ireturn, 1) := by decide +kernel
theorem dX8_count_177 : decode cX8_count 177 = .ok (.aload_n 0, 1) := by decide +kernel
theorem dX8_count_178 : decode cX8_count 178 = .ok (.getfield 10, 3) := by decide +kernel
theorem dX8_count_181 : decode cX8_count 181 = .ok (.getfield 189, 3) := by decide +kernel
theorem dX8_count_184 : decode cX8_count 184 = .ok (.iconst 1, 1) := by decide +kernel
theorem dX8_count_185 : decode cX8_count 185 = .ok (.iaload, 1) := by decide +kernel
theorem dX8_count_186 : decode cX8_count 186 = .ok (.ireturn, 1) := by decide +kernel
theorem dX8_count_187 : decode cX8_count 187 = .ok (.aload_n 0, 1) := by decide +kernel
theorem dX8_count_188 : decode cX8_count 188 = .ok (.getfield 10, 3) := by decide +kernel
theorem dX8_count_191 : decode cX8_count 191 = .ok (.getfield 189, 3) := by decide +kernel
theorem dX8_count_194 : decode cX8_count 194 = .ok (.iconst 2, 1) := by decide +kernel
theorem dX8_count_195 : decode cX8_count 195 = .ok (.iaload, 1) := by decide +kernel
theorem dX8_count_196 : decode cX8_count 196 = .ok (.ireturn, 1) := by decide +kernel
theorem dX8_count_197 : decode cX8_count 197 = .ok (.aload_n 0, 1) := by decide +kernel
theorem dX8_count_198 : decode cX8_count 198 = .ok (.getfield 10, 3) := by decide +kernel
theorem dX8_count_201 : decode cX8_count 201 = .ok (.getfield 189, 3) := by decide +kernel
theorem dX8_count_204 : decode cX8_count 204 = .ok (.iconst 3, 1) := by decide +kernel
theorem dX8_count_205 : decode cX8_count 205 = .ok (.iaload, 1) := by decide +kernel
theorem dX8_count_206 : decode cX8_count 206 = .ok (.ireturn, 1) := by decide +kernel
theorem dX8_count_207 : decode cX8_count 207 = .ok (.aload_n 0, 1) := by decide +kernel
theorem dX8_count_208 : decode cX8_count 208 = .ok (.getfield 33, 3) := by decide +kernel
theorem dX8_count_211 : decode cX8_count 211 = .ok (.getfield 192, 3) := by decide +kernel
theorem dX8_count_214 : decode cX8_count 214 = .ok (.ireturn, 1) := by decide +kernel
theorem dX8_count_215 : decode cX8_count 215 = .ok (.aload_n 0, 1) := by decide +kernel
theorem dX8_count_216 : decode cX8_count 216 = .ok (.getfield 195, 3) := by decide +kernel
theorem dX8_count_219 : decode cX8_count 219 = .ok (.ireturn, 1) := by decide +kernel
theorem dX8_count_220 : decode cX8_count 220 = .ok (.bipush (-2), 2) := by decide +kernel
theorem dX8_count_222 : decode cX8_count 222 = .ok (.ireturn, 1) := by decide +kernel
theorem dX8_rest_0 : decode cX8_rest 0 = .ok (.iload_n 1, 1) := by decide +kernel
theorem dX8_rest_1 : decode cX8_rest 1 = .ok (.iconst 0, 1) := by decide +kernel
theorem dX8_rest_2 : decode cX8_rest 2 = .ok (.iconst 4, 1) := by decide +kernel
theorem dX8_rest_3 : decode cX8_rest 3 = .ok (.invokestatic 198, 3) := by decide +kernel
theorem dX8_rest_6 : decode cX8_rest 6 = .ok (.ifCond .ne 6, 3) := by decide +kernel
theorem dX8_rest_9 : decode cX8_rest 9 = .ok (.bipush (-2), 2) := by decide +kernel
theorem dX8_rest_11 : decode cX8_rest 11 = .ok (.ireturn, 1) := by decide +kernel
theorem dX8_rest_12 : decode cX8_rest 12 = .ok (.aload_n 0, 1) := by decide +kernel
theorem dX8_rest_13 : decode cX8_rest 13 = .ok (.getfield 16, 3) := by decide +kernel
theorem dX8_rest_16 : decode cX8_rest 16 = .ok (.aload_n 0, 1) := by decide +kernel
theorem dX8_rest_17 : decode cX8_rest 17 = .ok (.getfield 10, 3) := by decide +kernel
theorem dX8_rest_20 : decode cX8_rest 20 = .ok (.invokevirtual 202, 3) := by decide +kernel
theorem dX8_rest_23 : decode cX8_rest 23 = .ok (.aload_n 0, 1) := by decide +kernel
theorem dX8_rest_24 : decode cX8_rest 24 = .ok (.getfield 16, 3) := by decide +kernel
theorem dX8_rest_27 : decode cX8_rest 27 = .ok (.getfield 56, 3) := by decide +kernel
theorem dX8_rest_30 : decode cX8_rest 30 = .ok (.invokevirtual 206, 3) := by decide +kernel
theorem dX8_rest_33 : decode cX8_rest 33 = .ok (.istore_n 2, 1) := by decide +kernel
theorem dX8_rest_34 : decode cX8_rest 34 = .ok (.iconst 0, 1) := by decide +kernel
theorem dX8_rest_35 : decode cX8_rest 35 = .ok (.istore_n 3, 1) := by decide +kernel
theorem dX8_rest_36 : decode cX8_rest 36 = .ok (.bipush (-6), 2) := by decide +kernel
theorem dX8_rest_38 : decode cX8_rest 38 = .ok (.istore 4, 2) := by decide +kernel
theorem dX8_rest_40 : decode cX8_rest 40 = .ok (.iconst 0, 1) := by decide +kernel
theorem dX8_rest_41 : decode cX8_rest 41 = .ok (.istore 5, 2) := by decide +kernel
theorem dX8_rest_43 : decode cX8_rest 43 = .ok (.iconst 0, 1) := by decide +kernel
theorem dX8_rest_44 : decode cX8_rest 44 = .ok (.istore 6, 2) := by decide +kernel
theorem dX8_rest_46 : decode cX8_rest 46 = .ok (.iload_n 3, 1) := by decide +kernel
theorem dX8_rest_47 : decode cX8_rest 47 = .ok (.ldc 209, 2) := by decide +kernel
theorem dX8_rest_49 : decode cX8_rest 49 = .ok (.if_icmp .ge 76, 3) := by decide +kernel
theorem dX8_rest_52 : decode cX8_rest 52 = .ok (.aload_n 0, 1) := by decide +kernel
theorem dX8_rest_53 : decode cX8_rest 53 = .ok (.getfield 16, 3) := by decide +kernel
theorem dX8_rest_56 : decode cX8_rest 56 = .ok (.invokevirtual 210, 3) := by decide +kernel
theorem dX8_rest_59 : decode cX8_rest 59 = .ok (.ifCond .eq 66, 3) := by decide +kernel
theorem dX8_rest_62 : decode cX8_rest 62 = .ok (.aload_n 0, 1) := by decide +kernel
theorem dX8_rest_63 : decode cX8_rest 63 = .ok (.getfield 16, 3) := by decide +kernel
theorem dX8_rest_66 : decode cX8_rest 66 = .ok (.getfield 170, 3) := by decide +kernel
theorem dX8_rest_69 : decode cX8_rest 69 = .ok (.istore 7, 2) := by decide +kernel
theorem dX8_rest_71 : decode cX8_rest 71 = .ok (.aload_n 0, 1) := by decide +kernel
theorem dX8_rest_72 : decode cX8_rest 72 = .ok (.getfield 16, 3) := by decide +kernel
theorem dX8_rest_75 : decode cX8_rest 75 = .ok (.invokevirtual 214, 3) := by decide +kernel
theorem dX8_rest_78 : decode cX8_rest 78 = .ok (.istore 8, 2) := by decide +kernel
theorem dX8_rest_80 : decode cX8_rest 80 = .ok (.iload 4, 2) := by decide +kernel
theorem dX8_rest_82 : decode cX8_rest 82 = .ok (.bipush (-6), 2) := by decide +kernel
theorem dX8_rest_84 : decode cX8_rest 84 = .ok (.if_icmp .eq 10, 3) := by decide +kernel
theorem dX8_rest_87 : decode cX8_rest 87 = .ok (.iload 8, 2) := by decide +kernel
theorem dX8_rest_89 : decode cX8_rest 89 = .ok (.iload 5, 2) := by decide +kernel
theorem dX8_rest_91 : decode cX8_rest 91 = .ok (.if_icmp .le 11, 3) := by decide +kernel
theorem dX8_rest_94 : decode cX8_rest 94 = .ok (.iload 7, 2) := by decide +kernel
theorem dX8_rest_96 : decode cX8_rest 96 = .ok (.istore 4, 2) := by decide +kernel
theorem dX8_rest_98 : decode cX8_rest 98 = .ok (.iload 8, 2) := by decide +kernel
theorem dX8_rest_100 : decode cX8_rest 100 = .ok (.istore 5, 2) := by decide +kernel
theorem dX8_rest_102 : decode cX8_rest 102 = .ok (.iload 8, 2) := by decide +kernel
theorem dX8_rest_104 : decode cX8_rest 104 = .ok (.aload_n 0, 1) := by decide +kernel
theorem dX8_rest_105 : decode cX8_rest 105 = .ok (.getfield 16, 3) := by decide +kernel
theorem dX8_rest_108 : decode cX8_rest 108 = .ok (.getfield 189, 3) := by decide +kernel
theorem dX8_rest_111 : decode cX8_rest 111 = .ok (.iconst 3, 1) := by decide +kernel
theorem dX8_rest_112 : decode cX8_rest 112 = .ok (.iaload, 1) := by decide +kernel
theorem dX8_rest_113 : decode cX8_rest 113 = .ok (.if_icmp .le 6, 3) := by decide +kernel
theorem dX8_rest_116 : decode cX8_rest 116 = .ok (.iinc 6 1, 3) := by decide +kernel
theorem dX8_rest_119 : decode cX8_rest 119 = .ok (.iinc 3 1, 3) := by decide +kernel
theorem dX8_rest_122 : decode cX8_rest 122 = .ok (.goto (-76), 3) := by decide +kernel
theorem dX8_rest_125 : decode cX8_rest 125 = .ok (.iload_n 1, 1) := by decide +kernel
theorem dX8_rest_126 : decode cX8_rest 126 = .ok (.tableswitch 51 0 3 #[30, 32, 45, 48], 30) := by decide +kernel
theorem dX8_rest_156 : decode cX8_rest 156 = .ok (.iload_n 3, 1) := by decide +kernel
theorem dX8_rest_157 : decode cX8_rest 157 = .ok (.ireturn, 1) := by decide +kernel
theorem dX8_rest_158 : decode cX8_rest 158 = .ok (.aload_n 0, 1) := by decide +kernel
theorem dX8_rest_159 : decode cX8_rest 159 = .ok (.getfield 16, 3) := by decide +kernel
theorem dX8_rest_162 : decode cX8_rest 162 = .ok (.getfield 56, 3) := by decide +kernel
theorem dX8_rest_165 : decode cX8_rest 165 = .ok (.invokevirtual 206, 3) := by decide +kernel
theorem dX8_rest_168 : decode cX8_rest 168 = .ok (.iload_n 2, 1) := by decide +kernel
theorem dX8_rest_169 : decode cX8_rest 169 = .ok (.isub, 1) := by decide +kernel
theorem dX8_rest_170 : decode cX8_rest 170 = .ok (.ireturn, 1) := by decide +kernel
theorem dX8_rest_171 : decode cX8_rest 171 = .ok (.iload 4, 2) := by decide +kernel
theorem dX8_rest_173 : decode cX8_rest 173 = .ok (.ireturn, 1) := by decide +kernel
theorem dX8_rest_174 : decode cX8_rest 174 = .ok (.iload 5, 2) := by decide +kernel
theorem dX8_rest_176 : decode cX8_rest 176 = .ok (.ireturn, 1) := by decide +kernel
theorem dX8_rest_177 : decode cX8_rest 177 = .ok (.iload 6, 2) := by decide +kernel
theorem dX8_rest_179 : decode cX8_rest 179 = .ok (.ireturn, 1) := by decide +kernel
theorem dX8_becomes_0 : decode cX8_becomes 0 = .ok (.aload_n 0, 1) := by decide +kernel
theorem dX8_becomes_1 : decode cX8_becomes 1 = .ok (.getfield 16, 3) := by decide +kernel
theorem dX8_becomes_4 : decode cX8_becomes 4 = .ok (.aload_n 0, 1) := by decide +kernel
theorem dX8_becomes_5 : decode cX8_becomes 5 = .ok (.getfield 10, 3) := by decide +kernel
theorem dX8_becomes_8 : decode cX8_becomes 8 = .ok (.invokevirtual 202, 3) := by decide +kernel
theorem dX8_becomes_11 : decode cX8_becomes 11 = .ok (.aload_n 0, 1) := by decide +kernel
theorem dX8_becomes_12 : decode cX8_becomes 12 = .ok (.invokevirtual 217, 3) := by decide +kernel
theorem dX8_becomes_15 : decode cX8_becomes 15 = .ok (.pop, 1) := by decide +kernel
theorem dX8_becomes_16 : decode cX8_becomes 16 = .ok (.aload_n 0, 1) := by decide +kernel
theorem dX8_becomes_17 : decode cX8_becomes 17 = .ok (.getfield 16, 3) := by decide +kernel
theorem dX8_becomes_20 : decode cX8_becomes 20 = .ok (.getfield 56, 3) := by decide +kernel
theorem dX8_becomes_23 : decode cX8_becomes 23 = .ok (.iload_n 1, 1) := by decide +kernel
theorem dX8_becomes_24 : decode cX8_becomes 24 = .ok (.invokevirtual 78, 3) := by decide +kernel
theorem dX8_becomes_27 : decode cX8_becomes 27 = .ok (.astore_n 2, 1) := by decide +kernel
theorem dX8_becomes_28 : decode cX8_becomes 28 = .ok (.aload_n 2, 1) := by decide +kernel
theorem dX8_becomes_29 : decode cX8_becomes 29 = .ok (.ifnonnull 7, 3) := by decide +kernel
theorem dX8_becomes_32 : decode cX8_becomes 32 = .ok (.iconst (-1), 1) := by decide +kernel
theorem dX8_becomes_33 : decode cX8_becomes 33 = .ok (.goto 7, 3) := by decide +kernel
theorem dX8_becomes_36 : decode cX8_becomes 36 = .ok (.aload_n 2, 1) := by decide +kernel
theorem dX8_becomes_37 : decode cX8_becomes 37 = .ok (.getfield 97, 3) := by decide +kernel
theorem dX8_becomes_40 : decode cX8_becomes 40 = .ok (.ireturn, 1) := by decide +kernel
theorem dX8_leastWind_0 : decode cX8_leastWind 0 = .ok (.iconst 0, 1) := by decide +kernel
theorem dX8_leastWind_1 : decode cX8_leastWind 1 = .ok (.istore_n 1, 1) := by decide +kernel
theorem dX8_leastWind_2 : decode cX8_leastWind 2 = .ok (.bipush 16, 2) := by decide +kernel
theorem dX8_leastWind_4 : decode cX8_leastWind 4 = .ok (.istore_n 2, 1) := by decide +kernel
theorem dX8_leastWind_5 : decode cX8_leastWind 5 = .ok (.iload_n 2, 1) := by decide +kernel
theorem dX8_leastWind_6 : decode cX8_leastWind 6 = .ok (.ifCond .le 33, 3) := by decide +kernel
theorem dX8_leastWind_9 : decode cX8_leastWind 9 = .ok (.iload_n 1, 1) := by decide +kernel
theorem dX8_leastWind_10 : decode cX8_leastWind 10 = .ok (.iload_n 2, 1) := by decide +kernel
theorem dX8_leastWind_11 : decode cX8_leastWind 11 = .ok (.iadd, 1) := by decide +kernel
theorem dX8_leastWind_12 : decode cX8_leastWind 12 = .ok (.istore_n 3, 1) := by decide +kernel
theorem dX8_leastWind_13 : decode cX8_leastWind 13 = .ok (.iload_n 3, 1) := by decide +kernel
theorem dX8_leastWind_14 : decode cX8_leastWind 14 = .ok (.getstatic 220, 3) := by decide +kernel
theorem dX8_leastWind_17 : decode cX8_leastWind 17 = .ok (.iconst 0, 1) := by decide +kernel
theorem dX8_leastWind_18 : decode cX8_leastWind 18 = .ok (.iaload, 1) := by decide +kernel
theorem dX8_leastWind_19 : decode cX8_leastWind 19 = .ok (.if_icmp .gt 13, 3) := by decide +kernel
theorem dX8_leastWind_22 : decode cX8_leastWind 22 = .ok (.aload_n 0, 1) := by decide +kernel
theorem dX8_leastWind_23 : decode cX8_leastWind 23 = .ok (.iload_n 3, 1) := by decide +kernel
theorem dX8_leastWind_24 : decode cX8_leastWind 24 = .ok (.invokevirtual 223, 3) := by decide +kernel
theorem dX8_leastWind_27 : decode cX8_leastWind 27 = .ok (.ifCond .eq 5, 3) := by decide +kernel
theorem dX8_leastWind_30 : decode cX8_leastWind 30 = .ok (.iload_n 3, 1) := by decide +kernel
theorem dX8_leastWind_31 : decode cX8_leastWind 31 = .ok (.istore_n 1, 1) := by decide +kernel
theorem dX8_leastWind_32 : decode cX8_leastWind 32 = .ok (.iload_n 2, 1) := by decide +kernel
theorem dX8_leastWind_33 : decode cX8_leastWind 33 = .ok (.iconst 2, 1) := by decide +kernel
theorem dX8_leastWind_34 : decode cX8_leastWind 34 = .ok (.idiv, 1) := by decide +kernel
theorem dX8_leastWind_35 : decode cX8_leastWind 35 = .ok (.istore_n 2, 1) := by decide +kernel
theorem dX8_leastWind_36 : decode cX8_leastWind 36 = .ok (.goto (-31), 3) := by decide +kernel
theorem dX8_leastWind_39 : decode cX8_leastWind 39 = .ok (.iload_n 1, 1) := by decide +kernel
theorem dX8_leastWind_40 : decode cX8_leastWind 40 = .ok (.getstatic 220, 3) := by decide +kernel
theorem dX8_leastWind_43 : decode cX8_leastWind 43 = .ok (.iconst 0, 1) := by decide +kernel
theorem dX8_leastWind_44 : decode cX8_leastWind 44 = .ok (.iaload, 1) := by decide +kernel
theorem dX8_leastWind_45 : decode cX8_leastWind 45 = .ok (.if_icmp .lt 8, 3) := by decide +kernel
theorem dX8_leastWind_48 : decode cX8_leastWind 48 = .ok (.bipush (-6), 2) := by decide +kernel
theorem dX8_leastWind_50 : decode cX8_leastWind 50 = .ok (.goto 6, 3) := by decide +kernel
theorem dX8_leastWind_53 : decode cX8_leastWind 53 = .ok (.iload_n 1, 1) := by decide +kernel
theorem dX8_leastWind_54 : decode cX8_leastWind 54 = .ok (.iconst 1, 1) := by decide +kernel
theorem dX8_leastWind_55 : decode cX8_leastWind 55 = .ok (.iadd, 1) := by decide +kernel
theorem dX8_leastWind_56 : decode cX8_leastWind 56 = .ok (.ireturn, 1) := by decide +kernel
theorem dX8_ifMoved_0 : decode cX8_ifMoved 0 = .ok (.aload_n 0, 1) := by decide +kernel
theorem dX8_ifMoved_1 : decode cX8_ifMoved 1 = .ok (.getfield 16, 3) := by decide +kernel
theorem dX8_ifMoved_4 : decode cX8_ifMoved 4 = .ok (.aload_n 0, 1) := by decide +kernel
theorem dX8_ifMoved_5 : decode cX8_ifMoved 5 = .ok (.getfield 10, 3) := by decide +kernel
theorem dX8_ifMoved_8 : decode cX8_ifMoved 8 = .ok (.invokevirtual 202, 3) := by decide +kernel
theorem dX8_ifMoved_11 : decode cX8_ifMoved 11 = .ok (.aload_n 0, 1) := by decide +kernel
theorem dX8_ifMoved_12 : decode cX8_ifMoved 12 = .ok (.getfield 16, 3) := by decide +kernel
theorem dX8_ifMoved_15 : decode cX8_ifMoved 15 = .ok (.iload_n 1, 1) := by decide +kernel
theorem dX8_ifMoved_16 : decode cX8_ifMoved 16 = .ok (.iload_n 2, 1) := by decide +kernel
theorem dX8_ifMoved_17 : decode cX8_ifMoved 17 = .ok (.invokevirtual 65, 3) := by decide +kernel
theorem dX8_ifMoved_20 : decode cX8_ifMoved 20 = .ok (.istore_n 3, 1) := by decide +kernel
theorem dX8_ifMoved_21 : decode cX8_ifMoved 21 = .ok (.iload_n 3, 1) := by decide +kernel
theorem dX8_ifMoved_22 : decode cX8_ifMoved 22 = .ok (.ifCond .ge 7, 3) := by decide +kernel
theorem dX8_ifMoved_25 : decode cX8_ifMoved 25 = .ok (.iload_n 3, 1) := by decide +kernel
theorem dX8_ifMoved_26 : decode cX8_ifMoved 26 = .ok (.goto 7, 3) := by decide +kernel
theorem dX8_ifMoved_29 : decode cX8_ifMoved 29 = .ok (.aload_n 0, 1) := by decide +kernel
theorem dX8_ifMoved_30 : decode cX8_ifMoved 30 = .ok (.invokevirtual 217, 3) := by decide +kernel
theorem dX8_ifMoved_33 : decode cX8_ifMoved 33 = .ok (.ireturn, 1) := by decide +kernel
theorem dX8_readyIn_0 : decode cX8_readyIn 0 = .ok (.aload_n 0, 1) := by decide +kernel
theorem dX8_readyIn_1 : decode cX8_readyIn 1 = .ok (.getfield 10, 3) := by decide +kernel
theorem dX8_readyIn_4 : decode cX8_readyIn 4 = .ok (.iload_n 1, 1) := by decide +kernel
theorem dX8_readyIn_5 : decode cX8_readyIn 5 = .ok (.invokevirtual 100, 3) := by decide +kernel
theorem dX8_readyIn_8 : decode cX8_readyIn 8 = .ok (.astore_n 3, 1) := by decide +kernel
theorem dX8_readyIn_9 : decode cX8_readyIn 9 = .ok (.aload_n 0, 1) := by decide +kernel
theorem dX8_readyIn_10 : decode cX8_readyIn 10 = .ok (.getfield 10, 3) := by decide +kernel
theorem dX8_readyIn_13 : decode cX8_readyIn 13 = .ok (.iload_n 1, 1) := by decide +kernel
theorem dX8_readyIn_14 : decode cX8_readyIn 14 = .ok (.iload_n 2, 1) := by decide +kernel
theorem dX8_readyIn_15 : decode cX8_readyIn 15 = .ok (.invokevirtual 124, 3) := by decide +kernel
theorem dX8_readyIn_18 : decode cX8_readyIn 18 = .ok (.astore 4, 2) := by decide +kernel
theorem dX8_readyIn_20 : decode cX8_readyIn 20 = .ok (.aload_n 3, 1) := by decide +kernel
theorem dX8_readyIn_21 : decode cX8_readyIn 21 = .ok (.ifnull 8, 3) := by decide +kernel
theorem dX8_readyIn_24 : decode cX8_readyIn 24 = .ok (.aload 4, 2) := by decide +kernel
theorem dX8_readyIn_26 : decode cX8_readyIn 26 = .ok (.ifnonnull 5, 3) := by decide +kernel
theorem dX8_readyIn_29 : decode cX8_readyIn 29 = .ok (.iconst (-1), 1) := by decide +kernel
theorem dX8_readyIn_30 : decode cX8_readyIn 30 = .ok (.ireturn, 1) := by decide +kernel
theorem dX8_readyIn_31 : decode cX8_readyIn 31 = .ok (.iconst 1, 1) := by decide +kernel
theorem dX8_readyIn_32 : decode cX8_readyIn 32 = .ok (.aload_n 0, 1) := by decide +kernel
theorem dX8_readyIn_33 : decode cX8_readyIn 33 = .ok (.getfield 10, 3) := by decide +kernel
theorem dX8_readyIn_36 : decode cX8_readyIn 36 = .ok (.getfield 189, 3) := by decide +kernel
theorem dX8_readyIn_39 : decode cX8_readyIn 39 = .ok (.iconst 0, 1) := by decide +kernel
theorem dX8_readyIn_40 : decode cX8_readyIn 40 = .ok (.iaload, 1) := by decide +kernel
theorem dX8_readyIn_41 : decode cX8_readyIn 41 = .ok (.invokestatic 227, 3) := by decide +kernel
theorem dX8_readyIn_44 : decode cX8_readyIn 44 = .ok (.istore 5, 2) := by decide +kernel
theorem dX8_readyIn_46 : decode cX8_readyIn 46 = .ok (.aload_n 3, 1) := by decide +kernel
theorem dX8_readyIn_47 : decode cX8_readyIn 47 = .ok (.getfield 104, 3) := by decide +kernel
theorem dX8_readyIn_50 : decode cX8_readyIn 50 = .ok (.aload_n 3, 1) := by decide +kernel
theorem dX8_readyIn_51 : decode cX8_readyIn 51 = .ok (.getfield 112, 3) := by decide +kernel
theorem dX8_readyIn_54 : decode cX8_readyIn 54 = .ok (.iadd, 1) := by decide +kernel
theorem dX8_readyIn_55 : decode cX8_readyIn 55 = .ok (.aload 4, 2) := by decide +kernel
theorem dX8_readyIn_57 : decode cX8_readyIn 57 = .ok (.getfield 136, 3) := by decide +kernel
theorem dX8_readyIn_60 : decode cX8_readyIn 60 = .ok (.isub, 1) := by decide +kernel
theorem dX8_readyIn_61 : decode cX8_readyIn 61 = .ok (.invokestatic 232, 3) := by decide +kernel
theorem dX8_readyIn_64 : decode cX8_readyIn 64 = .ok (.istore 6, 2) := by decide +kernel
theorem dX8_readyIn_66 : decode cX8_readyIn 66 = .ok (.iload 6, 2) := by decide +kernel
theorem dX8_readyIn_68 : decode cX8_readyIn 68 = .ok (.iload 5, 2) := by decide +kernel
theorem dX8_readyIn_70 : decode cX8_readyIn 70 = .ok (.iadd, 1) := by decide +kernel
theorem dX8_readyIn_71 : decode cX8_readyIn 71 = .ok (.iconst 1, 1) := by decide +kernel
theorem dX8_readyIn_72 : decode cX8_readyIn 72 = .ok (.isub, 1) := by decide +kernel
theorem dX8_readyIn_73 : decode cX8_readyIn 73 = .ok (.iload 5, 2) := by decide +kernel
theorem dX8_readyIn_75 : decode cX8_readyIn 75 = .ok (.idiv, 1) := by decide +kernel
theorem dX8_readyIn_76 : decode cX8_readyIn 76 = .ok (.istore 7, 2) := by decide +kernel
theorem dX8_readyIn_78 : decode cX8_readyIn 78 = .ok (.aload_n 3, 1) := by decide +kernel
theorem dX8_readyIn_79 : decode cX8_readyIn 79 = .ok (.getfield 112, 3) := by decide +kernel
theorem dX8_readyIn_82 : decode cX8_readyIn 82 = .ok (.ifCond .le 20, 3) := by decide +kernel
theorem dX8_readyIn_85 : decode cX8_readyIn 85 = .ok (.iload 7, 2) := by decide +kernel
theorem dX8_readyIn_87 : decode cX8_readyIn 87 = .ok (.ifCond .le 15, 3) := by decide +kernel
theorem dX8_readyIn_90 : decode cX8_readyIn 90 = .ok (.aload_n 3, 1) := by decide +kernel
theorem dX8_readyIn_91 : decode cX8_readyIn 91 = .ok (.getfield 112, 3) := by decide +kernel
theorem dX8_readyIn_94 : decode cX8_readyIn 94 = .ok (.iload 7, 2) := by decide +kernel
theorem dX8_readyIn_96 : decode cX8_readyIn 96 = .ok (.iadd, 1) := by decide +kernel
theorem dX8_readyIn_97 : decode cX8_readyIn 97 = .ok (.iconst 1, 1) := by decide +kernel
theorem dX8_readyIn_98 : decode cX8_readyIn 98 = .ok (.isub, 1) := by decide +kernel
theorem dX8_readyIn_99 : decode cX8_readyIn 99 = .ok (.goto 10, 3) := by decide +kernel
theorem dX8_readyIn_102 : decode cX8_readyIn 102 = .ok (.aload_n 3, 1) := by decide +kernel
theorem dX8_readyIn_103 : decode cX8_readyIn 103 = .ok (.getfield 112, 3) := by decide +kernel
theorem dX8_readyIn_106 : decode cX8_readyIn 106 = .ok (.iload 7, 2) := by decide +kernel
theorem dX8_readyIn_108 : decode cX8_readyIn 108 = .ok (.iadd, 1) := by decide +kernel
theorem dX8_readyIn_109 : decode cX8_readyIn 109 = .ok (.ireturn, 1) := by decide +kernel
theorem dX8_put_0 : decode cX8_put 0 = .ok (.lload_n 1, 1) := by decide +kernel
theorem dX8_put_1 : decode cX8_put 1 = .ok (.invokestatic 235, 3) := by decide +kernel
theorem dX8_put_4 : decode cX8_put 4 = .ok (.istore_n 3, 1) := by decide +kernel
theorem dX8_put_5 : decode cX8_put 5 = .ok (.iload_n 3, 1) := by decide +kernel
theorem dX8_put_6 : decode cX8_put 6 = .ok (.ifCond .ne 6, 3) := by decide +kernel
theorem dX8_put_9 : decode cX8_put 9 = .ok (.bipush (-2), 2) := by decide +kernel
theorem dX8_put_11 : decode cX8_put 11 = .ok (.ireturn, 1) := by decide +kernel
theorem dX8_put_12 : decode cX8_put 12 = .ok (.aload_n 0, 1) := by decide +kernel
theorem dX8_put_13 : decode cX8_put 13 = .ok (.getfield 33, 3) := by decide +kernel
theorem dX8_put_16 : decode cX8_put 16 = .ok (.getfield 192, 3) := by decide +kernel
theorem dX8_put_19 : decode cX8_put 19 = .ok (.iload_n 3, 1) := by decide +kernel
theorem dX8_put_20 : decode cX8_put 20 = .ok (.iadd, 1) := by decide +kernel
theorem dX8_put_21 : decode cX8_put 21 = .ok (.bipush 80, 2) := by decide +kernel
theorem dX8_put_23 : decode cX8_put 23 = .ok (.if_icmp .le 6, 3) := by decide +kernel
theorem dX8_put_26 : decode cX8_put 26 = .ok (.bipush (-4), 2) := by decide +kernel
theorem dX8_put_28 : decode cX8_put 28 = .ok (.ireturn, 1) := by decide +kernel
theorem dX8_put_29 : decode cX8_put 29 = .ok (.aload_n 0, 1) := by decide +kernel
theorem dX8_put_30 : decode cX8_put 30 = .ok (.getfield 33, 3) := by decide +kernel
theorem dX8_put_33 : decode cX8_put 33 = .ok (.lload_n 1, 1) := by decide +kernel
theorem dX8_put_34 : decode cX8_put 34 = .ok (.iload_n 3, 1) := by decide +kernel
theorem dX8_put_35 : decode cX8_put 35 = .ok (.invokevirtual 239, 3) := by decide +kernel
theorem dX8_put_38 : decode cX8_put 38 = .ok (.ireturn, 1) := by decide +kernel
theorem dX8_wipe_0 : decode cX8_wipe 0 = .ok (.aload_n 0, 1) := by decide +kernel
theorem dX8_wipe_1 : decode cX8_wipe 1 = .ok (.getfield 33, 3) := by decide +kernel
theorem dX8_wipe_4 : decode cX8_wipe 4 = .ok (.getfield 192, 3) := by decide +kernel
theorem dX8_wipe_7 : decode cX8_wipe 7 = .ok (.istore_n 1, 1) := by decide +kernel
theorem dX8_wipe_8 : decode cX8_wipe 8 = .ok (.aload_n 0, 1) := by decide +kernel
theorem dX8_wipe_9 : decode cX8_wipe 9 = .ok (.getfield 33, 3) := by decide +kernel
theorem dX8_wipe_12 : decode cX8_wipe 12 = .ok (.iconst 0, 1) := by decide +kernel
theorem dX8_wipe_13 : decode cX8_wipe 13 = .ok (.putfield 192, 3) := by decide +kernel
theorem dX8_wipe_16 : decode cX8_wipe 16 = .ok (.iload_n 1, 1) := by decide +kernel
theorem dX8_wipe_17 : decode cX8_wipe 17 = .ok (.ireturn, 1) := by decide +kernel
theorem dX8_fault_0 : decode cX8_fault 0 = .ok (.aload_n 0, 1) := by decide +kernel
theorem dX8_fault_1 : decode cX8_fault 1 = .ok (.getfield 33, 3) := by decide +kernel
theorem dX8_fault_4 : decode cX8_fault 4 = .ok (.invokevirtual 243, 3) := by decide +kernel
theorem dX8_fault_7 : decode cX8_fault 7 = .ok (.ireturn, 1) := by decide +kernel
theorem dX8_carryOut_0 : decode cX8_carryOut 0 = .ok (.aload_n 0, 1) := by decide +kernel
theorem dX8_carryOut_1 : decode cX8_carryOut 1 = .ok (.getfield 33, 3) := by decide +kernel
theorem dX8_carryOut_4 : decode cX8_carryOut 4 = .ok (.invokevirtual 243, 3) := by decide +kernel
theorem dX8_carryOut_7 : decode cX8_carryOut 7 = .ok (.bipush (-6), 2) := by decide +kernel
theorem dX8_carryOut_9 : decode cX8_carryOut 9 = .ok (.if_icmp .eq 6, 3) := by decide +kernel
theorem dX8_carryOut_12 : decode cX8_carryOut 12 = .ok (.bipush (-3), 2) := by decide +kernel
theorem dX8_carryOut_14 : decode cX8_carryOut 14 = .ok (.ireturn, 1) := by decide +kernel
theorem dX8_carryOut_15 : decode cX8_carryOut 15 = .ok (.aload_n 0, 1) := by decide +kernel
theorem dX8_carryOut_16 : decode cX8_carryOut 16 = .ok (.invokevirtual 37, 3) := by decide +kernel
theorem dX8_carryOut_19 : decode cX8_carryOut 19 = .ok (.iconst 0, 1) := by decide +kernel
theorem dX8_carryOut_20 : decode cX8_carryOut 20 = .ok (.istore_n 1, 1) := by decide +kernel
theorem dX8_carryOut_21 : decode cX8_carryOut 21 = .ok (.aload_n 0, 1) := by decide +kernel
theorem dX8_carryOut_22 : decode cX8_carryOut 22 = .ok (.getfield 33, 3) := by decide +kernel
theorem dX8_carryOut_25 : decode cX8_carryOut 25 = .ok (.iconst 0, 1) := by decide +kernel
theorem dX8_carryOut_26 : decode cX8_carryOut 26 = .ok (.putfield 246, 3) := by decide +kernel
theorem dX8_carryOut_29 : decode cX8_carryOut 29 = .ok (.iload_n 1, 1) := by decide +kernel
theorem dX8_carryOut_30 : decode cX8_carryOut 30 = .ok (.bipush 80, 2) := by decide +kernel
theorem dX8_carryOut_32 : decode cX8_carryOut 32 = .ok (.if_icmp .ge 39, 3) := by decide +kernel
theorem dX8_carryOut_35 : decode cX8_carryOut 35 = .ok (.aload_n 0, 1) := by decide +kernel
theorem dX8_carryOut_36 : decode cX8_carryOut 36 = .ok (.getfield 33, 3) := by decide +kernel
theorem dX8_carryOut_39 : decode cX8_carryOut 39 = .ok (.invokevirtual 249, 3) := by decide +kernel
theorem dX8_carryOut_42 : decode cX8_carryOut 42 = .ok (.ifCond .eq 29, 3) := by decide +kernel
theorem dX8_carryOut_45 : decode cX8_carryOut 45 = .ok (.aload_n 0, 1) := by decide +kernel
theorem dX8_carryOut_46 : decode cX8_carryOut 46 = .ok (.invokevirtual 252, 3) := by decide +kernel
theorem dX8_carryOut_49 : decode cX8_carryOut 49 = .ok (.ifCond .lt 22, 3) := by decide +kernel
theorem dX8_carryOut_52 : decode cX8_carryOut 52 = .ok (.iinc 1 1, 3) := by decide +kernel
theorem dX8_carryOut_55 : decode cX8_carryOut 55 = .ok (.aload_n 0, 1) := by decide +kernel
theorem dX8_carryOut_56 : decode cX8_carryOut 56 = .ok (.getfield 33, 3) := by decide +kernel
theorem dX8_carryOut_59 : decode cX8_carryOut 59 = .ok (.dup, 1) := by decide +kernel
theorem dX8_carryOut_60 : decode cX8_carryOut 60 = .ok (.getfield 246, 3) := by decide +kernel
theorem dX8_carryOut_63 : decode cX8_carryOut 63 = .ok (.iconst 1, 1) := by decide +kernel
theorem dX8_carryOut_64 : decode cX8_carryOut 64 = .ok (.iadd, 1) := by decide +kernel
theorem dX8_carryOut_65 : decode cX8_carryOut 65 = .ok (.putfield 246, 3) := by decide +kernel
theorem dX8_carryOut_68 : decode cX8_carryOut 68 = .ok (.goto (-39), 3) := by decide +kernel
theorem dX8_carryOut_71 : decode cX8_carryOut 71 = .ok (.aload_n 0, 1) := by decide +kernel
theorem dX8_carryOut_72 : decode cX8_carryOut 72 = .ok (.getfield 33, 3) := by decide +kernel
theorem dX8_carryOut_75 : decode cX8_carryOut 75 = .ok (.iconst 0, 1) := by decide +kernel
theorem dX8_carryOut_76 : decode cX8_carryOut 76 = .ok (.putfield 192, 3) := by decide +kernel
theorem dX8_carryOut_79 : decode cX8_carryOut 79 = .ok (.aload_n 0, 1) := by decide +kernel
theorem dX8_carryOut_80 : decode cX8_carryOut 80 = .ok (.iload_n 1, 1) := by decide +kernel
theorem dX8_carryOut_81 : decode cX8_carryOut 81 = .ok (.invokevirtual 44, 3) := by decide +kernel
theorem dX8_carryOut_84 : decode cX8_carryOut 84 = .ok (.ireturn, 1) := by decide +kernel
theorem dX8_undo_0 : decode cX8_undo 0 = .ok (.aload_n 0, 1) := by decide +kernel
theorem dX8_undo_1 : decode cX8_undo 1 = .ok (.getfield 195, 3) := by decide +kernel
theorem dX8_undo_4 : decode cX8_undo 4 = .ok (.ifCond .le 15, 3) := by decide +kernel
theorem dX8_undo_7 : decode cX8_undo 7 = .ok (.aload_n 0, 1) := by decide +kernel
theorem dX8_undo_8 : decode cX8_undo 8 = .ok (.getfield 195, 3) := by decide +kernel
theorem dX8_undo_11 : decode cX8_undo 11 = .ok (.aload_n 0, 1) := by decide +kernel
theorem dX8_undo_12 : decode cX8_undo 12 = .ok (.getfield 19, 3) := by decide +kernel
theorem dX8_undo_15 : decode cX8_undo 15 = .ok (.arraylength, 1) := by decide +kernel
theorem dX8_undo_16 : decode cX8_undo 16 = .ok (.if_icmp .le 6, 3) := by decide +kernel
theorem dX8_undo_19 : decode cX8_undo 19 = .ok (.bipush (-5), 2) := by decide +kernel
theorem dX8_undo_21 : decode cX8_undo 21 = .ok (.ireturn, 1) := by decide +kernel
theorem dX8_undo_22 : decode cX8_undo 22 = .ok (.aload_n 0, 1) := by decide +kernel
theorem dX8_undo_23 : decode cX8_undo 23 = .ok (.dup, 1) := by decide +kernel
theorem dX8_undo_24 : decode cX8_undo 24 = .ok (.getfield 195, 3) := by decide +kernel
theorem dX8_undo_27 : decode cX8_undo 27 = .ok (.iconst 1, 1) := by decide +kernel
theorem dX8_undo_28 : decode cX8_undo 28 = .ok (.isub, 1) := by decide +kernel
theorem dX8_undo_29 : decode cX8_undo 29 = .ok (.putfield 195, 3) := by decide +kernel
theorem dX8_undo_32 : decode cX8_undo 32 = .ok (.aload_n 0, 1) := by decide +kernel
theorem dX8_undo_33 : decode cX8_undo 33 = .ok (.getfield 10, 3) := by decide +kernel
theorem dX8_undo_36 : decode cX8_undo 36 = .ok (.astore_n 1, 1) := by decide +kernel
theorem dX8_undo_37 : decode cX8_undo 37 = .ok (.aload_n 0, 1) := by decide +kernel
theorem dX8_undo_38 : decode cX8_undo 38 = .ok (.aload_n 0, 1) := by decide +kernel
theorem dX8_undo_39 : decode cX8_undo 39 = .ok (.getfield 19, 3) := by decide +kernel
theorem dX8_undo_42 : decode cX8_undo 42 = .ok (.aload_n 0, 1) := by decide +kernel
theorem dX8_undo_43 : decode cX8_undo 43 = .ok (.getfield 195, 3) := by decide +kernel
theorem dX8_undo_46 : decode cX8_undo 46 = .ok (.aaload, 1) := by decide +kernel
theorem dX8_undo_47 : decode cX8_undo 47 = .ok (.putfield 10, 3) := by decide +kernel
theorem dX8_undo_50 : decode cX8_undo 50 = .ok (.aload_n 0, 1) := by decide +kernel
theorem dX8_undo_51 : decode cX8_undo 51 = .ok (.getfield 19, 3) := by decide +kernel
theorem dX8_undo_54 : decode cX8_undo 54 = .ok (.aload_n 0, 1) := by decide +kernel
theorem dX8_undo_55 : decode cX8_undo 55 = .ok (.getfield 195, 3) := by decide +kernel
theorem dX8_undo_58 : decode cX8_undo 58 = .ok (.aload_n 1, 1) := by decide +kernel
theorem dX8_undo_59 : decode cX8_undo 59 = .ok (.aastore, 1) := by decide +kernel
theorem dX8_undo_60 : decode cX8_undo 60 = .ok (.aload_n 0, 1) := by decide +kernel
theorem dX8_undo_61 : decode cX8_undo 61 = .ok (.getfield 195, 3) := by decide +kernel
theorem dX8_undo_64 : decode cX8_undo 64 = .ok (.ireturn, 1) := by decide +kernel
theorem dX8_save_0 : decode cX8_save 0 = .ok (.iload_n 1, 1) := by decide +kernel
theorem dX8_save_1 : decode cX8_save 1 = .ok (.ifCond .lt 12, 3) := by decide +kernel
theorem dX8_save_4 : decode cX8_save 4 = .ok (.iload_n 1, 1) := by decide +kernel
theorem dX8_save_5 : decode cX8_save 5 = .ok (.aload_n 0, 1) := by decide +kernel
theorem dX8_save_6 : decode cX8_save 6 = .ok (.getfield 23, 3) := by decide +kernel
theorem dX8_save_9 : decode cX8_save 9 = .ok (.arraylength, 1) := by decide +kernel
theorem dX8_save_10 : decode cX8_save 10 = .ok (.if_icmp .lt 6, 3) := by decide +kernel
theorem dX8_save_13 : decode cX8_save 13 = .ok (.bipush (-2), 2) := by decide +kernel
theorem dX8_save_15 : decode cX8_save 15 = .ok (.ireturn, 1) := by decide +kernel
theorem dX8_save_16 : decode cX8_save 16 = .ok (.aload_n 0, 1) := by decide +kernel
theorem dX8_save_17 : decode cX8_save 17 = .ok (.getfield 23, 3) := by decide +kernel
theorem dX8_save_20 : decode cX8_save 20 = .ok (.iload_n 1, 1) := by decide +kernel
theorem dX8_save_21 : decode cX8_save 21 = .ok (.aaload, 1) := by decide +kernel
theorem dX8_save_22 : decode cX8_save 22 = .ok (.aload_n 0, 1) := by decide +kernel
theorem dX8_save_23 : decode cX8_save 23 = .ok (.getfield 10, 3) := by decide +kernel
theorem dX8_save_26 : decode cX8_save 26 = .ok (.invokevirtual 202, 3) := by decide +kernel
theorem dX8_save_29 : decode cX8_save 29 = .ok (.aload_n 0, 1) := by decide +kernel
theorem dX8_save_30 : decode cX8_save 30 = .ok (.getfield 26, 3) := by decide +kernel
theorem dX8_save_33 : decode cX8_save 33 = .ok (.iload_n 1, 1) := by decide +kernel
theorem dX8_save_34 : decode cX8_save 34 = .ok (.iconst 1, 1) := by decide +kernel
theorem dX8_save_35 : decode cX8_save 35 = .ok (.bastore, 1) := by decide +kernel
theorem dX8_save_36 : decode cX8_save 36 = .ok (.aload_n 0, 1) := by decide +kernel
theorem dX8_save_37 : decode cX8_save 37 = .ok (.getfield 10, 3) := by decide +kernel
theorem dX8_save_40 : decode cX8_save 40 = .ok (.getfield 56, 3) := by decide +kernel
theorem dX8_save_43 : decode cX8_save 43 = .ok (.getfield 176, 3) := by decide +kernel
theorem dX8_save_46 : decode cX8_save 46 = .ok (.ireturn, 1) := by decide +kernel
theorem dX8_restore_0 : decode cX8_restore 0 = .ok (.iload_n 1, 1) := by decide +kernel
theorem dX8_restore_1 : decode cX8_restore 1 = .ok (.ifCond .lt 12, 3) := by decide +kernel
theorem dX8_restore_4 : decode cX8_restore 4 = .ok (.iload_n 1, 1) := by decide +kernel
theorem dX8_restore_5 : decode cX8_restore 5 = .ok (.aload_n 0, 1) := by decide +kernel
theorem dX8_restore_6 : decode cX8_restore 6 = .ok (.getfield 23, 3) := by decide +kernel
theorem dX8_restore_9 : decode cX8_restore 9 = .ok (.arraylength, 1) := by decide +kernel
theorem dX8_restore_10 : decode cX8_restore 10 = .ok (.if_icmp .lt 6, 3) := by decide +kernel
theorem dX8_restore_13 : decode cX8_restore 13 = .ok (.bipush (-2), 2) := by decide +kernel
theorem dX8_restore_15 : decode cX8_restore 15 = .ok (.ireturn, 1) := by decide +kernel
theorem dX8_restore_16 : decode cX8_restore 16 = .ok (.aload_n 0, 1) := by decide +kernel
theorem dX8_restore_17 : decode cX8_restore 17 = .ok (.getfield 26, 3) := by decide +kernel
theorem dX8_restore_20 : decode cX8_restore 20 = .ok (.iload_n 1, 1) := by decide +kernel
theorem dX8_restore_21 : decode cX8_restore 21 = .ok (.baload, 1) := by decide +kernel
theorem dX8_restore_22 : decode cX8_restore 22 = .ok (.ifCond .ne 6, 3) := by decide +kernel
theorem dX8_restore_25 : decode cX8_restore 25 = .ok (.bipush (-5), 2) := by decide +kernel
theorem dX8_restore_27 : decode cX8_restore 27 = .ok (.ireturn, 1) := by decide +kernel
theorem dX8_restore_28 : decode cX8_restore 28 = .ok (.aload_n 0, 1) := by decide +kernel
theorem dX8_restore_29 : decode cX8_restore 29 = .ok (.invokevirtual 37, 3) := by decide +kernel
theorem dX8_restore_32 : decode cX8_restore 32 = .ok (.aload_n 0, 1) := by decide +kernel
theorem dX8_restore_33 : decode cX8_restore 33 = .ok (.getfield 10, 3) := by decide +kernel
theorem dX8_restore_36 : decode cX8_restore 36 = .ok (.aload_n 0, 1) := by decide +kernel
theorem dX8_restore_37 : decode cX8_restore 37 = .ok (.getfield 23, 3) := by decide +kernel
theorem dX8_restore_40 : decode cX8_restore 40 = .ok (.iload_n 1, 1) := by decide +kernel
theorem dX8_restore_41 : decode cX8_restore 41 = .ok (.aaload, 1) := by decide +kernel
theorem dX8_restore_42 : decode cX8_restore 42 = .ok (.invokevirtual 202, 3) := by decide +kernel
theorem dX8_restore_45 : decode cX8_restore 45 = .ok (.aload_n 0, 1) := by decide +kernel
theorem dX8_restore_46 : decode cX8_restore 46 = .ok (.aload_n 0, 1) := by decide +kernel
theorem dX8_restore_47 : decode cX8_restore 47 = .ok (.getfield 10, 3) := by decide +kernel
theorem dX8_restore_50 : decode cX8_restore 50 = .ok (.getfield 56, 3) := by decide +kernel
theorem dX8_restore_53 : decode cX8_restore 53 = .ok (.getfield 176, 3) := by decide +kernel
theorem dX8_restore_56 : decode cX8_restore 56 = .ok (.invokevirtual 44, 3) := by decide +kernel
theorem dX8_restore_59 : decode cX8_restore 59 = .ok (.ireturn, 1) := by decide +kernel
theorem dX8_within_0 : decode cX8_within 0 = .ok (.iload_n 0, 1) := by decide +kernel
theorem dX8_within_1 : decode cX8_within 1 = .ok (.iload_n 1, 1) := by decide +kernel
theorem dX8_within_2 : decode cX8_within 2 = .ok (.if_icmp .lt 12, 3) := by decide +kernel
theorem dX8_within_5 : decode cX8_within 5 = .ok (.iload_n 0, 1) := by decide +kernel
theorem dX8_within_6 : decode cX8_within 6 = .ok (.iload_n 2, 1) := by decide +kernel
theorem dX8_within_7 : decode cX8_within 7 = .ok (.if_icmp .gt 7, 3) := by decide +kernel
theorem dX8_within_10 : decode cX8_within 10 = .ok (.iconst 1, 1) := by decide +kernel
theorem dX8_within_11 : decode cX8_within 11 = .ok (.goto 4, 3) := by decide +kernel
theorem dX8_within_14 : decode cX8_within 14 = .ok (.iconst 0, 1) := by decide +kernel
theorem dX8_within_15 : decode cX8_within 15 = .ok (.ireturn, 1) := by decide +kernel
theorem dX8_nearer_0 : decode cX8_nearer 0 = .ok (.iload_n 0, 1) := by decide +kernel
theorem dX8_nearer_1 : decode cX8_nearer 1 = .ok (.iload_n 1, 1) := by decide +kernel
theorem dX8_nearer_2 : decode cX8_nearer 2 = .ok (.if_icmp .ge 13, 3) := by decide +kernel
theorem dX8_nearer_5 : decode cX8_nearer 5 = .ok (.iload_n 1, 1) := by decide +kernel
theorem dX8_nearer_6 : decode cX8_nearer 6 = .ok (.iload_n 0, 1) := by decide +kernel
theorem dX8_nearer_7 : decode cX8_nearer 7 = .ok (.iload_n 2, 1) := by decide +kernel
theorem dX8_nearer_8 : decode cX8_nearer 8 = .ok (.iadd, 1) := by decide +kernel
theorem dX8_nearer_9 : decode cX8_nearer 9 = .ok (.invokestatic 255, 3) := by decide +kernel
theorem dX8_nearer_12 : decode cX8_nearer 12 = .ok (.goto 10, 3) := by decide +kernel
theorem dX8_nearer_15 : decode cX8_nearer 15 = .ok (.iload_n 1, 1) := by decide +kernel
theorem dX8_nearer_16 : decode cX8_nearer 16 = .ok (.iload_n 0, 1) := by decide +kernel
theorem dX8_nearer_17 : decode cX8_nearer 17 = .ok (.iload_n 2, 1) := by decide +kernel
theorem dX8_nearer_18 : decode cX8_nearer 18 = .ok (.isub, 1) := by decide +kernel
theorem dX8_nearer_19 : decode cX8_nearer 19 = .ok (.invokestatic 227, 3) := by decide +kernel
theorem dX8_nearer_22 : decode cX8_nearer 22 = .ok (.ireturn, 1) := by decide +kernel
theorem dX8_holdState_0 : decode cX8_holdState 0 = .ok (.aload_n 0, 1) := by decide +kernel
theorem dX8_holdState_1 : decode cX8_holdState 1 = .ok (.getfield 195, 3) := by decide +kernel
theorem dX8_holdState_4 : decode cX8_holdState 4 = .ok (.ifCond .lt 31, 3) := by decide +kernel
theorem dX8_holdState_7 : decode cX8_holdState 7 = .ok (.aload_n 0, 1) := by decide +kernel
theorem dX8_holdState_8 : decode cX8_holdState 8 = .ok (.getfield 195, 3) := by decide +kernel
theorem dX8_holdState_11 : decode cX8_holdState 11 = .ok (.aload_n 0, 1) := by decide +kernel
theorem dX8_holdState_12 : decode cX8_holdState 12 = .ok (.getfield 19, 3) := by decide +kernel
theorem dX8_holdState_15 : decode cX8_holdState 15 = .ok (.arraylength, 1) := by decide +kernel
theorem dX8_holdState_16 : decode cX8_holdState 16 = .ok (.if_icmp .ge 19, 3) := by decide +kernel
theorem dX8_holdState_19 : decode cX8_holdState 19 = .ok (.aload_n 0, 1) := by decide +kernel
theorem dX8_holdState_20 : decode cX8_holdState 20 = .ok (.getfield 19, 3) := by decide +kernel
theorem dX8_holdState_23 : decode cX8_holdState 23 = .ok (.aload_n 0, 1) := by decide +kernel
theorem dX8_holdState_24 : decode cX8_holdState 24 = .ok (.getfield 195, 3) := by decide +kernel
theorem dX8_holdState_27 : decode cX8_holdState 27 = .ok (.aaload, 1) := by decide +kernel
theorem dX8_holdState_28 : decode cX8_holdState 28 = .ok (.aload_n 0, 1) := by decide +kernel
theorem dX8_holdState_29 : decode cX8_holdState 29 = .ok (.getfield 10, 3) := by decide +kernel
theorem dX8_holdState_32 : decode cX8_holdState 32 = .ok (.invokevirtual 202, 3) := by decide +kernel
theorem dX8_holdState_35 : decode cX8_holdState 35 = .ok (.return_, 1) := by decide +kernel
theorem dX8_recorded_0 : decode cX8_recorded 0 = .ok (.iload_n 1, 1) := by decide +kernel
theorem dX8_recorded_1 : decode cX8_recorded 1 = .ok (.ifCond .ge 5, 3) := by decide +kernel
theorem dX8_recorded_4 : decode cX8_recorded 4 = .ok (.iload_n 1, 1) := by decide +kernel
theorem dX8_recorded_5 : decode cX8_recorded 5 = .ok (.ireturn, 1) := by decide +kernel
theorem dX8_recorded_6 : decode cX8_recorded 6 = .ok (.aload_n 0, 1) := by decide +kernel
theorem dX8_recorded_7 : decode cX8_recorded 7 = .ok (.dup, 1) := by decide +kernel
theorem dX8_recorded_8 : decode cX8_recorded 8 = .ok (.getfield 195, 3) := by decide +kernel
theorem dX8_recorded_11 : decode cX8_recorded 11 = .ok (.iconst 1, 1) := by decide +kernel
theorem dX8_recorded_12 : decode cX8_recorded 12 = .ok (.iadd, 1) := by decide +kernel
theorem dX8_recorded_13 : decode cX8_recorded 13 = .ok (.putfield 195, 3) := by decide +kernel
theorem dX8_recorded_16 : decode cX8_recorded 16 = .ok (.aload_n 0, 1) := by decide +kernel
theorem dX8_recorded_17 : decode cX8_recorded 17 = .ok (.getfield 195, 3) := by decide +kernel
theorem dX8_recorded_20 : decode cX8_recorded 20 = .ok (.bipush 6, 2) := by decide +kernel
theorem dX8_recorded_22 : decode cX8_recorded 22 = .ok (.if_icmp .le 7, 3) := by decide +kernel
theorem dX8_recorded_25 : decode cX8_recorded 25 = .ok (.aload_n 0, 1) := by decide +kernel
theorem dX8_recorded_26 : decode cX8_recorded 26 = .ok (.invokevirtual 258, 3) := by decide +kernel
theorem dX8_recorded_29 : decode cX8_recorded 29 = .ok (.iload_n 1, 1) := by decide +kernel
theorem dX8_recorded_30 : decode cX8_recorded 30 = .ok (.ireturn, 1) := by decide +kernel
theorem dX8_dropOldestState_0 : decode cX8_dropOldestState 0 = .ok (.aload_n 0, 1) := by decide +kernel
theorem dX8_dropOldestState_1 : decode cX8_dropOldestState 1 = .ok (.getfield 19, 3) := by decide +kernel
theorem dX8_dropOldestState_4 : decode cX8_dropOldestState 4 = .ok (.iconst 0, 1) := by decide +kernel
theorem dX8_dropOldestState_5 : decode cX8_dropOldestState 5 = .ok (.aaload, 1) := by decide +kernel
theorem dX8_dropOldestState_6 : decode cX8_dropOldestState 6 = .ok (.astore_n 1, 1) := by decide +kernel
theorem dX8_dropOldestState_7 : decode cX8_dropOldestState 7 = .ok (.iconst 1, 1) := by decide +kernel
theorem dX8_dropOldestState_8 : decode cX8_dropOldestState 8 = .ok (.istore_n 2, 1) := by decide +kernel
theorem dX8_dropOldestState_9 : decode cX8_dropOldestState 9 = .ok (.iload_n 2, 1) := by decide +kernel
theorem dX8_dropOldestState_10 : decode cX8_dropOldestState 10 = .ok (.aload_n 0, 1) := by decide +kernel
theorem dX8_dropOldestState_11 : decode cX8_dropOldestState 11 = .ok (.getfield 19, 3) := by decide +kernel
theorem dX8_dropOldestState_14 : decode cX8_dropOldestState 14 = .ok (.arraylength, 1) := by decide +kernel
theorem dX8_dropOldestState_15 : decode cX8_dropOldestState 15 = .ok (.if_icmp .ge 23, 3) := by decide +kernel
theorem dX8_dropOldestState_18 : decode cX8_dropOldestState 18 = .ok (.aload_n 0, 1) := by decide +kernel
theorem dX8_dropOldestState_19 : decode cX8_dropOldestState 19 = .ok (.getfield 19, 3) := by decide +kernel
theorem dX8_dropOldestState_22 : decode cX8_dropOldestState 22 = .ok (.iload_n 2, 1) := by decide +kernel
theorem dX8_dropOldestState_23 : decode cX8_dropOldestState 23 = .ok (.iconst 1, 1) := by decide +kernel
theorem dX8_dropOldestState_24 : decode cX8_dropOldestState 24 = .ok (.isub, 1) := by decide +kernel
theorem dX8_dropOldestState_25 : decode cX8_dropOldestState 25 = .ok (.aload_n 0, 1) := by decide +kernel
theorem dX8_dropOldestState_26 : decode cX8_dropOldestState 26 = .ok (.getfield 19, 3) := by decide +kernel
theorem dX8_dropOldestState_29 : decode cX8_dropOldestState 29 = .ok (.iload_n 2, 1) := by decide +kernel
theorem dX8_dropOldestState_30 : decode cX8_dropOldestState 30 = .ok (.aaload, 1) := by decide +kernel
theorem dX8_dropOldestState_31 : decode cX8_dropOldestState 31 = .ok (.aastore, 1) := by decide +kernel
theorem dX8_dropOldestState_32 : decode cX8_dropOldestState 32 = .ok (.iinc 2 1, 3) := by decide +kernel
theorem dX8_dropOldestState_35 : decode cX8_dropOldestState 35 = .ok (.goto (-26), 3) := by decide +kernel
theorem dX8_dropOldestState_38 : decode cX8_dropOldestState 38 = .ok (.aload_n 0, 1) := by decide +kernel
theorem dX8_dropOldestState_39 : decode cX8_dropOldestState 39 = .ok (.getfield 19, 3) := by decide +kernel
theorem dX8_dropOldestState_42 : decode cX8_dropOldestState 42 = .ok (.aload_n 0, 1) := by decide +kernel
theorem dX8_dropOldestState_43 : decode cX8_dropOldestState 43 = .ok (.getfield 19, 3) := by decide +kernel
theorem dX8_dropOldestState_46 : decode cX8_dropOldestState 46 = .ok (.arraylength, 1) := by decide +kernel
theorem dX8_dropOldestState_47 : decode cX8_dropOldestState 47 = .ok (.iconst 1, 1) := by decide +kernel
theorem dX8_dropOldestState_48 : decode cX8_dropOldestState 48 = .ok (.isub, 1) := by decide +kernel
theorem dX8_dropOldestState_49 : decode cX8_dropOldestState 49 = .ok (.aload_n 1, 1) := by decide +kernel
theorem dX8_dropOldestState_50 : decode cX8_dropOldestState 50 = .ok (.aastore, 1) := by decide +kernel
theorem dX8_dropOldestState_51 : decode cX8_dropOldestState 51 = .ok (.aload_n 0, 1) := by decide +kernel
theorem dX8_dropOldestState_52 : decode cX8_dropOldestState 52 = .ok (.bipush 6, 2) := by decide +kernel
theorem dX8_dropOldestState_54 : decode cX8_dropOldestState 54 = .ok (.putfield 195, 3) := by decide +kernel
theorem dX8_dropOldestState_57 : decode cX8_dropOldestState 57 = .ok (.return_, 1) := by decide +kernel
theorem dX8_missedInTrial_0 : decode cX8_missedInTrial 0 = .ok (.aload_n 0, 1) := by decide +kernel
theorem dX8_missedInTrial_1 : decode cX8_missedInTrial 1 = .ok (.getfield 16, 3) := by decide +kernel
theorem dX8_missedInTrial_4 : decode cX8_missedInTrial 4 = .ok (.getfield 56, 3) := by decide +kernel
theorem dX8_missedInTrial_7 : decode cX8_missedInTrial 7 = .ok (.invokevirtual 206, 3) := by decide +kernel
theorem dX8_missedInTrial_10 : decode cX8_missedInTrial 10 = .ok (.istore_n 1, 1) := by decide +kernel
theorem dX8_missedInTrial_11 : decode cX8_missedInTrial 11 = .ok (.iconst 0, 1) := by decide +kernel
theorem dX8_missedInTrial_12 : decode cX8_missedInTrial 12 = .ok (.istore_n 2, 1) := by decide +kernel
theorem dX8_missedInTrial_13 : decode cX8_missedInTrial 13 = .ok (.iload_n 2, 1) := by decide +kernel
theorem dX8_missedInTrial_14 : decode cX8_missedInTrial 14 = .ok (.ldc 209, 2) := by decide +kernel
theorem dX8_missedInTrial_16 : decode cX8_missedInTrial 16 = .ok (.if_icmp .ge 30, 3) := by decide +kernel
theorem dX8_missedInTrial_19 : decode cX8_missedInTrial 19 = .ok (.aload_n 0, 1) := by decide +kernel
theorem dX8_missedInTrial_20 : decode cX8_missedInTrial 20 = .ok (.getfield 16, 3) := by decide +kernel
theorem dX8_missedInTrial_23 : decode cX8_missedInTrial 23 = .ok (.getfield 56, 3) := by decide +kernel
theorem dX8_missedInTrial_26 : decode cX8_missedInTrial 26 = .ok (.invokevirtual 261, 3) := by decide +kernel
theorem dX8_missedInTrial_29 : decode cX8_missedInTrial 29 = .ok (.ifCond .eq 17, 3) := by decide +kernel
theorem dX8_missedInTrial_32 : decode cX8_missedInTrial 32 = .ok (.aload_n 0, 1) := by decide +kernel
theorem dX8_missedInTrial_33 : decode cX8_missedInTrial 33 = .ok (.getfield 16, 3) := by decide +kernel
theorem dX8_missedInTrial_36 : decode cX8_missedInTrial 36 = .ok (.invokevirtual 214, 3) := by decide +kernel
theorem dX8_missedInTrial_39 : decode cX8_missedInTrial 39 = .ok (.pop, 1) := by decide +kernel
theorem dX8_missedInTrial_40 : decode cX8_missedInTrial 40 = .ok (.iinc 2 1, 3) := by decide +kernel
theorem dX8_missedInTrial_43 : decode cX8_missedInTrial 43 = .ok (.goto (-30), 3) := by decide +kernel
theorem dX8_missedInTrial_46 : decode cX8_missedInTrial 46 = .ok (.aload_n 0, 1) := by decide +kernel
theorem dX8_missedInTrial_47 : decode cX8_missedInTrial 47 = .ok (.getfield 16, 3) := by decide +kernel
theorem dX8_missedInTrial_50 : decode cX8_missedInTrial 50 = .ok (.getfield 56, 3) := by decide +kernel
theorem dX8_missedInTrial_53 : decode cX8_missedInTrial 53 = .ok (.invokevirtual 206, 3) := by decide +kernel
theorem dX8_missedInTrial_56 : decode cX8_missedInTrial 56 = .ok (.iload_n 1, 1) := by decide +kernel
theorem dX8_missedInTrial_57 : decode cX8_missedInTrial 57 = .ok (.isub, 1) := by decide +kernel
theorem dX8_missedInTrial_58 : decode cX8_missedInTrial 58 = .ok (.ireturn, 1) := by decide +kernel
theorem dX8_missesWith_0 : decode cX8_missesWith 0 = .ok (.aload_n 0, 1) := by decide +kernel
theorem dX8_missesWith_1 : decode cX8_missesWith 1 = .ok (.getfield 16, 3) := by decide +kernel
theorem dX8_missesWith_4 : decode cX8_missesWith 4 = .ok (.aload_n 0, 1) := by decide +kernel
theorem dX8_missesWith_5 : decode cX8_missesWith 5 = .ok (.getfield 10, 3) := by decide +kernel
theorem dX8_missesWith_8 : decode cX8_missesWith 8 = .ok (.invokevirtual 202, 3) := by decide +kernel
theorem dX8_missesWith_11 : decode cX8_missesWith 11 = .ok (.aload_n 0, 1) := by decide +kernel
theorem dX8_missesWith_12 : decode cX8_missesWith 12 = .ok (.getfield 16, 3) := by decide +kernel
theorem dX8_missesWith_15 : decode cX8_missesWith 15 = .ok (.getfield 189, 3) := by decide +kernel
theorem dX8_missesWith_18 : decode cX8_missesWith 18 = .ok (.iconst 0, 1) := by decide +kernel
theorem dX8_missesWith_19 : decode cX8_missesWith 19 = .ok (.iload_n 1, 1) := by decide +kernel
theorem dX8_missesWith_20 : decode cX8_missesWith 20 = .ok (.iastore, 1) := by decide +kernel
theorem dX8_missesWith_21 : decode cX8_missesWith 21 = .ok (.aload_n 0, 1) := by decide +kernel
theorem dX8_missesWith_22 : decode cX8_missesWith 22 = .ok (.invokevirtual 217, 3) := by decide +kernel
theorem dX8_missesWith_25 : decode cX8_missesWith 25 = .ok (.ifCond .le 7, 3) := by decide +kernel
theorem dX8_missesWith_28 : decode cX8_missesWith 28 = .ok (.iconst 1, 1) := by decide +kernel
theorem dX8_missesWith_29 : decode cX8_missesWith 29 = .ok (.goto 4, 3) := by decide +kernel
theorem dX8_missesWith_32 : decode cX8_missesWith 32 = .ok (.iconst 0, 1) := by decide +kernel
theorem dX8_missesWith_33 : decode cX8_missesWith 33 = .ok (.ireturn, 1) := by decide +kernel
theorem dX8_answerOfOrder_0 : decode cX8_answerOfOrder 0 = .ok (.aload_n 0, 1) := by decide +kernel
theorem dX8_answerOfOrder_1 : decode cX8_answerOfOrder 1 = .ok (.getfield 33, 3) := by decide +kernel
theorem dX8_answerOfOrder_4 : decode cX8_answerOfOrder 4 = .ok (.getfield 264, 3) := by decide +kernel
theorem dX8_answerOfOrder_7 : decode cX8_answerOfOrder 7 = .ok (.astore_n 1, 1) := by decide +kernel
theorem dX8_answerOfOrder_8 : decode cX8_answerOfOrder 8 = .ok (.aload_n 0, 1) := by decide +kernel
theorem dX8_answerOfOrder_9 : decode cX8_answerOfOrder 9 = .ok (.getfield 33, 3) := by decide +kernel
theorem dX8_answerOfOrder_12 : decode cX8_answerOfOrder 12 = .ok (.getfield 267, 3) := by decide +kernel
theorem dX8_answerOfOrder_15 : decode cX8_answerOfOrder 15 = .ok (.bipush 114, 2) := by decide +kernel
theorem dX8_answerOfOrder_17 : decode cX8_answerOfOrder 17 = .ok (.if_icmp .ne 20, 3) := by decide +kernel
theorem dX8_answerOfOrder_20 : decode cX8_answerOfOrder 20 = .ok (.aload_n 0, 1) := by decide +kernel
theorem dX8_answerOfOrder_21 : decode cX8_answerOfOrder 21 = .ok (.getfield 10, 3) := by decide +kernel
theorem dX8_answerOfOrder_24 : decode cX8_answerOfOrder 24 = .ok (.aload_n 1, 1) := by decide +kernel
theorem dX8_answerOfOrder_25 : decode cX8_answerOfOrder 25 = .ok (.iconst 0, 1) := by decide +kernel
theorem dX8_answerOfOrder_26 : decode cX8_answerOfOrder 26 = .ok (.iaload, 1) := by decide +kernel
theorem dX8_answerOfOrder_27 : decode cX8_answerOfOrder 27 = .ok (.aload_n 1, 1) := by decide +kernel
theorem dX8_answerOfOrder_28 : decode cX8_answerOfOrder 28 = .ok (.iconst 1, 1) := by decide +kernel
theorem dX8_answerOfOrder_29 : decode cX8_answerOfOrder 29 = .ok (.iaload, 1) := by decide +kernel
theorem dX8_answerOfOrder_30 : decode cX8_answerOfOrder 30 = .ok (.aload_n 1, 1) := by decide +kernel
theorem dX8_answerOfOrder_31 : decode cX8_answerOfOrder 31 = .ok (.iconst 2, 1) := by decide +kernel
theorem dX8_answerOfOrder_32 : decode cX8_answerOfOrder 32 = .ok (.iaload, 1) := by decide +kernel
theorem dX8_answerOfOrder_33 : decode cX8_answerOfOrder 33 = .ok (.invokevirtual 48, 3) := by decide +kernel
theorem dX8_answerOfOrder_36 : decode cX8_answerOfOrder 36 = .ok (.ireturn, 1) := by decide +kernel
theorem dX8_answerOfOrder_37 : decode cX8_answerOfOrder 37 = .ok (.aload_n 0, 1) := by decide +kernel
theorem dX8_answerOfOrder_38 : decode cX8_answerOfOrder 38 = .ok (.getfield 33, 3) := by decide +kernel
theorem dX8_answerOfOrder_41 : decode cX8_answerOfOrder 41 = .ok (.getfield 267, 3) := by decide +kernel
theorem dX8_answerOfOrder_44 : decode cX8_answerOfOrder 44 = .ok (.bipush 115, 2) := by decide +kernel
theorem dX8_answerOfOrder_46 : decode cX8_answerOfOrder 46 = .ok (.if_icmp .ne 21, 3) := by decide +kernel
theorem dX8_answerOfOrder_49 : decode cX8_answerOfOrder 49 = .ok (.aload_n 0, 1) := by decide +kernel
theorem dX8_answerOfOrder_50 : decode cX8_answerOfOrder 50 = .ok (.getfield 10, 3) := by decide +kernel
theorem dX8_answerOfOrder_53 : decode cX8_answerOfOrder 53 = .ok (.aload_n 1, 1) := by decide +kernel
theorem dX8_answerOfOrder_54 : decode cX8_answerOfOrder 54 = .ok (.iconst 0, 1) := by decide +kernel
theorem dX8_answerOfOrder_55 : decode cX8_answerOfOrder 55 = .ok (.iaload, 1) := by decide +kernel
theorem dX8_answerOfOrder_56 : decode cX8_answerOfOrder 56 = .ok (.iconst 0, 1) := by decide +kernel
theorem dX8_answerOfOrder_57 : decode cX8_answerOfOrder 57 = .ok (.aload_n 1, 1) := by decide +kernel
theorem dX8_answerOfOrder_58 : decode cX8_answerOfOrder 58 = .ok (.iconst 1, 1) := by decide +kernel
theorem dX8_answerOfOrder_59 : decode cX8_answerOfOrder 59 = .ok (.iaload, 1) := by decide +kernel
theorem dX8_answerOfOrder_60 : decode cX8_answerOfOrder 60 = .ok (.aload_n 1, 1) := by decide +kernel
theorem dX8_answerOfOrder_61 : decode cX8_answerOfOrder 61 = .ok (.iconst 2, 1) := by decide +kernel
theorem dX8_answerOfOrder_62 : decode cX8_answerOfOrder 62 = .ok (.iaload, 1) := by decide +kernel
theorem dX8_answerOfOrder_63 : decode cX8_answerOfOrder 63 = .ok (.invokevirtual 52, 3) := by decide +kernel
theorem dX8_answerOfOrder_66 : decode cX8_answerOfOrder 66 = .ok (.ireturn, 1) := by decide +kernel
theorem dX8_answerOfOrder_67 : decode cX8_answerOfOrder 67 = .ok (.aload_n 0, 1) := by decide +kernel
theorem dX8_answerOfOrder_68 : decode cX8_answerOfOrder 68 = .ok (.getfield 33, 3) := by decide +kernel
theorem dX8_answerOfOrder_71 : decode cX8_answerOfOrder 71 = .ok (.getfield 267, 3) := by decide +kernel
theorem dX8_answerOfOrder_74 : decode cX8_answerOfOrder 74 = .ok (.bipush 100, 2) := by decide +kernel
theorem dX8_answerOfOrder_76 : decode cX8_answerOfOrder 76 = .ok (.if_icmp .ne 21, 3) := by decide +kernel
theorem dX8_answerOfOrder_79 : decode cX8_answerOfOrder 79 = .ok (.aload_n 0, 1) := by decide +kernel
theorem dX8_answerOfOrder_80 : decode cX8_answerOfOrder 80 = .ok (.getfield 10, 3) := by decide +kernel
theorem dX8_answerOfOrder_83 : decode cX8_answerOfOrder 83 = .ok (.aload_n 1, 1) := by decide +kernel
theorem dX8_answerOfOrder_84 : decode cX8_answerOfOrder 84 = .ok (.iconst 0, 1) := by decide +kernel
theorem dX8_answerOfOrder_85 : decode cX8_answerOfOrder 85 = .ok (.iaload, 1) := by decide +kernel
theorem dX8_answerOfOrder_86 : decode cX8_answerOfOrder 86 = .ok (.iconst 1, 1) := by decide +kernel
theorem dX8_answerOfOrder_87 : decode cX8_answerOfOrder 87 = .ok (.aload_n 1, 1) := by decide +kernel
theorem dX8_answerOfOrder_88 : decode cX8_answerOfOrder 88 = .ok (.iconst 1, 1) := by decide +kernel
theorem dX8_answerOfOrder_89 : decode cX8_answerOfOrder 89 = .ok (.iaload, 1) := by decide +kernel
theorem dX8_answerOfOrder_90 : decode cX8_answerOfOrder 90 = .ok (.aload_n 1, 1) := by decide +kernel
theorem dX8_answerOfOrder_91 : decode cX8_answerOfOrder 91 = .ok (.iconst 2, 1) := by decide +kernel
theorem dX8_answerOfOrder_92 : decode cX8_answerOfOrder 92 = .ok (.iaload, 1) := by decide +kernel
theorem dX8_answerOfOrder_93 : decode cX8_answerOfOrder 93 = .ok (.invokevirtual 52, 3) := by decide +kernel
theorem dX8_answerOfOrder_96 : decode cX8_answerOfOrder 96 = .ok (.ireturn, 1) := by decide +kernel
theorem dX8_answerOfOrder_97 : decode cX8_answerOfOrder 97 = .ok (.aload_n 0, 1) := by decide +kernel
theorem dX8_answerOfOrder_98 : decode cX8_answerOfOrder 98 = .ok (.getfield 33, 3) := by decide +kernel
theorem dX8_answerOfOrder_101 : decode cX8_answerOfOrder 101 = .ok (.getfield 267, 3) := by decide +kernel
theorem dX8_answerOfOrder_104 : decode cX8_answerOfOrder 104 = .ok (.bipush 108, 2) := by decide +kernel
theorem dX8_answerOfOrder_106 : decode cX8_answerOfOrder 106 = .ok (.if_icmp .ne 21, 3) := by decide +kernel
theorem dX8_answerOfOrder_109 : decode cX8_answerOfOrder 109 = .ok (.aload_n 0, 1) := by decide +kernel
theorem dX8_answerOfOrder_110 : decode cX8_answerOfOrder 110 = .ok (.getfield 10, 3) := by decide +kernel
theorem dX8_answerOfOrder_113 : decode cX8_answerOfOrder 113 = .ok (.aload_n 1, 1) := by decide +kernel
theorem dX8_answerOfOrder_114 : decode cX8_answerOfOrder 114 = .ok (.iconst 0, 1) := by decide +kernel
theorem dX8_answerOfOrder_115 : decode cX8_answerOfOrder 115 = .ok (.iaload, 1) := by decide +kernel
theorem dX8_answerOfOrder_116 : decode cX8_answerOfOrder 116 = .ok (.iconst 2, 1) := by decide +kernel
theorem dX8_answerOfOrder_117 : decode cX8_answerOfOrder 117 = .ok (.aload_n 1, 1) := by decide +kernel
theorem dX8_answerOfOrder_118 : decode cX8_answerOfOrder 118 = .ok (.iconst 1, 1) := by decide +kernel
theorem dX8_answerOfOrder_119 : decode cX8_answerOfOrder 119 = .ok (.iaload, 1) := by decide +kernel
theorem dX8_answerOfOrder_120 : decode cX8_answerOfOrder 120 = .ok (.aload_n 1, 1) := by decide +kernel
theorem dX8_answerOfOrder_121 : decode cX8_answerOfOrder 121 = .ok (.iconst 2, 1) := by decide +kernel
theorem dX8_answerOfOrder_122 : decode cX8_answerOfOrder 122 = .ok (.iaload, 1) := by decide +kernel
theorem dX8_answerOfOrder_123 : decode cX8_answerOfOrder 123 = .ok (.invokevirtual 52, 3) := by decide +kernel
theorem dX8_answerOfOrder_126 : decode cX8_answerOfOrder 126 = .ok (.ireturn, 1) := by decide +kernel
theorem dX8_answerOfOrder_127 : decode cX8_answerOfOrder 127 = .ok (.aload_n 0, 1) := by decide +kernel
theorem dX8_answerOfOrder_128 : decode cX8_answerOfOrder 128 = .ok (.getfield 10, 3) := by decide +kernel
theorem dX8_answerOfOrder_131 : decode cX8_answerOfOrder 131 = .ok (.aload_n 1, 1) := by decide +kernel
theorem dX8_answerOfOrder_132 : decode cX8_answerOfOrder 132 = .ok (.iconst 0, 1) := by decide +kernel
theorem dX8_answerOfOrder_133 : decode cX8_answerOfOrder 133 = .ok (.iaload, 1) := by decide +kernel
theorem dX8_answerOfOrder_134 : decode cX8_answerOfOrder 134 = .ok (.invokevirtual 75, 3) := by decide +kernel
theorem dX8_answerOfOrder_137 : decode cX8_answerOfOrder 137 = .ok (.ireturn, 1) := by decide +kernel
theorem dX9_init_0 : decode cX9_init 0 = .ok (.aload_n 0, 1) := by decide +kernel
theorem dX9_init_1 : decode cX9_init 1 = .ok (.invokespecial 1, 3) := by decide +kernel
theorem dX9_init_4 : decode cX9_init 4 = .ok (.aload_n 0, 1) := by decide +kernel
theorem dX9_init_5 : decode cX9_init 5 = .ok (.sipush 1620, 3) := by decide +kernel
theorem dX9_init_8 : decode cX9_init 8 = .ok (.newarray .int, 2) := by decide +kernel
theorem dX9_init_10 : decode cX9_init 10 = .ok (.putfield 7, 3) := by decide +kernel
theorem dX9_init_13 : decode cX9_init 13 = .ok (.aload_n 0, 1) := by decide +kernel
theorem dX9_init_14 : decode cX9_init 14 = .ok (.sipush 9720, 3) := by decide +kernel
theorem dX9_init_17 : decode cX9_init 17 = .ok (.newarray .int, 2) := by decide +kernel
theorem dX9_init_19 : decode cX9_init 19 = .ok (.putfield 13, 3) := by decide +kernel
theorem dX9_init_22 : decode cX9_init 22 = .ok (.aload_n 0, 1) := by decide +kernel
theorem dX9_init_23 : decode cX9_init 23 = .ok (.sipush 3240, 3) := by decide +kernel
theorem dX9_init_26 : decode cX9_init 26 = .ok (.newarray .int, 2) := by decide +kernel
theorem dX9_init_28 : decode cX9_init 28 = .ok (.putfield 16, 3) := by decide +kernel
theorem dX9_init_31 : decode cX9_init 31 = .ok (.aload_n 0, 1) := by decide +kernel
theorem dX9_init_32 : decode cX9_init 32 = .ok (.iconst 2, 1) := by decide +kernel
theorem dX9_init_33 : decode cX9_init 33 = .ok (.newarray .boolean, 2) := by decide +kernel
theorem dX9_init_35 : decode cX9_init 35 = .ok (.putfield 19, 3) := by decide +kernel
theorem dX9_init_38 : decode cX9_init 38 = .ok (.aload_n 0, 1) := by decide +kernel
theorem dX9_init_39 : decode cX9_init 39 = .ok (.sipush 1620, 3) := by decide +kernel
theorem dX9_init_42 : decode cX9_init 42 = .ok (.newarray .int, 2) := by decide +kernel
theorem dX9_init_44 : decode cX9_init 44 = .ok (.putfield 23, 3) := by decide +kernel
theorem dX9_init_47 : decode cX9_init 47 = .ok (.aload_n 0, 1) := by decide +kernel
theorem dX9_init_48 : decode cX9_init 48 = .ok (.bipush 80, 2) := by decide +kernel
theorem dX9_init_50 : decode cX9_init 50 = .ok (.newarray .int, 2) := by decide +kernel
theorem dX9_init_52 : decode cX9_init 52 = .ok (.putfield 26, 3) := by decide +kernel
theorem dX9_init_55 : decode cX9_init 55 = .ok (.aload_n 0, 1) := by decide +kernel
theorem dX9_init_56 : decode cX9_init 56 = .ok (.bipush 120, 2) := by decide +kernel
theorem dX9_init_58 : decode cX9_init 58 = .ok (.newarray .int, 2) := by decide +kernel
theorem dX9_init_60 : decode cX9_init 60 = .ok (.putfield 29, 3) := by decide +kernel
theorem dX9_init_63 : decode cX9_init 63 = .ok (.aload_n 0, 1) := by decide +kernel
theorem dX9_init_64 : decode cX9_init 64 = .ok (.getfield 7, 3) := by decide +kernel
theorem dX9_init_67 : decode cX9_init 67 = .ok (.iconst 0, 1) := by decide +kernel
theorem dX9_init_68 : decode cX9_init 68 = .ok (.iconst 4, 1) := by decide +kernel
theorem dX9_init_69 : decode cX9_init 69 = .ok (.iastore, 1) := by decide +kernel
theorem dX9_init_70 : decode cX9_init 70 = .ok (.aload_n 0, 1) := by decide +kernel
theorem dX9_init_71 : decode cX9_init 71 = .ok (.getfield 7, 3) := by decide +kernel
theorem dX9_init_74 : decode cX9_init 74 = .ok (.iconst 1, 1) := by decide +kernel
theorem dX9_init_75 : decode cX9_init 75 = .ok (.iconst 2, 1) := by decide +kernel
theorem dX9_init_76 : decode cX9_init 76 = .ok (.iastore, 1) := by decide +kernel
theorem dX9_init_77 : decode cX9_init 77 = .ok (.aload_n 0, 1) := by decide +kernel
theorem dX9_init_78 : decode cX9_init 78 = .ok (.getfield 7, 3) := by decide +kernel
theorem dX9_init_81 : decode cX9_init 81 = .ok (.iconst 2, 1) := by decide +kernel
theorem dX9_init_82 : decode cX9_init 82 = .ok (.bipush 10, 2) := by decide +kernel
theorem dX9_init_84 : decode cX9_init 84 = .ok (.iastore, 1) := by decide +kernel
theorem dX9_init_85 : decode cX9_init 85 = .ok (.aload_n 0, 1) := by decide +kernel
theorem dX9_init_86 : decode cX9_init 86 = .ok (.getfield 7, 3) := by decide +kernel
theorem dX9_init_89 : decode cX9_init 89 = .ok (.iconst 3, 1) := by decide +kernel
theorem dX9_init_90 : decode cX9_init 90 = .ok (.sipush 150, 3) := by decide +kernel
theorem dX9_init_93 : decode cX9_init 93 = .ok (.iastore, 1) := by decide +kernel
theorem dX9_init_94 : decode cX9_init 94 = .ok (.iconst 0, 1) := by decide +kernel
theorem dX9_init_95 : decode cX9_init 95 = .ok (.istore_n 1, 1) := by decide +kernel
theorem dX9_init_96 : decode cX9_init 96 = .ok (.iload_n 1, 1) := by decide +kernel
theorem dX9_init_97 : decode cX9_init 97 = .ok (.bipush 8, 2) := by decide +kernel
theorem dX9_init_99 : decode cX9_init 99 = .ok (.if_icmp .ge 21, 3) := by decide +kernel
theorem dX9_init_102 : decode cX9_init 102 = .ok (.aload_n 0, 1) := by decide +kernel
theorem dX9_init_103 : decode cX9_init 103 = .ok (.getfield 7, 3) := by decide +kernel
theorem dX9_init_106 : decode cX9_init 106 = .ok (.sipush 216, 3) := by decide +kernel
theorem dX9_init_109 : decode cX9_init 109 = .ok (.iload_n 1, 1) := by decide +kernel
theorem dX9_init_110 : decode cX9_init 110 = .ok (.iadd, 1) := by decide +kernel
theorem dX9_init_111 : decode cX9_init 111 = .ok (.bipush 50, 2) := by decide +kernel
theorem dX9_init_113 : decode cX9_init 113 = .ok (.iastore, 1) := by decide +kernel
theorem dX9_init_114 : decode cX9_init 114 = .ok (.iinc 1 1, 3) := by decide +kernel
theorem dX9_init_117 : decode cX9_init 117 = .ok (.goto (-21), 3) := by decide +kernel
theorem dX9_init_120 : decode cX9_init 120 = .ok (.return_, 1) := by decide +kernel
theorem dX9_in_0 : decode cX9_in 0 = .ok (.iload_n 0, 1) := by decide +kernel
theorem dX9_in_1 : decode cX9_in 1 = .ok (.iload_n 1, 1) := by decide +kernel
theorem dX9_in_2 : decode cX9_in 2 = .ok (.if_icmp .lt 12, 3) := by decide +kernel
theorem dX9_in_5 : decode cX9_in 5 = .ok (.iload_n 0, 1) := by decide +kernel
theorem dX9_in_6 : decode cX9_in 6 = .ok (.iload_n 2, 1) := by decide +kernel
theorem dX9_in_7 : decode cX9_in 7 = .ok (.if_icmp .gt 7, 3) := by decide +kernel
theorem dX9_in_10 : decode cX9_in 10 = .ok (.iconst 1, 1) := by decide +kernel
theorem dX9_in_11 : decode cX9_in 11 = .ok (.goto 4, 3) := by decide +kernel
theorem dX9_in_14 : decode cX9_in 14 = .ok (.iconst 0, 1) := by decide +kernel
theorem dX9_in_15 : decode cX9_in 15 = .ok (.ireturn, 1) := by decide +kernel
theorem dX9_changes_0 : decode cX9_changes 0 = .ok (.aload_n 0, 1) := by decide +kernel
theorem dX9_changes_1 : decode cX9_changes 1 = .ok (.getfield 32, 3) := by decide +kernel
theorem dX9_changes_4 : decode cX9_changes 4 = .ok (.ifCond .eq 4, 3) := by decide +kernel
theorem dX9_changes_7 : decode cX9_changes 7 = .ok (.return_, 1) := by decide +kernel
theorem dX9_changes_8 : decode cX9_changes 8 = .ok (.aload_n 0, 1) := by decide +kernel
theorem dX9_changes_9 : decode cX9_changes 9 = .ok (.getfield 36, 3) := by decide +kernel
theorem dX9_changes_12 : decode cX9_changes 12 = .ok (.bipush 6, 2) := by decide +kernel
theorem dX9_changes_14 : decode cX9_changes 14 = .ok (.if_icmp .ne 44, 3) := by decide +kernel
theorem dX9_changes_17 : decode cX9_changes 17 = .ok (.iconst 0, 1) := by decide +kernel
theorem dX9_changes_18 : decode cX9_changes 18 = .ok (.istore_n 1, 1) := by decide +kernel
theorem dX9_changes_19 : decode cX9_changes 19 = .ok (.iload_n 1, 1) := by decide +kernel
theorem dX9_changes_20 : decode cX9_changes 20 = .ok (.sipush 8100, 3) := by decide +kernel
theorem dX9_changes_23 : decode cX9_changes 23 = .ok (.if_icmp .ge 25, 3) := by decide +kernel
theorem dX9_changes_26 : decode cX9_changes 26 = .ok (.aload_n 0, 1) := by decide +kernel
theorem dX9_changes_27 : decode cX9_changes 27 = .ok (.getfield 13, 3) := by decide +kernel
theorem dX9_changes_30 : decode cX9_changes 30 = .ok (.iload_n 1, 1) := by decide +kernel
theorem dX9_changes_31 : decode cX9_changes 31 = .ok (.aload_n 0, 1) := by decide +kernel
theorem dX9_changes_32 : decode cX9_changes 32 = .ok (.getfield 13, 3) := by decide +kernel
theorem dX9_changes_35 : decode cX9_changes 35 = .ok (.iload_n 1, 1) := by decide +kernel
theorem dX9_changes_36 : decode cX9_changes 36 = .ok (.sipush 1620, 3) := by decide +kernel
theorem dX9_changes_39 : decode cX9_changes 39 = .ok (.iadd, 1) := by decide +kernel
theorem dX9_changes_40 : decode cX9_changes 40 = .ok (.iaload, 1) := by decide +kernel
theorem dX9_changes_41 : decode cX9_changes 41 = .ok (.iastore, 1) := by decide +kernel
theorem dX9_changes_42 : decode cX9_changes 42 = .ok (.iinc 1 1, 3) := by decide +kernel
theorem dX9_changes_45 : decode cX9_changes 45 = .ok (.goto (-26), 3) := by decide +kernel
theorem dX9_changes_48 : decode cX9_changes 48 = .ok (.aload_n 0, 1) := by decide +kernel
theorem dX9_changes_49 : decode cX9_changes 49 = .ok (.dup, 1) := by decide +kernel
theorem dX9_changes_50 : decode cX9_changes 50 = .ok (.getfield 36, 3) := by decide +kernel
theorem dX9_changes_53 : decode cX9_changes 53 = .ok (.iconst 1, 1) := by decide +kernel
theorem dX9_changes_54 : decode cX9_changes 54 = .ok (.isub, 1) := by decide +kernel
theorem dX9_changes_55 : decode cX9_changes 55 = .ok (.putfield 36, 3) := by decide +kernel
theorem dX9_changes_58 : decode cX9_changes 58 = .ok (.iconst 0, 1) := by decide +kernel
theorem dX9_changes_59 : decode cX9_changes 59 = .ok (.istore_n 1, 1) := by decide +kernel
theorem dX9_changes_60 : decode cX9_changes 60 = .ok (.iload_n 1, 1) := by decide +kernel
theorem dX9_changes_61 : decode cX9_changes 61 = .ok (.sipush 1620, 3) := by decide +kernel
theorem dX9_changes_64 : decode cX9_changes 64 = .ok (.if_icmp .ge 30, 3) := by decide +kernel
theorem dX9_changes_67 : decode cX9_changes 67 = .ok (.aload_n 0, 1) := by decide +kernel
theorem dX9_changes_68 : decode cX9_changes 68 = .ok (.getfield 13, 3) := by decide +kernel
theorem dX9_changes_71 : decode cX9_changes 71 = .ok (.sipush 1620, 3) := by decide +kernel
theorem dX9_changes_74 : decode cX9_changes 74 = .ok (.aload_n 0, 1) := by decide +kernel
theorem dX9_changes_75 : decode cX9_changes 75 = .ok (.getfield 36, 3) := by decide +kernel
theorem dX9_changes_78 : decode cX9_changes 78 = .ok (.imul, 1) := by decide +kernel
theorem dX9_changes_79 : decode cX9_changes 79 = .ok (.iload_n 1, 1) := by decide +kernel
theorem dX9_changes_80 : decode cX9_changes 80 = .ok (.iadd, 1) := by decide +kernel
theorem dX9_changes_81 : decode cX9_changes 81 = .ok (.aload_n 0, 1) := by decide +kernel
theorem dX9_changes_82 : decode cX9_changes 82 = .ok (.getfield 7, 3) := by decide +kernel
theorem dX9_changes_85 : decode cX9_changes 85 = .ok (.iload_n 1, 1) := by decide +kernel
theorem dX9_changes_86 : decode cX9_changes 86 = .ok (.iaload, 1) := by decide +kernel
theorem dX9_changes_87 : decode cX9_changes 87 = .ok (.iastore, 1) := by decide +kernel
theorem dX9_changes_88 : decode cX9_changes 88 = .ok (.iinc 1 1, 3) := by decide +kernel
theorem dX9_changes_91 : decode cX9_changes 91 = .ok (.goto (-31), 3) := by decide +kernel
theorem dX9_changes_94 : decode cX9_changes 94 = .ok (.aload_n 0, 1) := by decide +kernel
theorem dX9_changes_95 : decode cX9_changes 95 = .ok (.dup, 1) := by decide +kernel
theorem dX9_changes_96 : decode cX9_changes 96 = .ok (.getfield 36, 3) := by decide +kernel
theorem dX9_changes_99 : decode cX9_changes 99 = .ok (.iconst 1, 1) := by decide +kernel
theorem dX9_changes_100 : decode cX9_changes 100 = .ok (.iadd, 1) := by decide +kernel
theorem dX9_changes_101 : decode cX9_changes 101 = .ok (.putfield 36, 3) := by decide +kernel
theorem dX9_changes_104 : decode cX9_changes 104 = .ok (.return_, 1) := by decide +kernel
theorem dX9_putsAside_0 : decode cX9_putsAside 0 = .ok (.iconst 0, 1) := by decide +kernel
theorem dX9_putsAside_1 : decode cX9_putsAside 1 = .ok (.istore_n 1, 1) := by decide +kernel
theorem dX9_putsAside_2 : decode cX9_putsAside 2 = .ok (.iload_n 1, 1) := by decide +kernel
theorem dX9_putsAside_3 : decode cX9_putsAside 3 = .ok (.sipush 1620, 3) := by decide +kernel
theorem dX9_putsAside_6 : decode cX9_putsAside 6 = .ok (.if_icmp .ge 21, 3) := by decide +kernel
theorem dX9_putsAside_9 : decode cX9_putsAside 9 = .ok (.aload_n 0, 1) := by decide +kernel
theorem dX9_putsAside_10 : decode cX9_putsAside 10 = .ok (.getfield 23, 3) := by decide +kernel
theorem dX9_putsAside_13 : decode cX9_putsAside 13 = .ok (.iload_n 1, 1) := by decide +kernel
theorem dX9_putsAside_14 : decode cX9_putsAside 14 = .ok (.aload_n 0, 1) := by decide +kernel
theorem dX9_putsAside_15 : decode cX9_putsAside 15 = .ok (.getfield 7, 3) := by decide +kernel
theorem dX9_putsAside_18 : decode cX9_putsAside 18 = .ok (.iload_n 1, 1) := by decide +kernel
theorem dX9_putsAside_19 : decode cX9_putsAside 19 = .ok (.iaload, 1) := by decide +kernel
theorem dX9_putsAside_20 : decode cX9_putsAside 20 = .ok (.iastore, 1) := by decide +kernel
theorem dX9_putsAside_21 : decode cX9_putsAside 21 = .ok (.iinc 1 1, 3) := by decide +kernel
theorem dX9_putsAside_24 : decode cX9_putsAside 24 = .ok (.goto (-22), 3) := by decide +kernel
theorem dX9_putsAside_27 : decode cX9_putsAside 27 = .ok (.return_, 1) := by decide +kernel
theorem dX9_putsBack_0 : decode cX9_putsBack 0 = .ok (.iconst 0, 1) := by decide +kernel
theorem dX9_putsBack_1 : decode cX9_putsBack 1 = .ok (.istore_n 1, 1) := by decide +kernel
theorem dX9_putsBack_2 : decode cX9_putsBack 2 = .ok (.iload_n 1, 1) := by decide +kernel
theorem dX9_putsBack_3 : decode cX9_putsBack 3 = .ok (.sipush 1620, 3) := by decide +kernel
theorem dX9_putsBack_6 : decode cX9_putsBack 6 = .ok (.if_icmp .ge 21, 3) := by decide +kernel
theorem dX9_putsBack_9 : decode cX9_putsBack 9 = .ok (.aload_n 0, 1) := by decide +kernel
theorem dX9_putsBack_10 : decode cX9_putsBack 10 = .ok (.getfield 7, 3) := by decide +kernel
theorem dX9_putsBack_13 : decode cX9_putsBack 13 = .ok (.iload_n 1, 1) := by decide +kernel
theorem dX9_putsBack_14 : decode cX9_putsBack 14 = .ok (.aload_n 0, 1) := by decide +kernel
theorem dX9_putsBack_15 : decode cX9_putsBack 15 = .ok (.getfield 23, 3) := by decide +kernel
theorem dX9_putsBack_18 : decode cX9_putsBack 18 = .ok (.iload_n 1, 1) := by decide +kernel
theorem dX9_putsBack_19 : decode cX9_putsBack 19 = .ok (.iaload, 1) := by decide +kernel
theorem dX9_putsBack_20 : decode cX9_putsBack 20 = .ok (.iastore, 1) := by decide +kernel
theorem dX9_putsBack_21 : decode cX9_putsBack 21 = .ok (.iinc 1 1, 3) := by decide +kernel
theorem dX9_putsBack_24 : decode cX9_putsBack 24 = .ok (.goto (-22), 3) := by decide +kernel
theorem dX9_putsBack_27 : decode cX9_putsBack 27 = .ok (.return_, 1) := by decide +kernel
theorem dX9_of_0 : decode cX9_of 0 = .ok (.aload_n 0, 1) := by decide +kernel
theorem dX9_of_1 : decode cX9_of 1 = .ok (.getfield 7, 3) := by decide +kernel
theorem dX9_of_4 : decode cX9_of 4 = .ok (.bipush 8, 2) := by decide +kernel
theorem dX9_of_6 : decode cX9_of 6 = .ok (.iconst 5, 1) := by decide +kernel
theorem dX9_of_7 : decode cX9_of 7 = .ok (.iload_n 1, 1) := by decide +kernel
theorem dX9_of_8 : decode cX9_of 8 = .ok (.imul, 1) := by decide +kernel
theorem dX9_of_9 : decode cX9_of 9 = .ok (.iadd, 1) := by decide +kernel
theorem dX9_of_10 : decode cX9_of 10 = .ok (.iload_n 2, 1) := by decide +kernel
theorem dX9_of_11 : decode cX9_of 11 = .ok (.iadd, 1) := by decide +kernel
theorem dX9_of_12 : decode cX9_of 12 = .ok (.iaload, 1) := by decide +kernel
theorem dX9_of_13 : decode cX9_of 13 = .ok (.ireturn, 1) := by decide +kernel
theorem dX9_lay_0 : decode cX9_lay 0 = .ok (.aload_n 0, 1) := by decide +kernel
theorem dX9_lay_1 : decode cX9_lay 1 = .ok (.getfield 7, 3) := by decide +kernel
theorem dX9_lay_4 : decode cX9_lay 4 = .ok (.bipush 8, 2) := by decide +kernel
theorem dX9_lay_6 : decode cX9_lay 6 = .ok (.iconst 5, 1) := by decide +kernel
theorem dX9_lay_7 : decode cX9_lay 7 = .ok (.iload_n 1, 1) := by decide +kernel
theorem dX9_lay_8 : decode cX9_lay 8 = .ok (.imul, 1) := by decide +kernel
theorem dX9_lay_9 : decode cX9_lay 9 = .ok (.iadd, 1) := by decide +kernel
theorem dX9_lay_10 : decode cX9_lay 10 = .ok (.iload_n 2, 1) := by decide +kernel
theorem dX9_lay_11 : decode cX9_lay 11 = .ok (.iadd, 1) := by decide +kernel
theorem dX9_lay_12 : decode cX9_lay 12 = .ok (.iload_n 3, 1) := by decide +kernel
theorem dX9_lay_13 : decode cX9_lay 13 = .ok (.iastore, 1) := by decide +kernel
theorem dX9_lay_14 : decode cX9_lay 14 = .ok (.return_, 1) := by decide +kernel
theorem dX9_reel_0 : decode cX9_reel 0 = .ok (.aload_n 0, 1) := by decide +kernel
theorem dX9_reel_1 : decode cX9_reel 1 = .ok (.getfield 7, 3) := by decide +kernel
theorem dX9_reel_4 : decode cX9_reel 4 = .ok (.sipush 128, 3) := by decide +kernel
theorem dX9_reel_7 : decode cX9_reel 7 = .ok (.iconst 4, 1) := by decide +kernel
theorem dX9_reel_8 : decode cX9_reel 8 = .ok (.iload_n 1, 1) := by decide +kernel
theorem dX9_reel_9 : decode cX9_reel 9 = .ok (.imul, 1) := by decide +kernel
theorem dX9_reel_10 : decode cX9_reel 10 = .ok (.iadd, 1) := by decide +kernel
theorem dX9_reel_11 : decode cX9_reel 11 = .ok (.iload_n 2, 1) := by decide +kernel
theorem dX9_reel_12 : decode cX9_reel 12 = .ok (.iadd, 1) := by decide +kernel
theorem dX9_reel_13 : decode cX9_reel 13 = .ok (.iaload, 1) := by decide +kernel
theorem dX9_reel_14 : decode cX9_reel 14 = .ok (.ireturn, 1) := by decide +kernel
theorem dX9_turn_0 : decode cX9_turn 0 = .ok (.aload_n 0, 1) := by decide +kernel
theorem dX9_turn_1 : decode cX9_turn 1 = .ok (.getfield 7, 3) := by decide +kernel
theorem dX9_turn_4 : decode cX9_turn 4 = .ok (.sipush 128, 3) := by decide +kernel
theorem dX9_turn_7 : decode cX9_turn 7 = .ok (.iconst 4, 1) := by decide +kernel
theorem dX9_turn_8 : decode cX9_turn 8 = .ok (.iload_n 1, 1) := by decide +kernel
theorem dX9_turn_9 : decode cX9_turn 9 = .ok (.imul, 1) := by decide +kernel
theorem dX9_turn_10 : decode cX9_turn 10 = .ok (.iadd, 1) := by decide +kernel
theorem dX9_turn_11 : decode cX9_turn 11 = .ok (.iload_n 2, 1) := by decide +kernel
theorem dX9_turn_12 : decode cX9_turn 12 = .ok (.iadd, 1) := by decide +kernel
theorem dX9_turn_13 : decode cX9_turn 13 = .ok (.iload_n 3, 1) := by decide +kernel
theorem dX9_turn_14 : decode cX9_turn 14 = .ok (.iastore, 1) := by decide +kernel
theorem dX9_turn_15 : decode cX9_turn 15 = .ok (.return_, 1) := by decide +kernel
theorem dX9_soundAt_0 : decode cX9_soundAt 0 = .ok (.sipush 144, 3) := by decide +kernel
theorem dX9_soundAt_3 : decode cX9_soundAt 3 = .ok (.iconst 3, 1) := by decide +kernel
theorem dX9_soundAt_4 : decode cX9_soundAt 4 = .ok (.bipush 6, 2) := by decide +kernel
theorem dX9_soundAt_6 : decode cX9_soundAt 6 = .ok (.iload_n 0, 1) := by decide +kernel
theorem dX9_soundAt_7 : decode cX9_soundAt 7 = .ok (.imul, 1) := by decide +kernel
theorem dX9_soundAt_8 : decode cX9_soundAt 8 = .ok (.iload_n 1, 1) := by decide +kernel
theorem dX9_soundAt_9 : decode cX9_soundAt 9 = .ok (.iadd, 1) := by decide +kernel
theorem dX9_soundAt_10 : decode cX9_soundAt 10 = .ok (.imul, 1) := by decide +kernel
theorem dX9_soundAt_11 : decode cX9_soundAt 11 = .ok (.iadd, 1) := by decide +kernel
theorem dX9_soundAt_12 : decode cX9_soundAt 12 = .ok (.ireturn, 1) := by decide +kernel
theorem dX9_isCue_0 : decode cX9_isCue 0 = .ok (.iload_n 1, 1) := by decide +kernel
theorem dX9_isCue_1 : decode cX9_isCue 1 = .ok (.iconst 0, 1) := by decide +kernel
theorem dX9_isCue_2 : decode cX9_isCue 2 = .ok (.aload_n 0, 1) := by decide +kernel
theorem dX9_isCue_3 : decode cX9_isCue 3 = .ok (.getfield 7, 3) := by decide +kernel
theorem dX9_isCue_6 : decode cX9_isCue 6 = .ok (.iconst 5, 1) := by decide +kernel
theorem dX9_isCue_7 : decode cX9_isCue 7 = .ok (.iaload, 1) := by decide +kernel
theorem dX9_isCue_8 : decode cX9_isCue 8 = .ok (.iconst 1, 1) := by decide +kernel
theorem dX9_isCue_9 : decode cX9_isCue 9 = .ok (.isub, 1) := by decide +kernel
theorem dX9_isCue_10 : decode cX9_isCue 10 = .ok (.invokestatic 40, 3) := by decide +kernel
theorem dX9_isCue_13 : decode cX9_isCue 13 = .ok (.ireturn, 1) := by decide +kernel
theorem dX9_isReel_0 : decode cX9_isReel 0 = .ok (.iload_n 0, 1) := by decide +kernel
theorem dX9_isReel_1 : decode cX9_isReel 1 = .ok (.iconst 0, 1) := by decide +kernel
theorem dX9_isReel_2 : decode cX9_isReel 2 = .ok (.iconst 3, 1) := by decide +kernel
theorem dX9_isReel_3 : decode cX9_isReel 3 = .ok (.invokestatic 40, 3) := by decide +kernel
theorem dX9_isReel_6 : decode cX9_isReel 6 = .ok (.ireturn, 1) := by decide +kernel
theorem dX9_isSound_0 : decode cX9_isSound 0 = .ok (.iload_n 1, 1) := by decide +kernel
theorem dX9_isSound_1 : decode cX9_isSound 1 = .ok (.invokestatic 44, 3) := by decide +kernel
theorem dX9_isSound_4 : decode cX9_isSound 4 = .ok (.ifCond .eq 23, 3) := by decide +kernel
theorem dX9_isSound_7 : decode cX9_isSound 7 = .ok (.iload_n 2, 1) := by decide +kernel
theorem dX9_isSound_8 : decode cX9_isSound 8 = .ok (.iconst 0, 1) := by decide +kernel
theorem dX9_isSound_9 : decode cX9_isSound 9 = .ok (.aload_n 0, 1) := by decide +kernel
theorem dX9_isSound_10 : decode cX9_isSound 10 = .ok (.iload_n 1, 1) := by decide +kernel
theorem dX9_isSound_11 : decode cX9_isSound 11 = .ok (.iconst 3, 1) := by decide +kernel
theorem dX9_isSound_12 : decode cX9_isSound 12 = .ok (.invokevirtual 48, 3) := by decide +kernel
theorem dX9_isSound_15 : decode cX9_isSound 15 = .ok (.iconst 1, 1) := by decide +kernel
theorem dX9_isSound_16 : decode cX9_isSound 16 = .ok (.isub, 1) := by decide +kernel
theorem dX9_isSound_17 : decode cX9_isSound 17 = .ok (.invokestatic 40, 3) := by decide +kernel
theorem dX9_isSound_20 : decode cX9_isSound 20 = .ok (.ifCond .eq 7, 3) := by decide +kernel
theorem dX9_isSound_23 : decode cX9_isSound 23 = .ok (.iconst 1, 1) := by decide +kernel
theorem dX9_isSound_24 : decode cX9_isSound 24 = .ok (.goto 4, 3) := by decide +kernel
theorem dX9_isSound_27 : decode cX9_isSound 27 = .ok (.iconst 0, 1) := by decide +kernel
theorem dX9_isSound_28 : decode cX9_isSound 28 = .ok (.ireturn, 1) := by decide +kernel
theorem dX9_beginning_0 : decode cX9_beginning 0 = .ok (.iconst 0, 1) := by decide +kernel
theorem dX9_beginning_1 : decode cX9_beginning 1 = .ok (.istore_n 3, 1) := by decide +kernel
theorem dX9_beginning_2 : decode cX9_beginning 2 = .ok (.iconst 0, 1) := by decide +kernel
theorem dX9_beginning_3 : decode cX9_beginning 3 = .ok (.istore 4, 2) := by decide +kernel
theorem dX9_beginning_5 : decode cX9_beginning 5 = .ok (.iload 4, 2) := by decide +kernel
theorem dX9_beginning_7 : decode cX9_beginning 7 = .ok (.iload_n 2, 1) := by decide +kernel
theorem dX9_beginning_8 : decode cX9_beginning 8 = .ok (.if_icmp .ge 25, 3) := by decide +kernel
theorem dX9_beginning_11 : decode cX9_beginning 11 = .ok (.iload_n 3, 1) := by decide +kernel
theorem dX9_beginning_12 : decode cX9_beginning 12 = .ok (.aload_n 0, 1) := by decide +kernel
theorem dX9_beginning_13 : decode cX9_beginning 13 = .ok (.getfield 7, 3) := by decide +kernel
theorem dX9_beginning_16 : decode cX9_beginning 16 = .ok (.iload_n 1, 1) := by decide +kernel
theorem dX9_beginning_17 : decode cX9_beginning 17 = .ok (.iload 4, 2) := by decide +kernel
theorem dX9_beginning_19 : decode cX9_beginning 19 = .ok (.invokestatic 52, 3) := by decide +kernel
theorem dX9_beginning_22 : decode cX9_beginning 22 = .ok (.iconst 0, 1) := by decide +kernel
theorem dX9_beginning_23 : decode cX9_beginning 23 = .ok (.iadd, 1) := by decide +kernel
theorem dX9_beginning_24 : decode cX9_beginning 24 = .ok (.iaload, 1) := by decide +kernel
theorem dX9_beginning_25 : decode cX9_beginning 25 = .ok (.iadd, 1) := by decide +kernel
theorem dX9_beginning_26 : decode cX9_beginning 26 = .ok (.istore_n 3, 1) := by decide +kernel
theorem dX9_beginning_27 : decode cX9_beginning 27 = .ok (.iinc 4 1, 3) := by decide +kernel
theorem dX9_beginning_30 : decode cX9_beginning 30 = .ok (.goto (-25), 3) := by decide +kernel
theorem dX9_beginning_33 : decode cX9_beginning 33 = .ok (.iload_n 3, 1) := by decide +kernel
theorem dX9_beginning_34 : decode cX9_beginning 34 = .ok (.ireturn, 1) := by decide +kernel
theorem dX9_starts_0 : decode cX9_starts 0 = .ok (.iload_n 1, 1) := by decide +kernel
theorem dX9_starts_1 : decode cX9_starts 1 = .ok (.iload_n 2, 1) := by decide +kernel
theorem dX9_starts_2 : decode cX9_starts 2 = .ok (.invokestatic 52, 3) := by decide +kernel
theorem dX9_starts_5 : decode cX9_starts 5 = .ok (.istore_n 3, 1) := by decide +kernel
theorem dX9_starts_6 : decode cX9_starts 6 = .ok (.aload_n 0, 1) := by decide +kernel
theorem dX9_starts_7 : decode cX9_starts 7 = .ok (.iload_n 1, 1) := by decide +kernel
theorem dX9_starts_8 : decode cX9_starts 8 = .ok (.iconst 1, 1) := by decide +kernel
theorem dX9_starts_9 : decode cX9_starts 9 = .ok (.iload_n 2, 1) := by decide +kernel
theorem dX9_starts_10 : decode cX9_starts 10 = .ok (.iconst 1, 1) := by decide +kernel
theorem dX9_starts_11 : decode cX9_starts 11 = .ok (.iadd, 1) := by decide +kernel
theorem dX9_starts_12 : decode cX9_starts 12 = .ok (.invokevirtual 55, 3) := by decide +kernel
theorem dX9_starts_15 : decode cX9_starts 15 = .ok (.aload_n 0, 1) := by decide +kernel
theorem dX9_starts_16 : decode cX9_starts 16 = .ok (.iload_n 1, 1) := by decide +kernel
theorem dX9_starts_17 : decode cX9_starts 17 = .ok (.iconst 2, 1) := by decide +kernel
theorem dX9_starts_18 : decode cX9_starts 18 = .ok (.aload_n 0, 1) := by decide +kernel
theorem dX9_starts_19 : decode cX9_starts 19 = .ok (.getfield 7, 3) := by decide +kernel
theorem dX9_starts_22 : decode cX9_starts 22 = .ok (.iload_n 3, 1) := by decide +kernel
theorem dX9_starts_23 : decode cX9_starts 23 = .ok (.iconst 0, 1) := by decide +kernel
theorem dX9_starts_24 : decode cX9_starts 24 = .ok (.iadd, 1) := by decide +kernel
theorem dX9_starts_25 : decode cX9_starts 25 = .ok (.iaload, 1) := by decide +kernel
theorem dX9_starts_26 : decode cX9_starts 26 = .ok (.invokevirtual 55, 3) := by decide +kernel
theorem dX9_starts_29 : decode cX9_starts 29 = .ok (.aload_n 0, 1) := by decide +kernel
theorem dX9_starts_30 : decode cX9_starts 30 = .ok (.getfield 7, 3) := by decide +kernel
theorem dX9_starts_33 : decode cX9_starts 33 = .ok (.iload_n 3, 1) := by decide +kernel
theorem dX9_starts_34 : decode cX9_starts 34 = .ok (.iconst 2, 1) := by decide +kernel
theorem dX9_starts_35 : decode cX9_starts 35 = .ok (.iadd, 1) := by decide +kernel
theorem dX9_starts_36 : decode cX9_starts 36 = .ok (.iaload, 1) := by decide +kernel
theorem dX9_starts_37 : decode cX9_starts 37 = .ok (.ifCond .ne 36, 3) := by decide +kernel
theorem dX9_starts_40 : decode cX9_starts 40 = .ok (.aload_n 0, 1) := by decide +kernel
theorem dX9_starts_41 : decode cX9_starts 41 = .ok (.getfield 7, 3) := by decide +kernel
theorem dX9_starts_44 : decode cX9_starts 44 = .ok (.sipush 296, 3) := by decide +kernel
theorem dX9_starts_47 : decode cX9_starts 47 = .ok (.aload_n 0, 1) := by decide +kernel
theorem dX9_starts_48 : decode cX9_starts 48 = .ok (.getfield 7, 3) := by decide +kernel
theorem dX9_starts_51 : decode cX9_starts 51 = .ok (.bipush 7, 2) := by decide +kernel
theorem dX9_starts_53 : decode cX9_starts 53 = .ok (.iaload, 1) := by decide +kernel
theorem dX9_starts_54 : decode cX9_starts 54 = .ok (.iadd, 1) := by decide +kernel
theorem dX9_starts_55 : decode cX9_starts 55 = .ok (.bipush 6, 2) := by decide +kernel
theorem dX9_starts_57 : decode cX9_starts 57 = .ok (.iload_n 1, 1) := by decide +kernel
theorem dX9_starts_58 : decode cX9_starts 58 = .ok (.imul, 1) := by decide +kernel
theorem dX9_starts_59 : decode cX9_starts 59 = .ok (.iload_n 2, 1) := by decide +kernel
theorem dX9_starts_60 : decode cX9_starts 60 = .ok (.iadd, 1) := by decide +kernel
theorem dX9_starts_61 : decode cX9_starts 61 = .ok (.iastore, 1) := by decide +kernel
theorem dX9_starts_62 : decode cX9_starts 62 = .ok (.aload_n 0, 1) := by decide +kernel
theorem dX9_starts_63 : decode cX9_starts 63 = .ok (.getfield 7, 3) := by decide +kernel
theorem dX9_starts_66 : decode cX9_starts 66 = .ok (.bipush 7, 2) := by decide +kernel
theorem dX9_starts_68 : decode cX9_starts 68 = .ok (.dup2, 1) := by decide +kernel
theorem dX9_starts_69 : decode cX9_starts 69 = .ok (.iaload, 1) := by decide +kernel
theorem dX9_starts_70 : decode cX9_starts 70 = .ok (.iconst 1, 1) := by decide +kernel
theorem dX9_starts_71 : decode cX9_starts 71 = .ok (.iadd, 1) := by decide +kernel
theorem dX9_starts_72 : decode cX9_starts 72 = .ok (.iastore, 1) := by decide +kernel
theorem dX9_starts_73 : decode cX9_starts 73 = .ok (.aload_n 0, 1) := by decide +kernel
theorem dX9_starts_74 : decode cX9_starts 74 = .ok (.getfield 7, 3) := by decide +kernel
theorem dX9_starts_77 : decode cX9_starts 77 = .ok (.iload_n 3, 1) := by decide +kernel
theorem dX9_starts_78 : decode cX9_starts 78 = .ok (.iconst 2, 1) := by decide +kernel
theorem dX9_starts_79 : decode cX9_starts 79 = .ok (.iadd, 1) := by decide +kernel
theorem dX9_starts_80 : decode cX9_starts 80 = .ok (.dup2, 1) := by decide +kernel
theorem dX9_starts_81 : decode cX9_starts 81 = .ok (.iaload, 1) := by decide +kernel
theorem dX9_starts_82 : decode cX9_starts 82 = .ok (.iconst 1, 1) := by decide +kernel
theorem dX9_starts_83 : decode cX9_starts 83 = .ok (.iadd, 1) := by decide +kernel
theorem dX9_starts_84 : decode cX9_starts 84 = .ok (.iastore, 1) := by decide +kernel
theorem dX9_starts_85 : decode cX9_starts 85 = .ok (.return_, 1) := by decide +kernel
theorem dX9_comes_0 : decode cX9_comes 0 = .ok (.aload_n 0, 1) := by decide +kernel
theorem dX9_comes_1 : decode cX9_comes 1 = .ok (.iload_n 1, 1) := by decide +kernel
theorem dX9_comes_2 : decode cX9_comes 2 = .ok (.iconst 2, 1) := by decide +kernel
theorem dX9_comes_3 : decode cX9_comes 3 = .ok (.invokevirtual 59, 3) := by decide +kernel
theorem dX9_comes_6 : decode cX9_comes 6 = .ok (.istore_n 2, 1) := by decide +kernel
theorem dX9_comes_7 : decode cX9_comes 7 = .ok (.aload_n 0, 1) := by decide +kernel
theorem dX9_comes_8 : decode cX9_comes 8 = .ok (.iload_n 1, 1) := by decide +kernel
theorem dX9_comes_9 : decode cX9_comes 9 = .ok (.iconst 3, 1) := by decide +kernel
theorem dX9_comes_10 : decode cX9_comes 10 = .ok (.invokevirtual 59, 3) := by decide +kernel
theorem dX9_comes_13 : decode cX9_comes 13 = .ok (.istore_n 3, 1) := by decide +kernel
theorem dX9_comes_14 : decode cX9_comes 14 = .ok (.aload_n 0, 1) := by decide +kernel
theorem dX9_comes_15 : decode cX9_comes 15 = .ok (.iload_n 1, 1) := by decide +kernel
theorem dX9_comes_16 : decode cX9_comes 16 = .ok (.iconst 1, 1) := by decide +kernel
theorem dX9_comes_17 : decode cX9_comes 17 = .ok (.invokevirtual 59, 3) := by decide +kernel
theorem dX9_comes_20 : decode cX9_comes 20 = .ok (.iconst 2, 1) := by decide +kernel
theorem dX9_comes_21 : decode cX9_comes 21 = .ok (.if_icmp .ne 20, 3) := by decide +kernel
theorem dX9_comes_24 : decode cX9_comes 24 = .ok (.aload_n 0, 1) := by decide +kernel
theorem dX9_comes_25 : decode cX9_comes 25 = .ok (.getfield 7, 3) := by decide +kernel
theorem dX9_comes_28 : decode cX9_comes 28 = .ok (.sipush 216, 3) := by decide +kernel
theorem dX9_comes_31 : decode cX9_comes 31 = .ok (.iconst 2, 1) := by decide +kernel
theorem dX9_comes_32 : decode cX9_comes 32 = .ok (.iload_n 2, 1) := by decide +kernel
theorem dX9_comes_33 : decode cX9_comes 33 = .ok (.imul, 1) := by decide +kernel
theorem dX9_comes_34 : decode cX9_comes 34 = .ok (.iadd, 1) := by decide +kernel
theorem dX9_comes_35 : decode cX9_comes 35 = .ok (.iconst 1, 1) := by decide +kernel
theorem dX9_comes_36 : decode cX9_comes 36 = .ok (.iadd, 1) := by decide +kernel
theorem dX9_comes_37 : decode cX9_comes 37 = .ok (.iload_n 3, 1) := by decide +kernel
theorem dX9_comes_38 : decode cX9_comes 38 = .ok (.iastore, 1) := by decide +kernel
theorem dX9_comes_39 : decode cX9_comes 39 = .ok (.iconst 1, 1) := by decide +kernel
theorem dX9_comes_40 : decode cX9_comes 40 = .ok (.ireturn, 1) := by decide +kernel
theorem dX9_comes_41 : decode cX9_comes 41 = .ok (.aload_n 0, 1) := by decide +kernel
theorem dX9_comes_42 : decode cX9_comes 42 = .ok (.iload_n 1, 1) := by decide +kernel
theorem dX9_comes_43 : decode cX9_comes 43 = .ok (.iconst 1, 1) := by decide +kernel
theorem dX9_comes_44 : decode cX9_comes 44 = .ok (.invokevirtual 59, 3) := by decide +kernel
theorem dX9_comes_47 : decode cX9_comes 47 = .ok (.iconst 1, 1) := by decide +kernel
theorem dX9_comes_48 : decode cX9_comes 48 = .ok (.if_icmp .ne 64, 3) := by decide +kernel
theorem dX9_comes_51 : decode cX9_comes 51 = .ok (.sipush 224, 3) := by decide +kernel
theorem dX9_comes_54 : decode cX9_comes 54 = .ok (.iconst 3, 1) := by decide +kernel
theorem dX9_comes_55 : decode cX9_comes 55 = .ok (.aload_n 0, 1) := by decide +kernel
theorem dX9_comes_56 : decode cX9_comes 56 = .ok (.getfield 7, 3) := by decide +kernel
theorem dX9_comes_59 : decode cX9_comes 59 = .ok (.bipush 6, 2) := by decide +kernel
theorem dX9_comes_61 : decode cX9_comes 61 = .ok (.iaload, 1) := by decide +kernel
theorem dX9_comes_62 : decode cX9_comes 62 = .ok (.imul, 1) := by decide +kernel
theorem dX9_comes_63 : decode cX9_comes 63 = .ok (.iadd, 1) := by decide +kernel
theorem dX9_comes_64 : decode cX9_comes 64 = .ok (.istore 4, 2) := by decide +kernel
theorem dX9_comes_66 : decode cX9_comes 66 = .ok (.aload_n 0, 1) := by decide +kernel
theorem dX9_comes_67 : decode cX9_comes 67 = .ok (.getfield 7, 3) := by decide +kernel
theorem dX9_comes_70 : decode cX9_comes 70 = .ok (.iload 4, 2) := by decide +kernel
theorem dX9_comes_72 : decode cX9_comes 72 = .ok (.iload_n 2, 1) := by decide +kernel
theorem dX9_comes_73 : decode cX9_comes 73 = .ok (.iastore, 1) := by decide +kernel
theorem dX9_comes_74 : decode cX9_comes 74 = .ok (.aload_n 0, 1) := by decide +kernel
theorem dX9_comes_75 : decode cX9_comes 75 = .ok (.getfield 7, 3) := by decide +kernel
theorem dX9_comes_78 : decode cX9_comes 78 = .ok (.iload 4, 2) := by decide +kernel
theorem dX9_comes_80 : decode cX9_comes 80 = .ok (.iconst 1, 1) := by decide +kernel
theorem dX9_comes_81 : decode cX9_comes 81 = .ok (.iadd, 1) := by decide +kernel
theorem dX9_comes_82 : decode cX9_comes 82 = .ok (.iload_n 3, 1) := by decide +kernel
theorem dX9_comes_83 : decode cX9_comes 83 = .ok (.iastore, 1) := by decide +kernel
theorem dX9_comes_84 : decode cX9_comes 84 = .ok (.aload_n 0, 1) := by decide +kernel
theorem dX9_comes_85 : decode cX9_comes 85 = .ok (.getfield 7, 3) := by decide +kernel
theorem dX9_comes_88 : decode cX9_comes 88 = .ok (.iload 4, 2) := by decide +kernel
theorem dX9_comes_90 : decode cX9_comes 90 = .ok (.iconst 2, 1) := by decide +kernel
theorem dX9_comes_91 : decode cX9_comes 91 = .ok (.iadd, 1) := by decide +kernel
theorem dX9_comes_92 : decode cX9_comes 92 = .ok (.aload_n 0, 1) := by decide +kernel
theorem dX9_comes_93 : decode cX9_comes 93 = .ok (.getfield 7, 3) := by decide +kernel
theorem dX9_comes_96 : decode cX9_comes 96 = .ok (.iconst 1, 1) := by decide +kernel
theorem dX9_comes_97 : decode cX9_comes 97 = .ok (.iaload, 1) := by decide +kernel
theorem dX9_comes_98 : decode cX9_comes 98 = .ok (.iastore, 1) := by decide +kernel
theorem dX9_comes_99 : decode cX9_comes 99 = .ok (.aload_n 0, 1) := by decide +kernel
theorem dX9_comes_100 : decode cX9_comes 100 = .ok (.getfield 7, 3) := by decide +kernel
theorem dX9_comes_103 : decode cX9_comes 103 = .ok (.bipush 6, 2) := by decide +kernel
theorem dX9_comes_105 : decode cX9_comes 105 = .ok (.dup2, 1) := by decide +kernel
theorem dX9_comes_106 : decode cX9_comes 106 = .ok (.iaload, 1) := by decide +kernel
theorem dX9_comes_107 : decode cX9_comes 107 = .ok (.iconst 1, 1) := by decide +kernel
theorem dX9_comes_108 : decode cX9_comes 108 = .ok (.iadd, 1) := by decide +kernel
theorem dX9_comes_109 : decode cX9_comes 109 = .ok (.iastore, 1) := by decide +kernel
theorem dX9_comes_110 : decode cX9_comes 110 = .ok (.iconst 1, 1) := by decide +kernel
theorem dX9_comes_111 : decode cX9_comes 111 = .ok (.ireturn, 1) := by decide +kernel
theorem dX9_comes_112 : decode cX9_comes 112 = .ok (.aload_n 0, 1) := by decide +kernel
theorem dX9_comes_113 : decode cX9_comes 113 = .ok (.iload_n 2, 1) := by decide +kernel
theorem dX9_comes_114 : decode cX9_comes 114 = .ok (.iconst 1, 1) := by decide +kernel
theorem dX9_comes_115 : decode cX9_comes 115 = .ok (.invokevirtual 48, 3) := by decide +kernel
theorem dX9_comes_118 : decode cX9_comes 118 = .ok (.ifCond .le 5, 3) := by decide +kernel
theorem dX9_comes_121 : decode cX9_comes 121 = .ok (.iconst 2, 1) := by decide +kernel
theorem dX9_comes_122 : decode cX9_comes 122 = .ok (.ireturn, 1) := by decide +kernel
theorem dX9_comes_123 : decode cX9_comes 123 = .ok (.aload_n 0, 1) := by decide +kernel
theorem dX9_comes_124 : decode cX9_comes 124 = .ok (.iload_n 2, 1) := by decide +kernel
theorem dX9_comes_125 : decode cX9_comes 125 = .ok (.iconst 0, 1) := by decide +kernel
theorem dX9_comes_126 : decode cX9_comes 126 = .ok (.invokevirtual 48, 3) := by decide +kernel
theorem dX9_comes_129 : decode cX9_comes 129 = .ok (.aload_n 0, 1) := by decide +kernel
theorem dX9_comes_130 : decode cX9_comes 130 = .ok (.iload_n 2, 1) := by decide +kernel
theorem dX9_comes_131 : decode cX9_comes 131 = .ok (.iload_n 3, 1) := by decide +kernel
theorem dX9_comes_132 : decode cX9_comes 132 = .ok (.invokevirtual 62, 3) := by decide +kernel
theorem dX9_comes_135 : decode cX9_comes 135 = .ok (.if_icmp .eq 5, 3) := by decide +kernel
theorem dX9_comes_138 : decode cX9_comes 138 = .ok (.iconst 3, 1) := by decide +kernel
theorem dX9_comes_139 : decode cX9_comes 139 = .ok (.ireturn, 1) := by decide +kernel
theorem dX9_comes_140 : decode cX9_comes 140 = .ok (.aload_n 0, 1) := by decide +kernel
theorem dX9_comes_141 : decode cX9_comes 141 = .ok (.iload_n 2, 1) := by decide +kernel
theorem dX9_comes_142 : decode cX9_comes 142 = .ok (.iload_n 3, 1) := by decide +kernel
theorem dX9_comes_143 : decode cX9_comes 143 = .ok (.invokevirtual 65, 3) := by decide +kernel
theorem dX9_comes_146 : decode cX9_comes 146 = .ok (.iconst 1, 1) := by decide +kernel
theorem dX9_comes_147 : decode cX9_comes 147 = .ok (.ireturn, 1) := by decide +kernel
theorem dX9_nearer_0 : decode cX9_nearer 0 = .ok (.iload_n 0, 1) := by decide +kernel
theorem dX9_nearer_1 : decode cX9_nearer 1 = .ok (.iload_n 1, 1) := by decide +kernel
theorem dX9_nearer_2 : decode cX9_nearer 2 = .ok (.if_icmp .ge 18, 3) := by decide +kernel
theorem dX9_nearer_5 : decode cX9_nearer 5 = .ok (.iload_n 1, 1) := by decide +kernel
theorem dX9_nearer_6 : decode cX9_nearer 6 = .ok (.iload_n 0, 1) := by decide +kernel
theorem dX9_nearer_7 : decode cX9_nearer 7 = .ok (.isub, 1) := by decide +kernel
theorem dX9_nearer_8 : decode cX9_nearer 8 = .ok (.iload_n 2, 1) := by decide +kernel
theorem dX9_nearer_9 : decode cX9_nearer 9 = .ok (.if_icmp .le 9, 3) := by decide +kernel
theorem dX9_nearer_12 : decode cX9_nearer 12 = .ok (.iload_n 0, 1) := by decide +kernel
theorem dX9_nearer_13 : decode cX9_nearer 13 = .ok (.iload_n 2, 1) := by decide +kernel
theorem dX9_nearer_14 : decode cX9_nearer 14 = .ok (.iadd, 1) := by decide +kernel
theorem dX9_nearer_15 : decode cX9_nearer 15 = .ok (.goto 4, 3) := by decide +kernel
theorem dX9_nearer_18 : decode cX9_nearer 18 = .ok (.iload_n 1, 1) := by decide +kernel
theorem dX9_nearer_19 : decode cX9_nearer 19 = .ok (.ireturn, 1) := by decide +kernel
theorem dX9_nearer_20 : decode cX9_nearer 20 = .ok (.iload_n 0, 1) := by decide +kernel
theorem dX9_nearer_21 : decode cX9_nearer 21 = .ok (.iload_n 1, 1) := by decide +kernel
theorem dX9_nearer_22 : decode cX9_nearer 22 = .ok (.isub, 1) := by decide +kernel
theorem dX9_nearer_23 : decode cX9_nearer 23 = .ok (.iload_n 2, 1) := by decide +kernel
theorem dX9_nearer_24 : decode cX9_nearer 24 = .ok (.if_icmp .le 9, 3) := by decide +kernel
theorem dX9_nearer_27 : decode cX9_nearer 27 = .ok (.iload_n 0, 1) := by decide +kernel
theorem dX9_nearer_28 : decode cX9_nearer 28 = .ok (.iload_n 2, 1) := by decide +kernel
theorem dX9_nearer_29 : decode cX9_nearer 29 = .ok (.isub, 1) := by decide +kernel
theorem dX9_nearer_30 : decode cX9_nearer 30 = .ok (.goto 4, 3) := by decide +kernel
theorem dX9_nearer_33 : decode cX9_nearer 33 = .ok (.iload_n 1, 1) := by decide +kernel
theorem dX9_nearer_34 : decode cX9_nearer 34 = .ok (.ireturn, 1) := by decide +kernel
theorem dX9_gives_0 : decode cX9_gives 0 = .ok (.iload_n 2, 1) := by decide +kernel
theorem dX9_gives_1 : decode cX9_gives 1 = .ok (.aload_n 0, 1) := by decide +kernel
theorem dX9_gives_2 : decode cX9_gives 2 = .ok (.getfield 7, 3) := by decide +kernel
theorem dX9_gives_5 : decode cX9_gives 5 = .ok (.sipush 216, 3) := by decide +kernel
theorem dX9_gives_8 : decode cX9_gives 8 = .ok (.iconst 2, 1) := by decide +kernel
theorem dX9_gives_9 : decode cX9_gives 9 = .ok (.iload_n 1, 1) := by decide +kernel
theorem dX9_gives_10 : decode cX9_gives 10 = .ok (.imul, 1) := by decide +kernel
theorem dX9_gives_11 : decode cX9_gives 11 = .ok (.iadd, 1) := by decide +kernel
theorem dX9_gives_12 : decode cX9_gives 12 = .ok (.iaload, 1) := by decide +kernel
theorem dX9_gives_13 : decode cX9_gives 13 = .ok (.imul, 1) := by decide +kernel
theorem dX9_gives_14 : decode cX9_gives 14 = .ok (.bipush 50, 2) := by decide +kernel
theorem dX9_gives_16 : decode cX9_gives 16 = .ok (.idiv, 1) := by decide +kernel
theorem dX9_gives_17 : decode cX9_gives 17 = .ok (.ireturn, 1) := by decide +kernel
theorem dX9_heard_0 : decode cX9_heard 0 = .ok (.iconst 0, 1) := by decide +kernel
theorem dX9_heard_1 : decode cX9_heard 1 = .ok (.istore_n 1, 1) := by decide +kernel
theorem dX9_heard_2 : decode cX9_heard 2 = .ok (.iconst 0, 1) := by decide +kernel
theorem dX9_heard_3 : decode cX9_heard 3 = .ok (.istore_n 2, 1) := by decide +kernel
theorem dX9_heard_4 : decode cX9_heard 4 = .ok (.iload_n 2, 1) := by decide +kernel
theorem dX9_heard_5 : decode cX9_heard 5 = .ok (.iconst 4, 1) := by decide +kernel
theorem dX9_heard_6 : decode cX9_heard 6 = .ok (.if_icmp .ge 49, 3) := by decide +kernel
theorem dX9_heard_9 : decode cX9_heard 9 = .ok (.iload_n 1, 1) := by decide +kernel
theorem dX9_heard_10 : decode cX9_heard 10 = .ok (.aload_n 0, 1) := by decide +kernel
theorem dX9_heard_11 : decode cX9_heard 11 = .ok (.iload_n 2, 1) := by decide +kernel
theorem dX9_heard_12 : decode cX9_heard 12 = .ok (.iconst 1, 1) := by decide +kernel
theorem dX9_heard_13 : decode cX9_heard 13 = .ok (.invokevirtual 48, 3) := by decide +kernel
theorem dX9_heard_16 : decode cX9_heard 16 = .ok (.ifCond .le 30, 3) := by decide +kernel
theorem dX9_heard_19 : decode cX9_heard 19 = .ok (.aload_n 0, 1) := by decide +kernel
theorem dX9_heard_20 : decode cX9_heard 20 = .ok (.iload_n 2, 1) := by decide +kernel
theorem dX9_heard_21 : decode cX9_heard 21 = .ok (.aload_n 0, 1) := by decide +kernel
theorem dX9_heard_22 : decode cX9_heard 22 = .ok (.getfield 7, 3) := by decide +kernel
theorem dX9_heard_25 : decode cX9_heard 25 = .ok (.iload_n 2, 1) := by decide +kernel
theorem dX9_heard_26 : decode cX9_heard 26 = .ok (.aload_n 0, 1) := by decide +kernel
theorem dX9_heard_27 : decode cX9_heard 27 = .ok (.iload_n 2, 1) := by decide +kernel
theorem dX9_heard_28 : decode cX9_heard 28 = .ok (.iconst 1, 1) := by decide +kernel
theorem dX9_heard_29 : decode cX9_heard 29 = .ok (.invokevirtual 48, 3) := by decide +kernel
theorem dX9_heard_32 : decode cX9_heard 32 = .ok (.iconst 1, 1) := by decide +kernel
theorem dX9_heard_33 : decode cX9_heard 33 = .ok (.isub, 1) := by decide +kernel
theorem dX9_heard_34 : decode cX9_heard 34 = .ok (.invokestatic 52, 3) := by decide +kernel
theorem dX9_heard_37 : decode cX9_heard 37 = .ok (.iconst 1, 1) := by decide +kernel
theorem dX9_heard_38 : decode cX9_heard 38 = .ok (.iadd, 1) := by decide +kernel
theorem dX9_heard_39 : decode cX9_heard 39 = .ok (.iaload, 1) := by decide +kernel
theorem dX9_heard_40 : decode cX9_heard 40 = .ok (.invokevirtual 69, 3) := by decide +kernel
theorem dX9_heard_43 : decode cX9_heard 43 = .ok (.goto 4, 3) := by decide +kernel
theorem dX9_heard_46 : decode cX9_heard 46 = .ok (.iconst 0, 1) := by decide +kernel
theorem dX9_heard_47 : decode cX9_heard 47 = .ok (.iadd, 1) := by decide +kernel
theorem dX9_heard_48 : decode cX9_heard 48 = .ok (.istore_n 1, 1) := by decide +kernel
theorem dX9_heard_49 : decode cX9_heard 49 = .ok (.iinc 2 1, 3) := by decide +kernel
theorem dX9_heard_52 : decode cX9_heard 52 = .ok (.goto (-48), 3) := by decide +kernel
theorem dX9_heard_55 : decode cX9_heard 55 = .ok (.iconst 0, 1) := by decide +kernel
theorem dX9_heard_56 : decode cX9_heard 56 = .ok (.istore_n 2, 1) := by decide +kernel
theorem dX9_heard_57 : decode cX9_heard 57 = .ok (.iload_n 2, 1) := by decide +kernel
theorem dX9_heard_58 : decode cX9_heard 58 = .ok (.aload_n 0, 1) := by decide +kernel
theorem dX9_heard_59 : decode cX9_heard 59 = .ok (.getfield 7, 3) := by decide +kernel
theorem dX9_heard_62 : decode cX9_heard 62 = .ok (.bipush 6, 2) := by decide +kernel
theorem dX9_heard_64 : decode cX9_heard 64 = .ok (.iaload, 1) := by decide +kernel
theorem dX9_heard_65 : decode cX9_heard 65 = .ok (.if_icmp .ge 42, 3) := by decide +kernel
theorem dX9_heard_68 : decode cX9_heard 68 = .ok (.iload_n 1, 1) := by decide +kernel
theorem dX9_heard_69 : decode cX9_heard 69 = .ok (.aload_n 0, 1) := by decide +kernel
theorem dX9_heard_70 : decode cX9_heard 70 = .ok (.aload_n 0, 1) := by decide +kernel
theorem dX9_heard_71 : decode cX9_heard 71 = .ok (.getfield 7, 3) := by decide +kernel
theorem dX9_heard_74 : decode cX9_heard 74 = .ok (.sipush 224, 3) := by decide +kernel
theorem dX9_heard_77 : decode cX9_heard 77 = .ok (.iconst 3, 1) := by decide +kernel
theorem dX9_heard_78 : decode cX9_heard 78 = .ok (.iload_n 2, 1) := by decide +kernel
theorem dX9_heard_79 : decode cX9_heard 79 = .ok (.imul, 1) := by decide +kernel
theorem dX9_heard_80 : decode cX9_heard 80 = .ok (.iadd, 1) := by decide +kernel
theorem dX9_heard_81 : decode cX9_heard 81 = .ok (.iaload, 1) := by decide +kernel
theorem dX9_heard_82 : decode cX9_heard 82 = .ok (.aload_n 0, 1) := by decide +kernel
theorem dX9_heard_83 : decode cX9_heard 83 = .ok (.getfield 7, 3) := by decide +kernel
theorem dX9_heard_86 : decode cX9_heard 86 = .ok (.sipush 224, 3) := by decide +kernel
theorem dX9_heard_89 : decode cX9_heard 89 = .ok (.iconst 3, 1) := by decide +kernel
theorem dX9_heard_90 : decode cX9_heard 90 = .ok (.iload_n 2, 1) := by decide +kernel
theorem dX9_heard_91 : decode cX9_heard 91 = .ok (.imul, 1) := by decide +kernel
theorem dX9_heard_92 : decode cX9_heard 92 = .ok (.iadd, 1) := by decide +kernel
theorem dX9_heard_93 : decode cX9_heard 93 = .ok (.iconst 1, 1) := by decide +kernel
theorem dX9_heard_94 : decode cX9_heard 94 = .ok (.iadd, 1) := by decide +kernel
theorem dX9_heard_95 : decode cX9_heard 95 = .ok (.iaload, 1) := by decide +kernel
theorem dX9_heard_96 : decode cX9_heard 96 = .ok (.invokevirtual 69, 3) := by decide +kernel
theorem dX9_heard_99 : decode cX9_heard 99 = .ok (.iadd, 1) := by decide +kernel
theorem dX9_heard_100 : decode cX9_heard 100 = .ok (.istore_n 1, 1) := by decide +kernel
theorem dX9_heard_101 : decode cX9_heard 101 = .ok (.iinc 2 1, 3) := by decide +kernel
theorem dX9_heard_104 : decode cX9_heard 104 = .ok (.goto (-47), 3) := by decide +kernel
theorem dX9_heard_107 : decode cX9_heard 107 = .ok (.iload_n 1, 1) := by decide +kernel
theorem dX9_heard_108 : decode cX9_heard 108 = .ok (.ireturn, 1) := by decide +kernel
theorem dX9_goesOn_0 : decode cX9_goesOn 0 = .ok (.aload_n 0, 1) := by decide +kernel
theorem dX9_goesOn_1 : decode cX9_goesOn 1 = .ok (.iload_n 1, 1) := by decide +kernel
theorem dX9_goesOn_2 : decode cX9_goesOn 2 = .ok (.iconst 1, 1) := by decide +kernel
theorem dX9_goesOn_3 : decode cX9_goesOn 3 = .ok (.invokevirtual 48, 3) := by decide +kernel
theorem dX9_goesOn_6 : decode cX9_goesOn 6 = .ok (.ifCond .le 56, 3) := by decide +kernel
theorem dX9_goesOn_9 : decode cX9_goesOn 9 = .ok (.aload_n 0, 1) := by decide +kernel
theorem dX9_goesOn_10 : decode cX9_goesOn 10 = .ok (.iload_n 1, 1) := by decide +kernel
theorem dX9_goesOn_11 : decode cX9_goesOn 11 = .ok (.iconst 0, 1) := by decide +kernel
theorem dX9_goesOn_12 : decode cX9_goesOn 12 = .ok (.aload_n 0, 1) := by decide +kernel
theorem dX9_goesOn_13 : decode cX9_goesOn 13 = .ok (.iload_n 1, 1) := by decide +kernel
theorem dX9_goesOn_14 : decode cX9_goesOn 14 = .ok (.iconst 0, 1) := by decide +kernel
theorem dX9_goesOn_15 : decode cX9_goesOn 15 = .ok (.invokevirtual 48, 3) := by decide +kernel
theorem dX9_goesOn_18 : decode cX9_goesOn 18 = .ok (.iconst 1, 1) := by decide +kernel
theorem dX9_goesOn_19 : decode cX9_goesOn 19 = .ok (.iadd, 1) := by decide +kernel
theorem dX9_goesOn_20 : decode cX9_goesOn 20 = .ok (.invokevirtual 55, 3) := by decide +kernel
theorem dX9_goesOn_23 : decode cX9_goesOn 23 = .ok (.aload_n 0, 1) := by decide +kernel
theorem dX9_goesOn_24 : decode cX9_goesOn 24 = .ok (.iload_n 1, 1) := by decide +kernel
theorem dX9_goesOn_25 : decode cX9_goesOn 25 = .ok (.iconst 2, 1) := by decide +kernel
theorem dX9_goesOn_26 : decode cX9_goesOn 26 = .ok (.aload_n 0, 1) := by decide +kernel
theorem dX9_goesOn_27 : decode cX9_goesOn 27 = .ok (.iload_n 1, 1) := by decide +kernel
theorem dX9_goesOn_28 : decode cX9_goesOn 28 = .ok (.iconst 2, 1) := by decide +kernel
theorem dX9_goesOn_29 : decode cX9_goesOn 29 = .ok (.invokevirtual 48, 3) := by decide +kernel
theorem dX9_goesOn_32 : decode cX9_goesOn 32 = .ok (.iconst 1, 1) := by decide +kernel
theorem dX9_goesOn_33 : decode cX9_goesOn 33 = .ok (.isub, 1) := by decide +kernel
theorem dX9_goesOn_34 : decode cX9_goesOn 34 = .ok (.invokevirtual 55, 3) := by decide +kernel
theorem dX9_goesOn_37 : decode cX9_goesOn 37 = .ok (.aload_n 0, 1) := by decide +kernel
theorem dX9_goesOn_38 : decode cX9_goesOn 38 = .ok (.iload_n 1, 1) := by decide +kernel
theorem dX9_goesOn_39 : decode cX9_goesOn 39 = .ok (.iconst 1, 1) := by decide +kernel
theorem dX9_goesOn_40 : decode cX9_goesOn 40 = .ok (.aload_n 0, 1) := by decide +kernel
theorem dX9_goesOn_41 : decode cX9_goesOn 41 = .ok (.iload_n 1, 1) := by decide +kernel
theorem dX9_goesOn_42 : decode cX9_goesOn 42 = .ok (.iconst 2, 1) := by decide +kernel
theorem dX9_goesOn_43 : decode cX9_goesOn 43 = .ok (.invokevirtual 48, 3) := by decide +kernel
theorem dX9_goesOn_46 : decode cX9_goesOn 46 = .ok (.ifCond .ne 7, 3) := by decide +kernel
theorem dX9_goesOn_49 : decode cX9_goesOn 49 = .ok (.iconst 0, 1) := by decide +kernel
theorem dX9_goesOn_50 : decode cX9_goesOn 50 = .ok (.goto 9, 3) := by decide +kernel
theorem dX9_goesOn_53 : decode cX9_goesOn 53 = .ok (.aload_n 0, 1) := by decide +kernel
theorem dX9_goesOn_54 : decode cX9_goesOn 54 = .ok (.iload_n 1, 1) := by decide +kernel
theorem dX9_goesOn_55 : decode cX9_goesOn 55 = .ok (.iconst 1, 1) := by decide +kernel
theorem dX9_goesOn_56 : decode cX9_goesOn 56 = .ok (.invokevirtual 48, 3) := by decide +kernel
theorem dX9_goesOn_59 : decode cX9_goesOn 59 = .ok (.invokevirtual 55, 3) := by decide +kernel
theorem dX9_goesOn_62 : decode cX9_goesOn 62 = .ok (.return_, 1) := by decide +kernel
theorem dX9_fall_0 : decode cX9_fall 0 = .ok (.iconst 0, 1) := by decide +kernel
theorem dX9_fall_1 : decode cX9_fall 1 = .ok (.istore_n 1, 1) := by decide +kernel
theorem dX9_fall_2 : decode cX9_fall 2 = .ok (.iconst 0, 1) := by decide +kernel
theorem dX9_fall_3 : decode cX9_fall 3 = .ok (.istore_n 2, 1) := by decide +kernel
theorem dX9_fall_4 : decode cX9_fall 4 = .ok (.iload_n 2, 1) := by decide +kernel
theorem dX9_fall_5 : decode cX9_fall 5 = .ok (.aload_n 0, 1) := by decide +kernel
theorem dX9_fall_6 : decode cX9_fall 6 = .ok (.getfield 7, 3) := by decide +kernel
theorem dX9_fall_9 : decode cX9_fall 9 = .ok (.bipush 6, 2) := by decide +kernel
theorem dX9_fall_11 : decode cX9_fall 11 = .ok (.iaload, 1) := by decide +kernel
theorem dX9_fall_12 : decode cX9_fall 12 = .ok (.if_icmp .ge 116, 3) := by decide +kernel
theorem dX9_fall_15 : decode cX9_fall 15 = .ok (.aload_n 0, 1) := by decide +kernel
theorem dX9_fall_16 : decode cX9_fall 16 = .ok (.getfield 7, 3) := by decide +kernel
theorem dX9_fall_19 : decode cX9_fall 19 = .ok (.sipush 224, 3) := by decide +kernel
theorem dX9_fall_22 : decode cX9_fall 22 = .ok (.iconst 3, 1) := by decide +kernel
theorem dX9_fall_23 : decode cX9_fall 23 = .ok (.iload_n 1, 1) := by decide +kernel
theorem dX9_fall_24 : decode cX9_fall 24 = .ok (.imul, 1) := by decide +kernel
theorem dX9_fall_25 : decode cX9_fall 25 = .ok (.iadd, 1) := by decide +kernel
theorem dX9_fall_26 : decode cX9_fall 26 = .ok (.aload_n 0, 1) := by decide +kernel
theorem dX9_fall_27 : decode cX9_fall 27 = .ok (.getfield 7, 3) := by decide +kernel
theorem dX9_fall_30 : decode cX9_fall 30 = .ok (.sipush 224, 3) := by decide +kernel
theorem dX9_fall_33 : decode cX9_fall 33 = .ok (.iconst 3, 1) := by decide +kernel
theorem dX9_fall_34 : decode cX9_fall 34 = .ok (.iload_n 2, 1) := by decide +kernel
theorem dX9_fall_35 : decode cX9_fall 35 = .ok (.imul, 1) := by decide +kernel
theorem dX9_fall_36 : decode cX9_fall 36 = .ok (.iadd, 1) := by decide +kernel
theorem dX9_fall_37 : decode cX9_fall 37 = .ok (.iaload, 1) := by decide +kernel
theorem dX9_fall_38 : decode cX9_fall 38 = .ok (.iastore, 1) := by decide +kernel
theorem dX9_fall_39 : decode cX9_fall 39 = .ok (.aload_n 0, 1) := by decide +kernel
theorem dX9_fall_40 : decode cX9_fall 40 = .ok (.getfield 7, 3) := by decide +kernel
theorem dX9_fall_43 : decode cX9_fall 43 = .ok (.sipush 224, 3) := by decide +kernel
theorem dX9_fall_46 : decode cX9_fall 46 = .ok (.iconst 3, 1) := by decide +kernel
theorem dX9_fall_47 : decode cX9_fall 47 = .ok (.iload_n 1, 1) := by decide +kernel
theorem dX9_fall_48 : decode cX9_fall 48 = .ok (.imul, 1) := by decide +kernel
theorem dX9_fall_49 : decode cX9_fall 49 = .ok (.iadd, 1) := by decide +kernel
theorem dX9_fall_50 : decode cX9_fall 50 = .ok (.iconst 1, 1) := by decide +kernel
theorem dX9_fall_51 : decode cX9_fall 51 = .ok (.iadd, 1) := by decide +kernel
theorem dX9_fall_52 : decode cX9_fall 52 = .ok (.aload_n 0, 1) := by decide +kernel
theorem dX9_fall_53 : decode cX9_fall 53 = .ok (.getfield 7, 3) := by decide +kernel
theorem dX9_fall_56 : decode cX9_fall 56 = .ok (.sipush 224, 3) := by decide +kernel
theorem dX9_fall_59 : decode cX9_fall 59 = .ok (.iconst 3, 1) := by decide +kernel
theorem dX9_fall_60 : decode cX9_fall 60 = .ok (.iload_n 2, 1) := by decide +kernel
theorem dX9_fall_61 : decode cX9_fall 61 = .ok (.imul, 1) := by decide +kernel
theorem dX9_fall_62 : decode cX9_fall 62 = .ok (.iadd, 1) := by decide +kernel
theorem dX9_fall_63 : decode cX9_fall 63 = .ok (.iconst 1, 1) := by decide +kernel
theorem dX9_fall_64 : decode cX9_fall 64 = .ok (.iadd, 1) := by decide +kernel
theorem dX9_fall_65 : decode cX9_fall 65 = .ok (.iaload, 1) := by decide +kernel
theorem dX9_fall_66 : decode cX9_fall 66 = .ok (.iastore, 1) := by decide +kernel
theorem dX9_fall_67 : decode cX9_fall 67 = .ok (.aload_n 0, 1) := by decide +kernel
theorem dX9_fall_68 : decode cX9_fall 68 = .ok (.getfield 7, 3) := by decide +kernel
theorem dX9_fall_71 : decode cX9_fall 71 = .ok (.sipush 224, 3) := by decide +kernel
theorem dX9_fall_74 : decode cX9_fall 74 = .ok (.iconst 3, 1) := by decide +kernel
theorem dX9_fall_75 : decode cX9_fall 75 = .ok (.iload_n 1, 1) := by decide +kernel
theorem dX9_fall_76 : decode cX9_fall 76 = .ok (.imul, 1) := by decide +kernel
theorem dX9_fall_77 : decode cX9_fall 77 = .ok (.iadd, 1) := by decide +kernel
theorem dX9_fall_78 : decode cX9_fall 78 = .ok (.iconst 2, 1) := by decide +kernel
theorem dX9_fall_79 : decode cX9_fall 79 = .ok (.iadd, 1) := by decide +kernel
theorem dX9_fall_80 : decode cX9_fall 80 = .ok (.aload_n 0, 1) := by decide +kernel
theorem dX9_fall_81 : decode cX9_fall 81 = .ok (.getfield 7, 3) := by decide +kernel
theorem dX9_fall_84 : decode cX9_fall 84 = .ok (.sipush 224, 3) := by decide +kernel
theorem dX9_fall_87 : decode cX9_fall 87 = .ok (.iconst 3, 1) := by decide +kernel
theorem dX9_fall_88 : decode cX9_fall 88 = .ok (.iload_n 2, 1) := by decide +kernel
theorem dX9_fall_89 : decode cX9_fall 89 = .ok (.imul, 1) := by decide +kernel
theorem dX9_fall_90 : decode cX9_fall 90 = .ok (.iadd, 1) := by decide +kernel
theorem dX9_fall_91 : decode cX9_fall 91 = .ok (.iconst 2, 1) := by decide +kernel
theorem dX9_fall_92 : decode cX9_fall 92 = .ok (.iadd, 1) := by decide +kernel
theorem dX9_fall_93 : decode cX9_fall 93 = .ok (.iaload, 1) := by decide +kernel
theorem dX9_fall_94 : decode cX9_fall 94 = .ok (.iconst 1, 1) := by decide +kernel
theorem dX9_fall_95 : decode cX9_fall 95 = .ok (.isub, 1) := by decide +kernel
theorem dX9_fall_96 : decode cX9_fall 96 = .ok (.iastore, 1) := by decide +kernel
theorem dX9_fall_97 : decode cX9_fall 97 = .ok (.iload_n 1, 1) := by decide +kernel
theorem dX9_fall_98 : decode cX9_fall 98 = .ok (.aload_n 0, 1) := by decide +kernel
theorem dX9_fall_99 : decode cX9_fall 99 = .ok (.getfield 7, 3) := by decide +kernel
theorem dX9_fall_102 : decode cX9_fall 102 = .ok (.sipush 224, 3) := by decide +kernel
theorem dX9_fall_105 : decode cX9_fall 105 = .ok (.iconst 3, 1) := by decide +kernel
theorem dX9_fall_106 : decode cX9_fall 106 = .ok (.iload_n 1, 1) := by decide +kernel
theorem dX9_fall_107 : decode cX9_fall 107 = .ok (.imul, 1) := by decide +kernel
theorem dX9_fall_108 : decode cX9_fall 108 = .ok (.iadd, 1) := by decide +kernel
theorem dX9_fall_109 : decode cX9_fall 109 = .ok (.iconst 2, 1) := by decide +kernel
theorem dX9_fall_110 : decode cX9_fall 110 = .ok (.iadd, 1) := by decide +kernel
theorem dX9_fall_111 : decode cX9_fall 111 = .ok (.iaload, 1) := by decide +kernel
theorem dX9_fall_112 : decode cX9_fall 112 = .ok (.ifCond .le 7, 3) := by decide +kernel
theorem dX9_fall_115 : decode cX9_fall 115 = .ok (.iconst 1, 1) := by decide +kernel
theorem dX9_fall_116 : decode cX9_fall 116 = .ok (.goto 4, 3) := by decide +kernel
theorem dX9_fall_119 : decode cX9_fall 119 = .ok (.iconst 0, 1) := by decide +kernel
theorem dX9_fall_120 : decode cX9_fall 120 = .ok (.iadd, 1) := by decide +kernel
theorem dX9_fall_121 : decode cX9_fall 121 = .ok (.istore_n 1, 1) := by decide +kernel
theorem dX9_fall_122 : decode cX9_fall 122 = .ok (.iinc 2 1, 3) := by decide +kernel
theorem dX9_fall_125 : decode cX9_fall 125 = .ok (.goto (-121), 3) := by decide +kernel
theorem dX9_fall_128 : decode cX9_fall 128 = .ok (.aload_n 0, 1) := by decide +kernel
theorem dX9_fall_129 : decode cX9_fall 129 = .ok (.getfield 7, 3) := by decide +kernel
theorem dX9_fall_132 : decode cX9_fall 132 = .ok (.bipush 6, 2) := by decide +kernel
theorem dX9_fall_134 : decode cX9_fall 134 = .ok (.iload_n 1, 1) := by decide +kernel
theorem dX9_fall_135 : decode cX9_fall 135 = .ok (.iastore, 1) := by decide +kernel
theorem dX9_fall_136 : decode cX9_fall 136 = .ok (.return_, 1) := by decide +kernel
theorem dX9_next_0 : decode cX9_next 0 = .ok (.iconst 0, 1) := by decide +kernel
theorem dX9_next_1 : decode cX9_next 1 = .ok (.istore_n 2, 1) := by decide +kernel
theorem dX9_next_2 : decode cX9_next 2 = .ok (.iload_n 2, 1) := by decide +kernel
theorem dX9_next_3 : decode cX9_next 3 = .ok (.aload_n 0, 1) := by decide +kernel
theorem dX9_next_4 : decode cX9_next 4 = .ok (.getfield 7, 3) := by decide +kernel
theorem dX9_next_7 : decode cX9_next 7 = .ok (.iconst 5, 1) := by decide +kernel
theorem dX9_next_8 : decode cX9_next 8 = .ok (.iaload, 1) := by decide +kernel
theorem dX9_next_9 : decode cX9_next 9 = .ok (.if_icmp .ge 39, 3) := by decide +kernel
theorem dX9_next_12 : decode cX9_next 12 = .ok (.aload_n 0, 1) := by decide +kernel
theorem dX9_next_13 : decode cX9_next 13 = .ok (.iload_n 2, 1) := by decide +kernel
theorem dX9_next_14 : decode cX9_next 14 = .ok (.iconst 4, 1) := by decide +kernel
theorem dX9_next_15 : decode cX9_next 15 = .ok (.invokevirtual 59, 3) := by decide +kernel
theorem dX9_next_18 : decode cX9_next 18 = .ok (.ifCond .ne 24, 3) := by decide +kernel
theorem dX9_next_21 : decode cX9_next 21 = .ok (.aload_n 0, 1) := by decide +kernel
theorem dX9_next_22 : decode cX9_next 22 = .ok (.iload_n 2, 1) := by decide +kernel
theorem dX9_next_23 : decode cX9_next 23 = .ok (.iconst 1, 1) := by decide +kernel
theorem dX9_next_24 : decode cX9_next 24 = .ok (.invokevirtual 59, 3) := by decide +kernel
theorem dX9_next_27 : decode cX9_next 27 = .ok (.ifCond .ne 15, 3) := by decide +kernel
theorem dX9_next_30 : decode cX9_next 30 = .ok (.aload_n 0, 1) := by decide +kernel
theorem dX9_next_31 : decode cX9_next 31 = .ok (.iload_n 2, 1) := by decide +kernel
theorem dX9_next_32 : decode cX9_next 32 = .ok (.iconst 2, 1) := by decide +kernel
theorem dX9_next_33 : decode cX9_next 33 = .ok (.invokevirtual 59, 3) := by decide +kernel
theorem dX9_next_36 : decode cX9_next 36 = .ok (.iload_n 1, 1) := by decide +kernel
theorem dX9_next_37 : decode cX9_next 37 = .ok (.if_icmp .ne 5, 3) := by decide +kernel
theorem dX9_next_40 : decode cX9_next 40 = .ok (.iload_n 2, 1) := by decide +kernel
theorem dX9_next_41 : decode cX9_next 41 = .ok (.ireturn, 1) := by decide +kernel
theorem dX9_next_42 : decode cX9_next 42 = .ok (.iinc 2 1, 3) := by decide +kernel
theorem dX9_next_45 : decode cX9_next 45 = .ok (.goto (-43), 3) := by decide +kernel
theorem dX9_next_48 : decode cX9_next 48 = .ok (.bipush (-6), 2) := by decide +kernel
theorem dX9_next_50 : decode cX9_next 50 = .ok (.ireturn, 1) := by decide +kernel
theorem dX9_winds_0 : decode cX9_winds 0 = .ok (.aload_n 0, 1) := by decide +kernel
theorem dX9_winds_1 : decode cX9_winds 1 = .ok (.iload_n 1, 1) := by decide +kernel
theorem dX9_winds_2 : decode cX9_winds 2 = .ok (.iconst 1, 1) := by decide +kernel
theorem dX9_winds_3 : decode cX9_winds 3 = .ok (.invokevirtual 48, 3) := by decide +kernel
theorem dX9_winds_6 : decode cX9_winds 6 = .ok (.ifCond .ne 25, 3) := by decide +kernel
theorem dX9_winds_9 : decode cX9_winds 9 = .ok (.aload_n 0, 1) := by decide +kernel
theorem dX9_winds_10 : decode cX9_winds 10 = .ok (.iload_n 1, 1) := by decide +kernel
theorem dX9_winds_11 : decode cX9_winds 11 = .ok (.iconst 0, 1) := by decide +kernel
theorem dX9_winds_12 : decode cX9_winds 12 = .ok (.aload_n 0, 1) := by decide +kernel
theorem dX9_winds_13 : decode cX9_winds 13 = .ok (.iload_n 1, 1) := by decide +kernel
theorem dX9_winds_14 : decode cX9_winds 14 = .ok (.iconst 0, 1) := by decide +kernel
theorem dX9_winds_15 : decode cX9_winds 15 = .ok (.invokevirtual 48, 3) := by decide +kernel
theorem dX9_winds_18 : decode cX9_winds 18 = .ok (.iload_n 2, 1) := by decide +kernel
theorem dX9_winds_19 : decode cX9_winds 19 = .ok (.aload_n 0, 1) := by decide +kernel
theorem dX9_winds_20 : decode cX9_winds 20 = .ok (.getfield 7, 3) := by decide +kernel
theorem dX9_winds_23 : decode cX9_winds 23 = .ok (.iconst 0, 1) := by decide +kernel
theorem dX9_winds_24 : decode cX9_winds 24 = .ok (.iaload, 1) := by decide +kernel
theorem dX9_winds_25 : decode cX9_winds 25 = .ok (.invokestatic 72, 3) := by decide +kernel
theorem dX9_winds_28 : decode cX9_winds 28 = .ok (.invokevirtual 55, 3) := by decide +kernel
theorem dX9_winds_31 : decode cX9_winds 31 = .ok (.return_, 1) := by decide +kernel
theorem dX9_passes_0 : decode cX9_passes 0 = .ok (.iconst 0, 1) := by decide +kernel
theorem dX9_passes_1 : decode cX9_passes 1 = .ok (.istore_n 1, 1) := by decide +kernel
theorem dX9_passes_2 : decode cX9_passes 2 = .ok (.iconst 0, 1) := by decide +kernel
theorem dX9_passes_3 : decode cX9_passes 3 = .ok (.istore_n 2, 1) := by decide +kernel
theorem dX9_passes_4 : decode cX9_passes 4 = .ok (.iload_n 2, 1) := by decide +kernel
theorem dX9_passes_5 : decode cX9_passes 5 = .ok (.aload_n 0, 1) := by decide +kernel
theorem dX9_passes_6 : decode cX9_passes 6 = .ok (.getfield 7, 3) := by decide +kernel
theorem dX9_passes_9 : decode cX9_passes 9 = .ok (.iconst 5, 1) := by decide +kernel
theorem dX9_passes_10 : decode cX9_passes 10 = .ok (.iaload, 1) := by decide +kernel
theorem dX9_passes_11 : decode cX9_passes 11 = .ok (.if_icmp .ge 62, 3) := by decide +kernel
theorem dX9_passes_14 : decode cX9_passes 14 = .ok (.aload_n 0, 1) := by decide +kernel
theorem dX9_passes_15 : decode cX9_passes 15 = .ok (.iload_n 2, 1) := by decide +kernel
theorem dX9_passes_16 : decode cX9_passes 16 = .ok (.iconst 0, 1) := by decide +kernel
theorem dX9_passes_17 : decode cX9_passes 17 = .ok (.invokevirtual 59, 3) := by decide +kernel
theorem dX9_passes_20 : decode cX9_passes 20 = .ok (.aload_n 0, 1) := by decide +kernel
theorem dX9_passes_21 : decode cX9_passes 21 = .ok (.getfield 7, 3) := by decide +kernel
theorem dX9_passes_24 : decode cX9_passes 24 = .ok (.iconst 4, 1) := by decide +kernel
theorem dX9_passes_25 : decode cX9_passes 25 = .ok (.iaload, 1) := by decide +kernel
theorem dX9_passes_26 : decode cX9_passes 26 = .ok (.if_icmp .ne 41, 3) := by decide +kernel
theorem dX9_passes_29 : decode cX9_passes 29 = .ok (.aload_n 0, 1) := by decide +kernel
theorem dX9_passes_30 : decode cX9_passes 30 = .ok (.iload_n 2, 1) := by decide +kernel
theorem dX9_passes_31 : decode cX9_passes 31 = .ok (.iconst 4, 1) := by decide +kernel
theorem dX9_passes_32 : decode cX9_passes 32 = .ok (.invokevirtual 59, 3) := by decide +kernel
theorem dX9_passes_35 : decode cX9_passes 35 = .ok (.ifCond .ne 32, 3) := by decide +kernel
theorem dX9_passes_38 : decode cX9_passes 38 = .ok (.aload_n 0, 1) := by decide +kernel
theorem dX9_passes_39 : decode cX9_passes 39 = .ok (.iload_n 2, 1) := by decide +kernel
theorem dX9_passes_40 : decode cX9_passes 40 = .ok (.iconst 4, 1) := by decide +kernel
theorem dX9_passes_41 : decode cX9_passes 41 = .ok (.aload_n 0, 1) := by decide +kernel
theorem dX9_passes_42 : decode cX9_passes 42 = .ok (.iload_n 2, 1) := by decide +kernel
theorem dX9_passes_43 : decode cX9_passes 43 = .ok (.invokevirtual 76, 3) := by decide +kernel
theorem dX9_passes_46 : decode cX9_passes 46 = .ok (.invokevirtual 80, 3) := by decide +kernel
theorem dX9_passes_49 : decode cX9_passes 49 = .ok (.iload_n 1, 1) := by decide +kernel
theorem dX9_passes_50 : decode cX9_passes 50 = .ok (.aload_n 0, 1) := by decide +kernel
theorem dX9_passes_51 : decode cX9_passes 51 = .ok (.iload_n 2, 1) := by decide +kernel
theorem dX9_passes_52 : decode cX9_passes 52 = .ok (.iconst 4, 1) := by decide +kernel
theorem dX9_passes_53 : decode cX9_passes 53 = .ok (.invokevirtual 59, 3) := by decide +kernel
theorem dX9_passes_56 : decode cX9_passes 56 = .ok (.iconst 1, 1) := by decide +kernel
theorem dX9_passes_57 : decode cX9_passes 57 = .ok (.if_icmp .le 7, 3) := by decide +kernel
theorem dX9_passes_60 : decode cX9_passes 60 = .ok (.iconst 1, 1) := by decide +kernel
theorem dX9_passes_61 : decode cX9_passes 61 = .ok (.goto 4, 3) := by decide +kernel
theorem dX9_passes_64 : decode cX9_passes 64 = .ok (.iconst 0, 1) := by decide +kernel
theorem dX9_passes_65 : decode cX9_passes 65 = .ok (.iadd, 1) := by decide +kernel
theorem dX9_passes_66 : decode cX9_passes 66 = .ok (.istore_n 1, 1) := by decide +kernel
theorem dX9_passes_67 : decode cX9_passes 67 = .ok (.iinc 2 1, 3) := by decide +kernel
theorem dX9_passes_70 : decode cX9_passes 70 = .ok (.goto (-66), 3) := by decide +kernel
theorem dX9_passes_73 : decode cX9_passes 73 = .ok (.sipush 216, 3) := by decide +kernel
theorem dX9_passes_76 : decode cX9_passes 76 = .ok (.istore_n 2, 1) := by decide +kernel
theorem dX9_passes_77 : decode cX9_passes 77 = .ok (.iload_n 2, 1) := by decide +kernel
theorem dX9_passes_78 : decode cX9_passes 78 = .ok (.sipush 224, 3) := by decide +kernel
theorem dX9_passes_81 : decode cX9_passes 81 = .ok (.if_icmp .ge 38, 3) := by decide +kernel
theorem dX9_passes_84 : decode cX9_passes 84 = .ok (.aload_n 0, 1) := by decide +kernel
theorem dX9_passes_85 : decode cX9_passes 85 = .ok (.getfield 7, 3) := by decide +kernel
theorem dX9_passes_88 : decode cX9_passes 88 = .ok (.iload_n 2, 1) := by decide +kernel
theorem dX9_passes_89 : decode cX9_passes 89 = .ok (.aload_n 0, 1) := by decide +kernel
theorem dX9_passes_90 : decode cX9_passes 90 = .ok (.getfield 7, 3) := by decide +kernel
theorem dX9_passes_93 : decode cX9_passes 93 = .ok (.iload_n 2, 1) := by decide +kernel
theorem dX9_passes_94 : decode cX9_passes 94 = .ok (.iaload, 1) := by decide +kernel
theorem dX9_passes_95 : decode cX9_passes 95 = .ok (.aload_n 0, 1) := by decide +kernel
theorem dX9_passes_96 : decode cX9_passes 96 = .ok (.getfield 7, 3) := by decide +kernel
theorem dX9_passes_99 : decode cX9_passes 99 = .ok (.iload_n 2, 1) := by decide +kernel
theorem dX9_passes_100 : decode cX9_passes 100 = .ok (.iconst 1, 1) := by decide +kernel
theorem dX9_passes_101 : decode cX9_passes 101 = .ok (.iadd, 1) := by decide +kernel
theorem dX9_passes_102 : decode cX9_passes 102 = .ok (.iaload, 1) := by decide +kernel
theorem dX9_passes_103 : decode cX9_passes 103 = .ok (.aload_n 0, 1) := by decide +kernel
theorem dX9_passes_104 : decode cX9_passes 104 = .ok (.getfield 7, 3) := by decide +kernel
theorem dX9_passes_107 : decode cX9_passes 107 = .ok (.iconst 2, 1) := by decide +kernel
theorem dX9_passes_108 : decode cX9_passes 108 = .ok (.iaload, 1) := by decide +kernel
theorem dX9_passes_109 : decode cX9_passes 109 = .ok (.invokestatic 72, 3) := by decide +kernel
theorem dX9_passes_112 : decode cX9_passes 112 = .ok (.iastore, 1) := by decide +kernel
theorem dX9_passes_113 : decode cX9_passes 113 = .ok (.iinc 2 2, 3) := by decide +kernel
theorem dX9_passes_116 : decode cX9_passes 116 = .ok (.goto (-39), 3) := by decide +kernel
theorem dX9_passes_119 : decode cX9_passes 119 = .ok (.aload_n 0, 1) := by decide +kernel
theorem dX9_passes_120 : decode cX9_passes 120 = .ok (.getfield 7, 3) := by decide +kernel
theorem dX9_passes_123 : decode cX9_passes 123 = .ok (.sipush 320, 3) := by decide +kernel
theorem dX9_passes_126 : decode cX9_passes 126 = .ok (.aload_n 0, 1) := by decide +kernel
theorem dX9_passes_127 : decode cX9_passes 127 = .ok (.getfield 7, 3) := by decide +kernel
theorem dX9_passes_130 : decode cX9_passes 130 = .ok (.iconst 4, 1) := by decide +kernel
theorem dX9_passes_131 : decode cX9_passes 131 = .ok (.iaload, 1) := by decide +kernel
theorem dX9_passes_132 : decode cX9_passes 132 = .ok (.iadd, 1) := by decide +kernel
theorem dX9_passes_133 : decode cX9_passes 133 = .ok (.aload_n 0, 1) := by decide +kernel
theorem dX9_passes_134 : decode cX9_passes 134 = .ok (.invokevirtual 83, 3) := by decide +kernel
theorem dX9_passes_137 : decode cX9_passes 137 = .ok (.iastore, 1) := by decide +kernel
theorem dX9_passes_138 : decode cX9_passes 138 = .ok (.iconst 0, 1) := by decide +kernel
theorem dX9_passes_139 : decode cX9_passes 139 = .ok (.istore_n 2, 1) := by decide +kernel
theorem dX9_passes_140 : decode cX9_passes 140 = .ok (.iload_n 2, 1) := by decide +kernel
theorem dX9_passes_141 : decode cX9_passes 141 = .ok (.iconst 4, 1) := by decide +kernel
theorem dX9_passes_142 : decode cX9_passes 142 = .ok (.if_icmp .ge 49, 3) := by decide +kernel
theorem dX9_passes_145 : decode cX9_passes 145 = .ok (.aload_n 0, 1) := by decide +kernel
theorem dX9_passes_146 : decode cX9_passes 146 = .ok (.iload_n 2, 1) := by decide +kernel
theorem dX9_passes_147 : decode cX9_passes 147 = .ok (.invokevirtual 87, 3) := by decide +kernel
theorem dX9_passes_150 : decode cX9_passes 150 = .ok (.aload_n 0, 1) := by decide +kernel
theorem dX9_passes_151 : decode cX9_passes 151 = .ok (.iload_n 2, 1) := by decide +kernel
theorem dX9_passes_152 : decode cX9_passes 152 = .ok (.invokevirtual 91, 3) := by decide +kernel
theorem dX9_passes_155 : decode cX9_passes 155 = .ok (.istore_n 3, 1) := by decide +kernel
theorem dX9_passes_156 : decode cX9_passes 156 = .ok (.aload_n 0, 1) := by decide +kernel
theorem dX9_passes_157 : decode cX9_passes 157 = .ok (.iload_n 2, 1) := by decide +kernel
theorem dX9_passes_158 : decode cX9_passes 158 = .ok (.iload_n 3, 1) := by decide +kernel
theorem dX9_passes_159 : decode cX9_passes 159 = .ok (.ifCond .ge 12, 3) := by decide +kernel
theorem dX9_passes_162 : decode cX9_passes 162 = .ok (.aload_n 0, 1) := by decide +kernel
theorem dX9_passes_163 : decode cX9_passes 163 = .ok (.iload_n 2, 1) := by decide +kernel
theorem dX9_passes_164 : decode cX9_passes 164 = .ok (.iconst 0, 1) := by decide +kernel
theorem dX9_passes_165 : decode cX9_passes 165 = .ok (.invokevirtual 48, 3) := by decide +kernel
theorem dX9_passes_168 : decode cX9_passes 168 = .ok (.goto 14, 3) := by decide +kernel
theorem dX9_passes_171 : decode cX9_passes 171 = .ok (.aload_n 0, 1) := by decide +kernel
theorem dX9_passes_172 : decode cX9_passes 172 = .ok (.iload_n 2, 1) := by decide +kernel
theorem dX9_passes_173 : decode cX9_passes 173 = .ok (.aload_n 0, 1) := by decide +kernel
theorem dX9_passes_174 : decode cX9_passes 174 = .ok (.iload_n 3, 1) := by decide +kernel
theorem dX9_passes_175 : decode cX9_passes 175 = .ok (.iconst 3, 1) := by decide +kernel
theorem dX9_passes_176 : decode cX9_passes 176 = .ok (.invokevirtual 59, 3) := by decide +kernel
theorem dX9_passes_179 : decode cX9_passes 179 = .ok (.invokevirtual 62, 3) := by decide +kernel
theorem dX9_passes_182 : decode cX9_passes 182 = .ok (.invokevirtual 94, 3) := by decide +kernel
theorem dX9_passes_185 : decode cX9_passes 185 = .ok (.iinc 2 1, 3) := by decide +kernel
theorem dX9_passes_188 : decode cX9_passes 188 = .ok (.goto (-48), 3) := by decide +kernel
theorem dX9_passes_191 : decode cX9_passes 191 = .ok (.aload_n 0, 1) := by decide +kernel
theorem dX9_passes_192 : decode cX9_passes 192 = .ok (.invokevirtual 97, 3) := by decide +kernel
theorem dX9_passes_195 : decode cX9_passes 195 = .ok (.aload_n 0, 1) := by decide +kernel
theorem dX9_passes_196 : decode cX9_passes 196 = .ok (.getfield 7, 3) := by decide +kernel
theorem dX9_passes_199 : decode cX9_passes 199 = .ok (.iconst 4, 1) := by decide +kernel
theorem dX9_passes_200 : decode cX9_passes 200 = .ok (.dup2, 1) := by decide +kernel
theorem dX9_passes_201 : decode cX9_passes 201 = .ok (.iaload, 1) := by decide +kernel
theorem dX9_passes_202 : decode cX9_passes 202 = .ok (.iconst 1, 1) := by decide +kernel
theorem dX9_passes_203 : decode cX9_passes 203 = .ok (.iadd, 1) := by decide +kernel
theorem dX9_passes_204 : decode cX9_passes 204 = .ok (.iastore, 1) := by decide +kernel
theorem dX9_passes_205 : decode cX9_passes 205 = .ok (.iload_n 1, 1) := by decide +kernel
theorem dX9_passes_206 : decode cX9_passes 206 = .ok (.ireturn, 1) := by decide +kernel
theorem dX9_least_0 : decode cX9_least 0 = .ok (.iload_n 0, 1) := by decide +kernel
theorem dX9_least_1 : decode cX9_least 1 = .ok (.iconst 3, 1) := by decide +kernel
theorem dX9_least_2 : decode cX9_least 2 = .ok (.if_icmp .ne 8, 3) := by decide +kernel
theorem dX9_least_5 : decode cX9_least 5 = .ok (.bipush 10, 2) := by decide +kernel
theorem dX9_least_7 : decode cX9_least 7 = .ok (.goto 4, 3) := by decide +kernel
theorem dX9_least_10 : decode cX9_least 10 = .ok (.iconst 1, 1) := by decide +kernel
theorem dX9_least_11 : decode cX9_least 11 = .ok (.ireturn, 1) := by decide +kernel
theorem dX9_most_0 : decode cX9_most 0 = .ok (.iload_n 0, 1) := by decide +kernel
theorem dX9_most_1 : decode cX9_most 1 = .ok (.ifCond .ne 8, 3) := by decide +kernel
theorem dX9_most_4 : decode cX9_most 4 = .ok (.bipush 20, 2) := by decide +kernel
theorem dX9_most_6 : decode cX9_most 6 = .ok (.goto 26, 3) := by decide +kernel
theorem dX9_most_9 : decode cX9_most 9 = .ok (.iload_n 0, 1) := by decide +kernel
theorem dX9_most_10 : decode cX9_most 10 = .ok (.iconst 1, 1) := by decide +kernel
theorem dX9_most_11 : decode cX9_most 11 = .ok (.if_icmp .ne 8, 3) := by decide +kernel
theorem dX9_most_14 : decode cX9_most 14 = .ok (.bipush 9, 2) := by decide +kernel
theorem dX9_most_16 : decode cX9_most 16 = .ok (.goto 16, 3) := by decide +kernel
theorem dX9_most_19 : decode cX9_most 19 = .ok (.iload_n 0, 1) := by decide +kernel
theorem dX9_most_20 : decode cX9_most 20 = .ok (.iconst 2, 1) := by decide +kernel
theorem dX9_most_21 : decode cX9_most 21 = .ok (.if_icmp .ne 8, 3) := by decide +kernel
theorem dX9_most_24 : decode cX9_most 24 = .ok (.bipush 100, 2) := by decide +kernel
theorem dX9_most_26 : decode cX9_most 26 = .ok (.goto 6, 3) := by decide +kernel
theorem dX9_most_29 : decode cX9_most 29 = .ok (.sipush 400, 3) := by decide +kernel
theorem dX9_most_32 : decode cX9_most 32 = .ok (.ireturn, 1) := by decide +kernel
theorem dX9_set_0 : decode cX9_set 0 = .ok (.iload_n 1, 1) := by decide +kernel
theorem dX9_set_1 : decode cX9_set 1 = .ok (.iconst 0, 1) := by decide +kernel
theorem dX9_set_2 : decode cX9_set 2 = .ok (.iconst 3, 1) := by decide +kernel
theorem dX9_set_3 : decode cX9_set 3 = .ok (.invokestatic 40, 3) := by decide +kernel
theorem dX9_set_6 : decode cX9_set 6 = .ok (.ifCond .eq 18, 3) := by decide +kernel
theorem dX9_set_9 : decode cX9_set 9 = .ok (.iload_n 2, 1) := by decide +kernel
theorem dX9_set_10 : decode cX9_set 10 = .ok (.iload_n 1, 1) := by decide +kernel
theorem dX9_set_11 : decode cX9_set 11 = .ok (.invokestatic 100, 3) := by decide +kernel
theorem dX9_set_14 : decode cX9_set 14 = .ok (.iload_n 1, 1) := by decide +kernel
theorem dX9_set_15 : decode cX9_set 15 = .ok (.invokestatic 103, 3) := by decide +kernel
theorem dX9_set_18 : decode cX9_set 18 = .ok (.invokestatic 40, 3) := by decide +kernel
theorem dX9_set_21 : decode cX9_set 21 = .ok (.ifCond .ne 6, 3) := by decide +kernel
theorem dX9_set_24 : decode cX9_set 24 = .ok (.bipush (-2), 2) := by decide +kernel
theorem dX9_set_26 : decode cX9_set 26 = .ok (.ireturn, 1) := by decide +kernel
theorem dX9_set_27 : decode cX9_set 27 = .ok (.aload_n 0, 1) := by decide +kernel
theorem dX9_set_28 : decode cX9_set 28 = .ok (.invokevirtual 106, 3) := by decide +kernel
theorem dX9_set_31 : decode cX9_set 31 = .ok (.aload_n 0, 1) := by decide +kernel
theorem dX9_set_32 : decode cX9_set 32 = .ok (.getfield 7, 3) := by decide +kernel
theorem dX9_set_35 : decode cX9_set 35 = .ok (.iload_n 1, 1) := by decide +kernel
theorem dX9_set_36 : decode cX9_set 36 = .ok (.iaload, 1) := by decide +kernel
theorem dX9_set_37 : decode cX9_set 37 = .ok (.istore_n 3, 1) := by decide +kernel
theorem dX9_set_38 : decode cX9_set 38 = .ok (.aload_n 0, 1) := by decide +kernel
theorem dX9_set_39 : decode cX9_set 39 = .ok (.getfield 7, 3) := by decide +kernel
theorem dX9_set_42 : decode cX9_set 42 = .ok (.iload_n 1, 1) := by decide +kernel
theorem dX9_set_43 : decode cX9_set 43 = .ok (.iload_n 2, 1) := by decide +kernel
theorem dX9_set_44 : decode cX9_set 44 = .ok (.iastore, 1) := by decide +kernel
theorem dX9_set_45 : decode cX9_set 45 = .ok (.iload_n 3, 1) := by decide +kernel
theorem dX9_set_46 : decode cX9_set 46 = .ok (.ireturn, 1) := by decide +kernel
theorem dX9_sound_0 : decode cX9_sound 0 = .ok (.iload_n 1, 1) := by decide +kernel
theorem dX9_sound_1 : decode cX9_sound 1 = .ok (.invokestatic 44, 3) := by decide +kernel
theorem dX9_sound_4 : decode cX9_sound 4 = .ok (.ifCond .ne 5, 3) := by decide +kernel
theorem dX9_sound_7 : decode cX9_sound 7 = .ok (.iconst (-1), 1) := by decide +kernel
theorem dX9_sound_8 : decode cX9_sound 8 = .ok (.ireturn, 1) := by decide +kernel
theorem dX9_sound_9 : decode cX9_sound 9 = .ok (.iload_n 2, 1) := by decide +kernel
theorem dX9_sound_10 : decode cX9_sound 10 = .ok (.iconst 1, 1) := by decide +kernel
theorem dX9_sound_11 : decode cX9_sound 11 = .ok (.bipush 60, 2) := by decide +kernel
theorem dX9_sound_13 : decode cX9_sound 13 = .ok (.invokestatic 40, 3) := by decide +kernel
theorem dX9_sound_16 : decode cX9_sound 16 = .ok (.ifCond .eq 13, 3) := by decide +kernel
theorem dX9_sound_19 : decode cX9_sound 19 = .ok (.iload_n 3, 1) := by decide +kernel
theorem dX9_sound_20 : decode cX9_sound 20 = .ok (.iconst 1, 1) := by decide +kernel
theorem dX9_sound_21 : decode cX9_sound 21 = .ok (.bipush 99, 2) := by decide +kernel
theorem dX9_sound_23 : decode cX9_sound 23 = .ok (.invokestatic 40, 3) := by decide +kernel
theorem dX9_sound_26 : decode cX9_sound 26 = .ok (.ifCond .ne 6, 3) := by decide +kernel
theorem dX9_sound_29 : decode cX9_sound 29 = .ok (.bipush (-2), 2) := by decide +kernel
theorem dX9_sound_31 : decode cX9_sound 31 = .ok (.ireturn, 1) := by decide +kernel
theorem dX9_sound_32 : decode cX9_sound 32 = .ok (.aload_n 0, 1) := by decide +kernel
theorem dX9_sound_33 : decode cX9_sound 33 = .ok (.iload_n 1, 1) := by decide +kernel
theorem dX9_sound_34 : decode cX9_sound 34 = .ok (.iconst 3, 1) := by decide +kernel
theorem dX9_sound_35 : decode cX9_sound 35 = .ok (.invokevirtual 48, 3) := by decide +kernel
theorem dX9_sound_38 : decode cX9_sound 38 = .ok (.istore 4, 2) := by decide +kernel
theorem dX9_sound_40 : decode cX9_sound 40 = .ok (.iload 4, 2) := by decide +kernel
theorem dX9_sound_42 : decode cX9_sound 42 = .ok (.bipush 6, 2) := by decide +kernel
theorem dX9_sound_44 : decode cX9_sound 44 = .ok (.if_icmp .ne 6, 3) := by decide +kernel
theorem dX9_sound_47 : decode cX9_sound 47 = .ok (.bipush (-4), 2) := by decide +kernel
theorem dX9_sound_49 : decode cX9_sound 49 = .ok (.ireturn, 1) := by decide +kernel
theorem dX9_sound_50 : decode cX9_sound 50 = .ok (.aload_n 0, 1) := by decide +kernel
theorem dX9_sound_51 : decode cX9_sound 51 = .ok (.invokevirtual 106, 3) := by decide +kernel
theorem dX9_sound_54 : decode cX9_sound 54 = .ok (.iload_n 1, 1) := by decide +kernel
theorem dX9_sound_55 : decode cX9_sound 55 = .ok (.iload 4, 2) := by decide +kernel
theorem dX9_sound_57 : decode cX9_sound 57 = .ok (.invokestatic 52, 3) := by decide +kernel
theorem dX9_sound_60 : decode cX9_sound 60 = .ok (.istore 5, 2) := by decide +kernel
theorem dX9_sound_62 : decode cX9_sound 62 = .ok (.aload_n 0, 1) := by decide +kernel
theorem dX9_sound_63 : decode cX9_sound 63 = .ok (.getfield 7, 3) := by decide +kernel
theorem dX9_sound_66 : decode cX9_sound 66 = .ok (.iload 5, 2) := by decide +kernel
theorem dX9_sound_68 : decode cX9_sound 68 = .ok (.iconst 0, 1) := by decide +kernel
theorem dX9_sound_69 : decode cX9_sound 69 = .ok (.iadd, 1) := by decide +kernel
theorem dX9_sound_70 : decode cX9_sound 70 = .ok (.iload_n 2, 1) := by decide +kernel
theorem dX9_sound_71 : decode cX9_sound 71 = .ok (.iastore, 1) := by decide +kernel
theorem dX9_sound_72 : decode cX9_sound 72 = .ok (.aload_n 0, 1) := by decide +kernel
theorem dX9_sound_73 : decode cX9_sound 73 = .ok (.getfield 7, 3) := by decide +kernel
theorem dX9_sound_76 : decode cX9_sound 76 = .ok (.iload 5, 2) := by decide +kernel
theorem dX9_sound_78 : decode cX9_sound 78 = .ok (.iconst 1, 1) := by decide +kernel
theorem dX9_sound_79 : decode cX9_sound 79 = .ok (.iadd, 1) := by decide +kernel
theorem dX9_sound_80 : decode cX9_sound 80 = .ok (.iload_n 3, 1) := by decide +kernel
theorem dX9_sound_81 : decode cX9_sound 81 = .ok (.iastore, 1) := by decide +kernel
theorem dX9_sound_82 : decode cX9_sound 82 = .ok (.aload_n 0, 1) := by decide +kernel
theorem dX9_sound_83 : decode cX9_sound 83 = .ok (.getfield 7, 3) := by decide +kernel
theorem dX9_sound_86 : decode cX9_sound 86 = .ok (.iload 5, 2) := by decide +kernel
theorem dX9_sound_88 : decode cX9_sound 88 = .ok (.iconst 2, 1) := by decide +kernel
theorem dX9_sound_89 : decode cX9_sound 89 = .ok (.iadd, 1) := by decide +kernel
theorem dX9_sound_90 : decode cX9_sound 90 = .ok (.iconst 0, 1) := by decide +kernel
theorem dX9_sound_91 : decode cX9_sound 91 = .ok (.iastore, 1) := by decide +kernel
theorem dX9_sound_92 : decode cX9_sound 92 = .ok (.aload_n 0, 1) := by decide +kernel
theorem dX9_sound_93 : decode cX9_sound 93 = .ok (.iload_n 1, 1) := by decide +kernel
theorem dX9_sound_94 : decode cX9_sound 94 = .ok (.iconst 3, 1) := by decide +kernel
theorem dX9_sound_95 : decode cX9_sound 95 = .ok (.iload 4, 2) := by decide +kernel
theorem dX9_sound_97 : decode cX9_sound 97 = .ok (.iconst 1, 1) := by decide +kernel
theorem dX9_sound_98 : decode cX9_sound 98 = .ok (.iadd, 1) := by decide +kernel
theorem dX9_sound_99 : decode cX9_sound 99 = .ok (.invokevirtual 55, 3) := by decide +kernel
theorem dX9_sound_102 : decode cX9_sound 102 = .ok (.iload 4, 2) := by decide +kernel
theorem dX9_sound_104 : decode cX9_sound 104 = .ok (.ireturn, 1) := by decide +kernel
theorem dX9_opens_0 : decode cX9_opens 0 = .ok (.aload_n 0, 1) := by decide +kernel
theorem dX9_opens_1 : decode cX9_opens 1 = .ok (.getfield 7, 3) := by decide +kernel
theorem dX9_opens_4 : decode cX9_opens 4 = .ok (.iconst 5, 1) := by decide +kernel
theorem dX9_opens_5 : decode cX9_opens 5 = .ok (.iaload, 1) := by decide +kernel
theorem dX9_opens_6 : decode cX9_opens 6 = .ok (.istore_n 2, 1) := by decide +kernel
theorem dX9_opens_7 : decode cX9_opens 7 = .ok (.iload_n 2, 1) := by decide +kernel
theorem dX9_opens_8 : decode cX9_opens 8 = .ok (.ifCond .le 21, 3) := by decide +kernel
theorem dX9_opens_11 : decode cX9_opens 11 = .ok (.aload_n 0, 1) := by decide +kernel
theorem dX9_opens_12 : decode cX9_opens 12 = .ok (.iload_n 2, 1) := by decide +kernel
theorem dX9_opens_13 : decode cX9_opens 13 = .ok (.iconst 1, 1) := by decide +kernel
theorem dX9_opens_14 : decode cX9_opens 14 = .ok (.isub, 1) := by decide +kernel
theorem dX9_opens_15 : decode cX9_opens 15 = .ok (.iconst 0, 1) := by decide +kernel
theorem dX9_opens_16 : decode cX9_opens 16 = .ok (.invokevirtual 59, 3) := by decide +kernel
theorem dX9_opens_19 : decode cX9_opens 19 = .ok (.iload_n 1, 1) := by decide +kernel
theorem dX9_opens_20 : decode cX9_opens 20 = .ok (.if_icmp .le 9, 3) := by decide +kernel
theorem dX9_opens_23 : decode cX9_opens 23 = .ok (.iinc 2 (-1), 3) := by decide +kernel
theorem dX9_opens_26 : decode cX9_opens 26 = .ok (.goto (-19), 3) := by decide +kernel
theorem dX9_opens_29 : decode cX9_opens 29 = .ok (.bipush 8, 2) := by decide +kernel
theorem dX9_opens_31 : decode cX9_opens 31 = .ok (.iconst 5, 1) := by decide +kernel
theorem dX9_opens_32 : decode cX9_opens 32 = .ok (.aload_n 0, 1) := by decide +kernel
theorem dX9_opens_33 : decode cX9_opens 33 = .ok (.getfield 7, 3) := by decide +kernel
theorem dX9_opens_36 : decode cX9_opens 36 = .ok (.iconst 5, 1) := by decide +kernel
theorem dX9_opens_37 : decode cX9_opens 37 = .ok (.iaload, 1) := by decide +kernel
theorem dX9_opens_38 : decode cX9_opens 38 = .ok (.imul, 1) := by decide +kernel
theorem dX9_opens_39 : decode cX9_opens 39 = .ok (.iadd, 1) := by decide +kernel
theorem dX9_opens_40 : decode cX9_opens 40 = .ok (.iconst 1, 1) := by decide +kernel
theorem dX9_opens_41 : decode cX9_opens 41 = .ok (.isub, 1) := by decide +kernel
theorem dX9_opens_42 : decode cX9_opens 42 = .ok (.istore_n 3, 1) := by decide +kernel
theorem dX9_opens_43 : decode cX9_opens 43 = .ok (.iload_n 3, 1) := by decide +kernel
theorem dX9_opens_44 : decode cX9_opens 44 = .ok (.bipush 8, 2) := by decide +kernel
theorem dX9_opens_46 : decode cX9_opens 46 = .ok (.iconst 5, 1) := by decide +kernel
theorem dX9_opens_47 : decode cX9_opens 47 = .ok (.iload_n 2, 1) := by decide +kernel
theorem dX9_opens_48 : decode cX9_opens 48 = .ok (.imul, 1) := by decide +kernel
theorem dX9_opens_49 : decode cX9_opens 49 = .ok (.iadd, 1) := by decide +kernel
theorem dX9_opens_50 : decode cX9_opens 50 = .ok (.if_icmp .lt 23, 3) := by decide +kernel
theorem dX9_opens_53 : decode cX9_opens 53 = .ok (.aload_n 0, 1) := by decide +kernel
theorem dX9_opens_54 : decode cX9_opens 54 = .ok (.getfield 7, 3) := by decide +kernel
theorem dX9_opens_57 : decode cX9_opens 57 = .ok (.iload_n 3, 1) := by decide +kernel
theorem dX9_opens_58 : decode cX9_opens 58 = .ok (.iconst 5, 1) := by decide +kernel
theorem dX9_opens_59 : decode cX9_opens 59 = .ok (.iadd, 1) := by decide +kernel
theorem dX9_opens_60 : decode cX9_opens 60 = .ok (.aload_n 0, 1) := by decide +kernel
theorem dX9_opens_61 : decode cX9_opens 61 = .ok (.getfield 7, 3) := by decide +kernel
theorem dX9_opens_64 : decode cX9_opens 64 = .ok (.iload_n 3, 1) := by decide +kernel
theorem dX9_opens_65 : decode cX9_opens 65 = .ok (.iaload, 1) := by decide +kernel
theorem dX9_opens_66 : decode cX9_opens 66 = .ok (.iastore, 1) := by decide +kernel
theorem dX9_opens_67 : decode cX9_opens 67 = .ok (.iinc 3 (-1), 3) := by decide +kernel
theorem dX9_opens_70 : decode cX9_opens 70 = .ok (.goto (-27), 3) := by decide +kernel
theorem dX9_opens_73 : decode cX9_opens 73 = .ok (.aload_n 0, 1) := by decide +kernel
theorem dX9_opens_74 : decode cX9_opens 74 = .ok (.getfield 7, 3) := by decide +kernel
theorem dX9_opens_77 : decode cX9_opens 77 = .ok (.iconst 5, 1) := by decide +kernel
theorem dX9_opens_78 : decode cX9_opens 78 = .ok (.dup2, 1) := by decide +kernel
theorem dX9_opens_79 : decode cX9_opens 79 = .ok (.iaload, 1) := by decide +kernel
theorem dX9_opens_80 : decode cX9_opens 80 = .ok (.iconst 1, 1) := by decide +kernel
theorem dX9_opens_81 : decode cX9_opens 81 = .ok (.iadd, 1) := by decide +kernel
theorem dX9_opens_82 : decode cX9_opens 82 = .ok (.iastore, 1) := by decide +kernel
theorem dX9_opens_83 : decode cX9_opens 83 = .ok (.iload_n 2, 1) := by decide +kernel
theorem dX9_opens_84 : decode cX9_opens 84 = .ok (.ireturn, 1) := by decide +kernel
theorem dX9_closes_0 : decode cX9_closes 0 = .ok (.aload_n 0, 1) := by decide +kernel
theorem dX9_closes_1 : decode cX9_closes 1 = .ok (.getfield 7, 3) := by decide +kernel
theorem dX9_closes_4 : decode cX9_closes 4 = .ok (.iconst 5, 1) := by decide +kernel
theorem dX9_closes_5 : decode cX9_closes 5 = .ok (.dup2, 1) := by decide +kernel
theorem dX9_closes_6 : decode cX9_closes 6 = .ok (.iaload, 1) := by decide +kernel
theorem dX9_closes_7 : decode cX9_closes 7 = .ok (.iconst 1, 1) := by decide +kernel
theorem dX9_closes_8 : decode cX9_closes 8 = .ok (.isub, 1) := by decide +kernel
theorem dX9_closes_9 : decode cX9_closes 9 = .ok (.iastore, 1) := by decide +kernel
theorem dX9_closes_10 : decode cX9_closes 10 = .ok (.bipush 8, 2) := by decide +kernel
theorem dX9_closes_12 : decode cX9_closes 12 = .ok (.iconst 5, 1) := by decide +kernel
theorem dX9_closes_13 : decode cX9_closes 13 = .ok (.iload_n 1, 1) := by decide +kernel
theorem dX9_closes_14 : decode cX9_closes 14 = .ok (.imul, 1) := by decide +kernel
theorem dX9_closes_15 : decode cX9_closes 15 = .ok (.iadd, 1) := by decide +kernel
theorem dX9_closes_16 : decode cX9_closes 16 = .ok (.istore_n 2, 1) := by decide +kernel
theorem dX9_closes_17 : decode cX9_closes 17 = .ok (.iload_n 2, 1) := by decide +kernel
theorem dX9_closes_18 : decode cX9_closes 18 = .ok (.bipush 8, 2) := by decide +kernel
theorem dX9_closes_20 : decode cX9_closes 20 = .ok (.iconst 5, 1) := by decide +kernel
theorem dX9_closes_21 : decode cX9_closes 21 = .ok (.aload_n 0, 1) := by decide +kernel
theorem dX9_closes_22 : decode cX9_closes 22 = .ok (.getfield 7, 3) := by decide +kernel
theorem dX9_closes_25 : decode cX9_closes 25 = .ok (.iconst 5, 1) := by decide +kernel
theorem dX9_closes_26 : decode cX9_closes 26 = .ok (.iaload, 1) := by decide +kernel
theorem dX9_closes_27 : decode cX9_closes 27 = .ok (.imul, 1) := by decide +kernel
theorem dX9_closes_28 : decode cX9_closes 28 = .ok (.iadd, 1) := by decide +kernel
theorem dX9_closes_29 : decode cX9_closes 29 = .ok (.if_icmp .ge 23, 3) := by decide +kernel
theorem dX9_closes_32 : decode cX9_closes 32 = .ok (.aload_n 0, 1) := by decide +kernel
theorem dX9_closes_33 : decode cX9_closes 33 = .ok (.getfield 7, 3) := by decide +kernel
theorem dX9_closes_36 : decode cX9_closes 36 = .ok (.iload_n 2, 1) := by decide +kernel
theorem dX9_closes_37 : decode cX9_closes 37 = .ok (.aload_n 0, 1) := by decide +kernel
theorem dX9_closes_38 : decode cX9_closes 38 = .ok (.getfield 7, 3) := by decide +kernel
theorem dX9_closes_41 : decode cX9_closes 41 = .ok (.iload_n 2, 1) := by decide +kernel
theorem dX9_closes_42 : decode cX9_closes 42 = .ok (.iconst 5, 1) := by decide +kernel
theorem dX9_closes_43 : decode cX9_closes 43 = .ok (.iadd, 1) := by decide +kernel
theorem dX9_closes_44 : decode cX9_closes 44 = .ok (.iaload, 1) := by decide +kernel
theorem dX9_closes_45 : decode cX9_closes 45 = .ok (.iastore, 1) := by decide +kernel
theorem dX9_closes_46 : decode cX9_closes 46 = .ok (.iinc 2 1, 3) := by decide +kernel
theorem dX9_closes_49 : decode cX9_closes 49 = .ok (.goto (-32), 3) := by decide +kernel
theorem dX9_closes_52 : decode cX9_closes 52 = .ok (.return_, 1) := by decide +kernel
theorem dX9_cue_0 : decode cX9_cue 0 = .ok (.iload_n 1, 1) := by decide +kernel
theorem dX9_cue_1 : decode cX9_cue 1 = .ok (.iconst 0, 1) := by decide +kernel
theorem dX9_cue_2 : decode cX9_cue 2 = .ok (.sipush 999, 3) := by decide +kernel
theorem dX9_cue_5 : decode cX9_cue 5 = .ok (.invokestatic 40, 3) := by decide +kernel
theorem dX9_cue_8 : decode cX9_cue 8 = .ok (.ifCond .eq 12, 3) := by decide +kernel
theorem dX9_cue_11 : decode cX9_cue 11 = .ok (.iload_n 2, 1) := by decide +kernel
theorem dX9_cue_12 : decode cX9_cue 12 = .ok (.iconst 0, 1) := by decide +kernel
theorem dX9_cue_13 : decode cX9_cue 13 = .ok (.iconst 2, 1) := by decide +kernel
theorem dX9_cue_14 : decode cX9_cue 14 = .ok (.invokestatic 40, 3) := by decide +kernel
theorem dX9_cue_17 : decode cX9_cue 17 = .ok (.ifCond .ne 6, 3) := by decide +kernel
theorem dX9_cue_20 : decode cX9_cue 20 = .ok (.bipush (-2), 2) := by decide +kernel
theorem dX9_cue_22 : decode cX9_cue 22 = .ok (.ireturn, 1) := by decide +kernel
theorem dX9_cue_23 : decode cX9_cue 23 = .ok (.iload_n 3, 1) := by decide +kernel
theorem dX9_cue_24 : decode cX9_cue 24 = .ok (.invokestatic 44, 3) := by decide +kernel
theorem dX9_cue_27 : decode cX9_cue 27 = .ok (.ifCond .eq 17, 3) := by decide +kernel
theorem dX9_cue_30 : decode cX9_cue 30 = .ok (.iload_n 2, 1) := by decide +kernel
theorem dX9_cue_31 : decode cX9_cue 31 = .ok (.ifCond .ne 15, 3) := by decide +kernel
theorem dX9_cue_34 : decode cX9_cue 34 = .ok (.aload_n 0, 1) := by decide +kernel
theorem dX9_cue_35 : decode cX9_cue 35 = .ok (.iload_n 3, 1) := by decide +kernel
theorem dX9_cue_36 : decode cX9_cue 36 = .ok (.iload 4, 2) := by decide +kernel
theorem dX9_cue_38 : decode cX9_cue 38 = .ok (.invokevirtual 109, 3) := by decide +kernel
theorem dX9_cue_41 : decode cX9_cue 41 = .ok (.ifCond .ne 5, 3) := by decide +kernel
theorem dX9_cue_44 : decode cX9_cue 44 = .ok (.iconst (-1), 1) := by decide +kernel
theorem dX9_cue_45 : decode cX9_cue 45 = .ok (.ireturn, 1) := by decide +kernel
theorem dX9_cue_46 : decode cX9_cue 46 = .ok (.iload_n 2, 1) := by decide +kernel
theorem dX9_cue_47 : decode cX9_cue 47 = .ok (.iconst 1, 1) := by decide +kernel
theorem dX9_cue_48 : decode cX9_cue 48 = .ok (.if_icmp .ne 14, 3) := by decide +kernel
theorem dX9_cue_51 : decode cX9_cue 51 = .ok (.iload 4, 2) := by decide +kernel
theorem dX9_cue_53 : decode cX9_cue 53 = .ok (.iconst 1, 1) := by decide +kernel
theorem dX9_cue_54 : decode cX9_cue 54 = .ok (.bipush 99, 2) := by decide +kernel
theorem dX9_cue_56 : decode cX9_cue 56 = .ok (.invokestatic 40, 3) := by decide +kernel
theorem dX9_cue_59 : decode cX9_cue 59 = .ok (.ifCond .eq 19, 3) := by decide +kernel
theorem dX9_cue_62 : decode cX9_cue 62 = .ok (.iload_n 2, 1) := by decide +kernel
theorem dX9_cue_63 : decode cX9_cue 63 = .ok (.iconst 2, 1) := by decide +kernel
theorem dX9_cue_64 : decode cX9_cue 64 = .ok (.if_icmp .ne 17, 3) := by decide +kernel
theorem dX9_cue_67 : decode cX9_cue 67 = .ok (.iload 4, 2) := by decide +kernel
theorem dX9_cue_69 : decode cX9_cue 69 = .ok (.iconst 0, 1) := by decide +kernel
theorem dX9_cue_70 : decode cX9_cue 70 = .ok (.bipush 100, 2) := by decide +kernel
theorem dX9_cue_72 : decode cX9_cue 72 = .ok (.invokestatic 40, 3) := by decide +kernel
theorem dX9_cue_75 : decode cX9_cue 75 = .ok (.ifCond .ne 6, 3) := by decide +kernel
theorem dX9_cue_78 : decode cX9_cue 78 = .ok (.bipush (-2), 2) := by decide +kernel
theorem dX9_cue_80 : decode cX9_cue 80 = .ok (.ireturn, 1) := by decide +kernel
theorem dX9_cue_81 : decode cX9_cue 81 = .ok (.iload_n 1, 1) := by decide +kernel
theorem dX9_cue_82 : decode cX9_cue 82 = .ok (.aload_n 0, 1) := by decide +kernel
theorem dX9_cue_83 : decode cX9_cue 83 = .ok (.getfield 7, 3) := by decide +kernel
theorem dX9_cue_86 : decode cX9_cue 86 = .ok (.iconst 4, 1) := by decide +kernel
theorem dX9_cue_87 : decode cX9_cue 87 = .ok (.iaload, 1) := by decide +kernel
theorem dX9_cue_88 : decode cX9_cue 88 = .ok (.if_icmp .ge 6, 3) := by decide +kernel
theorem dX9_cue_91 : decode cX9_cue 91 = .ok (.bipush (-5), 2) := by decide +kernel
theorem dX9_cue_93 : decode cX9_cue 93 = .ok (.ireturn, 1) := by decide +kernel
theorem dX9_cue_94 : decode cX9_cue 94 = .ok (.aload_n 0, 1) := by decide +kernel
theorem dX9_cue_95 : decode cX9_cue 95 = .ok (.getfield 7, 3) := by decide +kernel
theorem dX9_cue_98 : decode cX9_cue 98 = .ok (.iconst 5, 1) := by decide +kernel
theorem dX9_cue_99 : decode cX9_cue 99 = .ok (.iaload, 1) := by decide +kernel
theorem dX9_cue_100 : decode cX9_cue 100 = .ok (.bipush 24, 2) := by decide +kernel
theorem dX9_cue_102 : decode cX9_cue 102 = .ok (.if_icmp .ne 6, 3) := by decide +kernel
theorem dX9_cue_105 : decode cX9_cue 105 = .ok (.bipush (-4), 2) := by decide +kernel
theorem dX9_cue_107 : decode cX9_cue 107 = .ok (.ireturn, 1) := by decide +kernel
theorem dX9_cue_108 : decode cX9_cue 108 = .ok (.aload_n 0, 1) := by decide +kernel
theorem dX9_cue_109 : decode cX9_cue 109 = .ok (.invokevirtual 106, 3) := by decide +kernel
theorem dX9_cue_112 : decode cX9_cue 112 = .ok (.aload_n 0, 1) := by decide +kernel
theorem dX9_cue_113 : decode cX9_cue 113 = .ok (.iload_n 1, 1) := by decide +kernel
theorem dX9_cue_114 : decode cX9_cue 114 = .ok (.invokevirtual 113, 3) := by decide +kernel
theorem dX9_cue_117 : decode cX9_cue 117 = .ok (.istore 5, 2) := by decide +kernel
theorem dX9_cue_119 : decode cX9_cue 119 = .ok (.aload_n 0, 1) := by decide +kernel
theorem dX9_cue_120 : decode cX9_cue 120 = .ok (.iload 5, 2) := by decide +kernel
theorem dX9_cue_122 : decode cX9_cue 122 = .ok (.iconst 0, 1) := by decide +kernel
theorem dX9_cue_123 : decode cX9_cue 123 = .ok (.iload_n 1, 1) := by decide +kernel
theorem dX9_cue_124 : decode cX9_cue 124 = .ok (.invokevirtual 80, 3) := by decide +kernel
theorem dX9_cue_127 : decode cX9_cue 127 = .ok (.aload_n 0, 1) := by decide +kernel
theorem dX9_cue_128 : decode cX9_cue 128 = .ok (.iload 5, 2) := by decide +kernel
theorem dX9_cue_130 : decode cX9_cue 130 = .ok (.iconst 1, 1) := by decide +kernel
theorem dX9_cue_131 : decode cX9_cue 131 = .ok (.iload_n 2, 1) := by decide +kernel
theorem dX9_cue_132 : decode cX9_cue 132 = .ok (.invokevirtual 80, 3) := by decide +kernel
theorem dX9_cue_135 : decode cX9_cue 135 = .ok (.aload_n 0, 1) := by decide +kernel
theorem dX9_cue_136 : decode cX9_cue 136 = .ok (.iload 5, 2) := by decide +kernel
theorem dX9_cue_138 : decode cX9_cue 138 = .ok (.iconst 2, 1) := by decide +kernel
theorem dX9_cue_139 : decode cX9_cue 139 = .ok (.iload_n 3, 1) := by decide +kernel
theorem dX9_cue_140 : decode cX9_cue 140 = .ok (.invokevirtual 80, 3) := by decide +kernel
theorem dX9_cue_143 : decode cX9_cue 143 = .ok (.aload_n 0, 1) := by decide +kernel
theorem dX9_cue_144 : decode cX9_cue 144 = .ok (.iload 5, 2) := by decide +kernel
theorem dX9_cue_146 : decode cX9_cue 146 = .ok (.iconst 3, 1) := by decide +kernel
theorem dX9_cue_147 : decode cX9_cue 147 = .ok (.iload 4, 2) := by decide +kernel
theorem dX9_cue_149 : decode cX9_cue 149 = .ok (.invokevirtual 80, 3) := by decide +kernel
theorem dX9_cue_152 : decode cX9_cue 152 = .ok (.aload_n 0, 1) := by decide +kernel
theorem dX9_cue_153 : decode cX9_cue 153 = .ok (.iload 5, 2) := by decide +kernel
theorem dX9_cue_155 : decode cX9_cue 155 = .ok (.iconst 4, 1) := by decide +kernel
theorem dX9_cue_156 : decode cX9_cue 156 = .ok (.iconst 0, 1) := by decide +kernel
theorem dX9_cue_157 : decode cX9_cue 157 = .ok (.invokevirtual 80, 3) := by decide +kernel
theorem dX9_cue_160 : decode cX9_cue 160 = .ok (.iload 5, 2) := by decide +kernel
theorem dX9_cue_162 : decode cX9_cue 162 = .ok (.ireturn, 1) := by decide +kernel
theorem dX9_takeOut_0 : decode cX9_takeOut 0 = .ok (.aload_n 0, 1) := by decide +kernel
theorem dX9_takeOut_1 : decode cX9_takeOut 1 = .ok (.iload_n 1, 1) := by decide +kernel
theorem dX9_takeOut_2 : decode cX9_takeOut 2 = .ok (.invokevirtual 116, 3) := by decide +kernel
theorem dX9_takeOut_5 : decode cX9_takeOut 5 = .ok (.ifCond .ne 5, 3) := by decide +kernel
theorem dX9_takeOut_8 : decode cX9_takeOut 8 = .ok (.iconst (-1), 1) := by decide +kernel
theorem dX9_takeOut_9 : decode cX9_takeOut 9 = .ok (.ireturn, 1) := by decide +kernel
theorem dX9_takeOut_10 : decode cX9_takeOut 10 = .ok (.aload_n 0, 1) := by decide +kernel
theorem dX9_takeOut_11 : decode cX9_takeOut 11 = .ok (.iload_n 1, 1) := by decide +kernel
theorem dX9_takeOut_12 : decode cX9_takeOut 12 = .ok (.iconst 4, 1) := by decide +kernel
theorem dX9_takeOut_13 : decode cX9_takeOut 13 = .ok (.invokevirtual 59, 3) := by decide +kernel
theorem dX9_takeOut_16 : decode cX9_takeOut 16 = .ok (.ifCond .eq 6, 3) := by decide +kernel
theorem dX9_takeOut_19 : decode cX9_takeOut 19 = .ok (.bipush (-5), 2) := by decide +kernel
theorem dX9_takeOut_21 : decode cX9_takeOut 21 = .ok (.ireturn, 1) := by decide +kernel
theorem dX9_takeOut_22 : decode cX9_takeOut 22 = .ok (.aload_n 0, 1) := by decide +kernel
theorem dX9_takeOut_23 : decode cX9_takeOut 23 = .ok (.invokevirtual 106, 3) := by decide +kernel
theorem dX9_takeOut_26 : decode cX9_takeOut 26 = .ok (.aload_n 0, 1) := by decide +kernel
theorem dX9_takeOut_27 : decode cX9_takeOut 27 = .ok (.iload_n 1, 1) := by decide +kernel
theorem dX9_takeOut_28 : decode cX9_takeOut 28 = .ok (.invokevirtual 119, 3) := by decide +kernel
theorem dX9_takeOut_31 : decode cX9_takeOut 31 = .ok (.aload_n 0, 1) := by decide +kernel
theorem dX9_takeOut_32 : decode cX9_takeOut 32 = .ok (.getfield 7, 3) := by decide +kernel
theorem dX9_takeOut_35 : decode cX9_takeOut 35 = .ok (.iconst 5, 1) := by decide +kernel
theorem dX9_takeOut_36 : decode cX9_takeOut 36 = .ok (.iaload, 1) := by decide +kernel
theorem dX9_takeOut_37 : decode cX9_takeOut 37 = .ok (.ireturn, 1) := by decide +kernel
theorem dX9_whyNotMoved_0 : decode cX9_whyNotMoved 0 = .ok (.aload_n 0, 1) := by decide +kernel
theorem dX9_whyNotMoved_1 : decode cX9_whyNotMoved 1 = .ok (.iload_n 1, 1) := by decide +kernel
theorem dX9_whyNotMoved_2 : decode cX9_whyNotMoved 2 = .ok (.invokevirtual 116, 3) := by decide +kernel
theorem dX9_whyNotMoved_5 : decode cX9_whyNotMoved 5 = .ok (.ifCond .ne 5, 3) := by decide +kernel
theorem dX9_whyNotMoved_8 : decode cX9_whyNotMoved 8 = .ok (.iconst (-1), 1) := by decide +kernel
theorem dX9_whyNotMoved_9 : decode cX9_whyNotMoved 9 = .ok (.ireturn, 1) := by decide +kernel
theorem dX9_whyNotMoved_10 : decode cX9_whyNotMoved 10 = .ok (.iload_n 2, 1) := by decide +kernel
theorem dX9_whyNotMoved_11 : decode cX9_whyNotMoved 11 = .ok (.iconst 0, 1) := by decide +kernel
theorem dX9_whyNotMoved_12 : decode cX9_whyNotMoved 12 = .ok (.sipush 999, 3) := by decide +kernel
theorem dX9_whyNotMoved_15 : decode cX9_whyNotMoved 15 = .ok (.invokestatic 40, 3) := by decide +kernel
theorem dX9_whyNotMoved_18 : decode cX9_whyNotMoved 18 = .ok (.ifCond .ne 6, 3) := by decide +kernel
theorem dX9_whyNotMoved_21 : decode cX9_whyNotMoved 21 = .ok (.bipush (-2), 2) := by decide +kernel
theorem dX9_whyNotMoved_23 : decode cX9_whyNotMoved 23 = .ok (.ireturn, 1) := by decide +kernel
theorem dX9_whyNotMoved_24 : decode cX9_whyNotMoved 24 = .ok (.aload_n 0, 1) := by decide +kernel
theorem dX9_whyNotMoved_25 : decode cX9_whyNotMoved 25 = .ok (.iload_n 1, 1) := by decide +kernel
theorem dX9_whyNotMoved_26 : decode cX9_whyNotMoved 26 = .ok (.iconst 4, 1) := by decide +kernel
theorem dX9_whyNotMoved_27 : decode cX9_whyNotMoved 27 = .ok (.invokevirtual 59, 3) := by decide +kernel
theorem dX9_whyNotMoved_30 : decode cX9_whyNotMoved 30 = .ok (.ifCond .ne 13, 3) := by decide +kernel
theorem dX9_whyNotMoved_33 : decode cX9_whyNotMoved 33 = .ok (.iload_n 2, 1) := by decide +kernel
theorem dX9_whyNotMoved_34 : decode cX9_whyNotMoved 34 = .ok (.aload_n 0, 1) := by decide +kernel
theorem dX9_whyNotMoved_35 : decode cX9_whyNotMoved 35 = .ok (.getfield 7, 3) := by decide +kernel
theorem dX9_whyNotMoved_38 : decode cX9_whyNotMoved 38 = .ok (.iconst 4, 1) := by decide +kernel
theorem dX9_whyNotMoved_39 : decode cX9_whyNotMoved 39 = .ok (.iaload, 1) := by decide +kernel
theorem dX9_whyNotMoved_40 : decode cX9_whyNotMoved 40 = .ok (.if_icmp .ge 8, 3) := by decide +kernel
theorem dX9_whyNotMoved_43 : decode cX9_whyNotMoved 43 = .ok (.bipush (-5), 2) := by decide +kernel
theorem dX9_whyNotMoved_45 : decode cX9_whyNotMoved 45 = .ok (.goto 4, 3) := by decide +kernel
theorem dX9_whyNotMoved_48 : decode cX9_whyNotMoved 48 = .ok (.iconst 0, 1) := by decide +kernel
theorem dX9_whyNotMoved_49 : decode cX9_whyNotMoved 49 = .ok (.ireturn, 1) := by decide +kernel
theorem dX9_moves_0 : decode cX9_moves 0 = .ok (.aload_n 0, 1) := by decide +kernel
theorem dX9_moves_1 : decode cX9_moves 1 = .ok (.iload_n 1, 1) := by decide +kernel
theorem dX9_moves_2 : decode cX9_moves 2 = .ok (.iconst 1, 1) := by decide +kernel
theorem dX9_moves_3 : decode cX9_moves 3 = .ok (.invokevirtual 59, 3) := by decide +kernel
theorem dX9_moves_6 : decode cX9_moves 6 = .ok (.istore_n 3, 1) := by decide +kernel
theorem dX9_moves_7 : decode cX9_moves 7 = .ok (.aload_n 0, 1) := by decide +kernel
theorem dX9_moves_8 : decode cX9_moves 8 = .ok (.iload_n 1, 1) := by decide +kernel
theorem dX9_moves_9 : decode cX9_moves 9 = .ok (.iconst 2, 1) := by decide +kernel
theorem dX9_moves_10 : decode cX9_moves 10 = .ok (.invokevirtual 59, 3) := by decide +kernel
theorem dX9_moves_13 : decode cX9_moves 13 = .ok (.istore 4, 2) := by decide +kernel
theorem dX9_moves_15 : decode cX9_moves 15 = .ok (.aload_n 0, 1) := by decide +kernel
theorem dX9_moves_16 : decode cX9_moves 16 = .ok (.iload_n 1, 1) := by decide +kernel
theorem dX9_moves_17 : decode cX9_moves 17 = .ok (.iconst 3, 1) := by decide +kernel
theorem dX9_moves_18 : decode cX9_moves 18 = .ok (.invokevirtual 59, 3) := by decide +kernel
theorem dX9_moves_21 : decode cX9_moves 21 = .ok (.istore 5, 2) := by decide +kernel
theorem dX9_moves_23 : decode cX9_moves 23 = .ok (.aload_n 0, 1) := by decide +kernel
theorem dX9_moves_24 : decode cX9_moves 24 = .ok (.iload_n 1, 1) := by decide +kernel
theorem dX9_moves_25 : decode cX9_moves 25 = .ok (.invokevirtual 119, 3) := by decide +kernel
theorem dX9_moves_28 : decode cX9_moves 28 = .ok (.aload_n 0, 1) := by decide +kernel
theorem dX9_moves_29 : decode cX9_moves 29 = .ok (.iload_n 2, 1) := by decide +kernel
theorem dX9_moves_30 : decode cX9_moves 30 = .ok (.invokevirtual 113, 3) := by decide +kernel
theorem dX9_moves_33 : decode cX9_moves 33 = .ok (.istore 6, 2) := by decide +kernel
theorem dX9_moves_35 : decode cX9_moves 35 = .ok (.aload_n 0, 1) := by decide +kernel
theorem dX9_moves_36 : decode cX9_moves 36 = .ok (.iload 6, 2) := by decide +kernel
theorem dX9_moves_38 : decode cX9_moves 38 = .ok (.iconst 0, 1) := by decide +kernel
theorem dX9_moves_39 : decode cX9_moves 39 = .ok (.iload_n 2, 1) := by decide +kernel
theorem dX9_moves_40 : decode cX9_moves 40 = .ok (.invokevirtual 80, 3) := by decide +kernel
theorem dX9_moves_43 : decode cX9_moves 43 = .ok (.aload_n 0, 1) := by decide +kernel
theorem dX9_moves_44 : decode cX9_moves 44 = .ok (.iload 6, 2) := by decide +kernel
theorem dX9_moves_46 : decode cX9_moves 46 = .ok (.iconst 1, 1) := by decide +kernel
theorem dX9_moves_47 : decode cX9_moves 47 = .ok (.iload_n 3, 1) := by decide +kernel
theorem dX9_moves_48 : decode cX9_moves 48 = .ok (.invokevirtual 80, 3) := by decide +kernel
theorem dX9_moves_51 : decode cX9_moves 51 = .ok (.aload_n 0, 1) := by decide +kernel
theorem dX9_moves_52 : decode cX9_moves 52 = .ok (.iload 6, 2) := by decide +kernel
theorem dX9_moves_54 : decode cX9_moves 54 = .ok (.iconst 2, 1) := by decide +kernel
theorem dX9_moves_55 : decode cX9_moves 55 = .ok (.iload 4, 2) := by decide +kernel
theorem dX9_moves_57 : decode cX9_moves 57 = .ok (.invokevirtual 80, 3) := by decide +kernel
theorem dX9_moves_60 : decode cX9_moves 60 = .ok (.aload_n 0, 1) := by decide +kernel
theorem dX9_moves_61 : decode cX9_moves 61 = .ok (.iload 6, 2) := by decide +kernel
theorem dX9_moves_63 : decode cX9_moves 63 = .ok (.iconst 3, 1) := by decide +kernel
theorem dX9_moves_64 : decode cX9_moves 64 = .ok (.iload 5, 2) := by decide +kernel
theorem dX9_moves_66 : decode cX9_moves 66 = .ok (.invokevirtual 80, 3) := by decide +kernel
theorem dX9_moves_69 : decode cX9_moves 69 = .ok (.aload_n 0, 1) := by decide +kernel
theorem dX9_moves_70 : decode cX9_moves 70 = .ok (.iload 6, 2) := by decide +kernel
theorem dX9_moves_72 : decode cX9_moves 72 = .ok (.iconst 4, 1) := by decide +kernel
theorem dX9_moves_73 : decode cX9_moves 73 = .ok (.iconst 0, 1) := by decide +kernel
theorem dX9_moves_74 : decode cX9_moves 74 = .ok (.invokevirtual 80, 3) := by decide +kernel
theorem dX9_moves_77 : decode cX9_moves 77 = .ok (.iload 6, 2) := by decide +kernel
theorem dX9_moves_79 : decode cX9_moves 79 = .ok (.ireturn, 1) := by decide +kernel
theorem dX9_move_0 : decode cX9_move 0 = .ok (.aload_n 0, 1) := by decide +kernel
theorem dX9_move_1 : decode cX9_move 1 = .ok (.iload_n 1, 1) := by decide +kernel
theorem dX9_move_2 : decode cX9_move 2 = .ok (.iload_n 2, 1) := by decide +kernel
theorem dX9_move_3 : decode cX9_move 3 = .ok (.invokevirtual 122, 3) := by decide +kernel
theorem dX9_move_6 : decode cX9_move 6 = .ok (.istore_n 3, 1) := by decide +kernel
theorem dX9_move_7 : decode cX9_move 7 = .ok (.iload_n 3, 1) := by decide +kernel
theorem dX9_move_8 : decode cX9_move 8 = .ok (.ifCond .ge 5, 3) := by decide +kernel
theorem dX9_move_11 : decode cX9_move 11 = .ok (.iload_n 3, 1) := by decide +kernel
theorem dX9_move_12 : decode cX9_move 12 = .ok (.ireturn, 1) := by decide +kernel
theorem dX9_move_13 : decode cX9_move 13 = .ok (.aload_n 0, 1) := by decide +kernel
theorem dX9_move_14 : decode cX9_move 14 = .ok (.invokevirtual 106, 3) := by decide +kernel
theorem dX9_move_17 : decode cX9_move 17 = .ok (.aload_n 0, 1) := by decide +kernel
theorem dX9_move_18 : decode cX9_move 18 = .ok (.iload_n 1, 1) := by decide +kernel
theorem dX9_move_19 : decode cX9_move 19 = .ok (.iload_n 2, 1) := by decide +kernel
theorem dX9_move_20 : decode cX9_move 20 = .ok (.invokevirtual 125, 3) := by decide +kernel
theorem dX9_move_23 : decode cX9_move 23 = .ok (.ireturn, 1) := by decide +kernel
theorem dX9_goal_0 : decode cX9_goal 0 = .ok (.iload_n 1, 1) := by decide +kernel
theorem dX9_goal_1 : decode cX9_goal 1 = .ok (.invokestatic 44, 3) := by decide +kernel
theorem dX9_goal_4 : decode cX9_goal 4 = .ok (.ifCond .ne 5, 3) := by decide +kernel
theorem dX9_goal_7 : decode cX9_goal 7 = .ok (.iconst (-1), 1) := by decide +kernel
theorem dX9_goal_8 : decode cX9_goal 8 = .ok (.ireturn, 1) := by decide +kernel
theorem dX9_goal_9 : decode cX9_goal 9 = .ok (.iload_n 2, 1) := by decide +kernel
theorem dX9_goal_10 : decode cX9_goal 10 = .ok (.iconst 0, 1) := by decide +kernel
theorem dX9_goal_11 : decode cX9_goal 11 = .ok (.bipush 100, 2) := by decide +kernel
theorem dX9_goal_13 : decode cX9_goal 13 = .ok (.invokestatic 40, 3) := by decide +kernel
theorem dX9_goal_16 : decode cX9_goal 16 = .ok (.ifCond .ne 6, 3) := by decide +kernel
theorem dX9_goal_19 : decode cX9_goal 19 = .ok (.bipush (-2), 2) := by decide +kernel
theorem dX9_goal_21 : decode cX9_goal 21 = .ok (.ireturn, 1) := by decide +kernel
theorem dX9_goal_22 : decode cX9_goal 22 = .ok (.aload_n 0, 1) := by decide +kernel
theorem dX9_goal_23 : decode cX9_goal 23 = .ok (.invokevirtual 106, 3) := by decide +kernel
theorem dX9_goal_26 : decode cX9_goal 26 = .ok (.aload_n 0, 1) := by decide +kernel
theorem dX9_goal_27 : decode cX9_goal 27 = .ok (.getfield 7, 3) := by decide +kernel
theorem dX9_goal_30 : decode cX9_goal 30 = .ok (.sipush 216, 3) := by decide +kernel
theorem dX9_goal_33 : decode cX9_goal 33 = .ok (.iconst 2, 1) := by decide +kernel
theorem dX9_goal_34 : decode cX9_goal 34 = .ok (.iload_n 1, 1) := by decide +kernel
theorem dX9_goal_35 : decode cX9_goal 35 = .ok (.imul, 1) := by decide +kernel
theorem dX9_goal_36 : decode cX9_goal 36 = .ok (.iadd, 1) := by decide +kernel
theorem dX9_goal_37 : decode cX9_goal 37 = .ok (.iconst 1, 1) := by decide +kernel
theorem dX9_goal_38 : decode cX9_goal 38 = .ok (.iadd, 1) := by decide +kernel
theorem dX9_goal_39 : decode cX9_goal 39 = .ok (.iaload, 1) := by decide +kernel
theorem dX9_goal_40 : decode cX9_goal 40 = .ok (.istore_n 3, 1) := by decide +kernel
theorem dX9_goal_41 : decode cX9_goal 41 = .ok (.aload_n 0, 1) := by decide +kernel
theorem dX9_goal_42 : decode cX9_goal 42 = .ok (.getfield 7, 3) := by decide +kernel
theorem dX9_goal_45 : decode cX9_goal 45 = .ok (.sipush 216, 3) := by decide +kernel
theorem dX9_goal_48 : decode cX9_goal 48 = .ok (.iconst 2, 1) := by decide +kernel
theorem dX9_goal_49 : decode cX9_goal 49 = .ok (.iload_n 1, 1) := by decide +kernel
theorem dX9_goal_50 : decode cX9_goal 50 = .ok (.imul, 1) := by decide +kernel
theorem dX9_goal_51 : decode cX9_goal 51 = .ok (.iadd, 1) := by decide +kernel
theorem dX9_goal_52 : decode cX9_goal 52 = .ok (.iconst 1, 1) := by decide +kernel
theorem dX9_goal_53 : decode cX9_goal 53 = .ok (.iadd, 1) := by decide +kernel
theorem dX9_goal_54 : decode cX9_goal 54 = .ok (.iload_n 2, 1) := by decide +kernel
theorem dX9_goal_55 : decode cX9_goal 55 = .ok (.iastore, 1) := by decide +kernel
theorem dX9_goal_56 : decode cX9_goal 56 = .ok (.iload_n 3, 1) := by decide +kernel
theorem dX9_goal_57 : decode cX9_goal 57 = .ok (.ireturn, 1) := by decide +kernel
theorem dX9_begin_0 : decode cX9_begin 0 = .ok (.aload_n 0, 1) := by decide +kernel
theorem dX9_begin_1 : decode cX9_begin 1 = .ok (.invokevirtual 106, 3) := by decide +kernel
theorem dX9_begin_4 : decode cX9_begin 4 = .ok (.aload_n 0, 1) := by decide +kernel
theorem dX9_begin_5 : decode cX9_begin 5 = .ok (.getfield 7, 3) := by decide +kernel
theorem dX9_begin_8 : decode cX9_begin 8 = .ok (.iconst 4, 1) := by decide +kernel
theorem dX9_begin_9 : decode cX9_begin 9 = .ok (.iaload, 1) := by decide +kernel
theorem dX9_begin_10 : decode cX9_begin 10 = .ok (.istore_n 1, 1) := by decide +kernel
theorem dX9_begin_11 : decode cX9_begin 11 = .ok (.aload_n 0, 1) := by decide +kernel
theorem dX9_begin_12 : decode cX9_begin 12 = .ok (.getfield 7, 3) := by decide +kernel
theorem dX9_begin_15 : decode cX9_begin 15 = .ok (.iconst 4, 1) := by decide +kernel
theorem dX9_begin_16 : decode cX9_begin 16 = .ok (.iconst 0, 1) := by decide +kernel
theorem dX9_begin_17 : decode cX9_begin 17 = .ok (.iastore, 1) := by decide +kernel
theorem dX9_begin_18 : decode cX9_begin 18 = .ok (.aload_n 0, 1) := by decide +kernel
theorem dX9_begin_19 : decode cX9_begin 19 = .ok (.getfield 7, 3) := by decide +kernel
theorem dX9_begin_22 : decode cX9_begin 22 = .ok (.bipush 6, 2) := by decide +kernel
theorem dX9_begin_24 : decode cX9_begin 24 = .ok (.iconst 0, 1) := by decide +kernel
theorem dX9_begin_25 : decode cX9_begin 25 = .ok (.iastore, 1) := by decide +kernel
theorem dX9_begin_26 : decode cX9_begin 26 = .ok (.aload_n 0, 1) := by decide +kernel
theorem dX9_begin_27 : decode cX9_begin 27 = .ok (.getfield 7, 3) := by decide +kernel
theorem dX9_begin_30 : decode cX9_begin 30 = .ok (.bipush 7, 2) := by decide +kernel
theorem dX9_begin_32 : decode cX9_begin 32 = .ok (.iconst 0, 1) := by decide +kernel
theorem dX9_begin_33 : decode cX9_begin 33 = .ok (.iastore, 1) := by decide +kernel
theorem dX9_begin_34 : decode cX9_begin 34 = .ok (.iconst 0, 1) := by decide +kernel
theorem dX9_begin_35 : decode cX9_begin 35 = .ok (.istore_n 2, 1) := by decide +kernel
theorem dX9_begin_36 : decode cX9_begin 36 = .ok (.iload_n 2, 1) := by decide +kernel
theorem dX9_begin_37 : decode cX9_begin 37 = .ok (.aload_n 0, 1) := by decide +kernel
theorem dX9_begin_38 : decode cX9_begin 38 = .ok (.getfield 7, 3) := by decide +kernel
theorem dX9_begin_41 : decode cX9_begin 41 = .ok (.iconst 5, 1) := by decide +kernel
theorem dX9_begin_42 : decode cX9_begin 42 = .ok (.iaload, 1) := by decide +kernel
theorem dX9_begin_43 : decode cX9_begin 43 = .ok (.if_icmp .ge 16, 3) := by decide +kernel
theorem dX9_begin_46 : decode cX9_begin 46 = .ok (.aload_n 0, 1) := by decide +kernel
theorem dX9_begin_47 : decode cX9_begin 47 = .ok (.iload_n 2, 1) := by decide +kernel
theorem dX9_begin_48 : decode cX9_begin 48 = .ok (.iconst 4, 1) := by decide +kernel
theorem dX9_begin_49 : decode cX9_begin 49 = .ok (.iconst 0, 1) := by decide +kernel
theorem dX9_begin_50 : decode cX9_begin 50 = .ok (.invokevirtual 80, 3) := by decide +kernel
theorem dX9_begin_53 : decode cX9_begin 53 = .ok (.iinc 2 1, 3) := by decide +kernel
theorem dX9_begin_56 : decode cX9_begin 56 = .ok (.goto (-20), 3) := by decide +kernel
theorem dX9_begin_59 : decode cX9_begin 59 = .ok (.iconst 0, 1) := by decide +kernel
theorem dX9_begin_60 : decode cX9_begin 60 = .ok (.istore_n 2, 1) := by decide +kernel
theorem dX9_begin_61 : decode cX9_begin 61 = .ok (.iload_n 2, 1) := by decide +kernel
theorem dX9_begin_62 : decode cX9_begin 62 = .ok (.iconst 4, 1) := by decide +kernel
theorem dX9_begin_63 : decode cX9_begin 63 = .ok (.if_icmp .ge 30, 3) := by decide +kernel
theorem dX9_begin_66 : decode cX9_begin 66 = .ok (.aload_n 0, 1) := by decide +kernel
theorem dX9_begin_67 : decode cX9_begin 67 = .ok (.iload_n 2, 1) := by decide +kernel
theorem dX9_begin_68 : decode cX9_begin 68 = .ok (.iconst 0, 1) := by decide +kernel
theorem dX9_begin_69 : decode cX9_begin 69 = .ok (.iconst 0, 1) := by decide +kernel
theorem dX9_begin_70 : decode cX9_begin 70 = .ok (.invokevirtual 55, 3) := by decide +kernel
theorem dX9_begin_73 : decode cX9_begin 73 = .ok (.aload_n 0, 1) := by decide +kernel
theorem dX9_begin_74 : decode cX9_begin 74 = .ok (.iload_n 2, 1) := by decide +kernel
theorem dX9_begin_75 : decode cX9_begin 75 = .ok (.iconst 1, 1) := by decide +kernel
theorem dX9_begin_76 : decode cX9_begin 76 = .ok (.iconst 0, 1) := by decide +kernel
theorem dX9_begin_77 : decode cX9_begin 77 = .ok (.invokevirtual 55, 3) := by decide +kernel
theorem dX9_begin_80 : decode cX9_begin 80 = .ok (.aload_n 0, 1) := by decide +kernel
theorem dX9_begin_81 : decode cX9_begin 81 = .ok (.iload_n 2, 1) := by decide +kernel
theorem dX9_begin_82 : decode cX9_begin 82 = .ok (.iconst 2, 1) := by decide +kernel
theorem dX9_begin_83 : decode cX9_begin 83 = .ok (.iconst 0, 1) := by decide +kernel
theorem dX9_begin_84 : decode cX9_begin 84 = .ok (.invokevirtual 55, 3) := by decide +kernel
theorem dX9_begin_87 : decode cX9_begin 87 = .ok (.iinc 2 1, 3) := by decide +kernel
theorem dX9_begin_90 : decode cX9_begin 90 = .ok (.goto (-29), 3) := by decide +kernel
theorem dX9_begin_93 : decode cX9_begin 93 = .ok (.iconst 0, 1) := by decide +kernel
theorem dX9_begin_94 : decode cX9_begin 94 = .ok (.istore_n 2, 1) := by decide +kernel
theorem dX9_begin_95 : decode cX9_begin 95 = .ok (.iload_n 2, 1) := by decide +kernel
theorem dX9_begin_96 : decode cX9_begin 96 = .ok (.bipush 8, 2) := by decide +kernel
theorem dX9_begin_98 : decode cX9_begin 98 = .ok (.if_icmp .ge 21, 3) := by decide +kernel
theorem dX9_begin_101 : decode cX9_begin 101 = .ok (.aload_n 0, 1) := by decide +kernel
theorem dX9_begin_102 : decode cX9_begin 102 = .ok (.getfield 7, 3) := by decide +kernel
theorem dX9_begin_105 : decode cX9_begin 105 = .ok (.sipush 216, 3) := by decide +kernel
theorem dX9_begin_108 : decode cX9_begin 108 = .ok (.iload_n 2, 1) := by decide +kernel
theorem dX9_begin_109 : decode cX9_begin 109 = .ok (.iadd, 1) := by decide +kernel
theorem dX9_begin_110 : decode cX9_begin 110 = .ok (.bipush 50, 2) := by decide +kernel
theorem dX9_begin_112 : decode cX9_begin 112 = .ok (.iastore, 1) := by decide +kernel
theorem dX9_begin_113 : decode cX9_begin 113 = .ok (.iinc 2 1, 3) := by decide +kernel
theorem dX9_begin_116 : decode cX9_begin 116 = .ok (.goto (-21), 3) := by decide +kernel
theorem dX9_begin_119 : decode cX9_begin 119 = .ok (.iconst 0, 1) := by decide +kernel
theorem dX9_begin_120 : decode cX9_begin 120 = .ok (.istore_n 2, 1) := by decide +kernel
theorem dX9_begin_121 : decode cX9_begin 121 = .ok (.iload_n 2, 1) := by decide +kernel
theorem dX9_begin_122 : decode cX9_begin 122 = .ok (.bipush 24, 2) := by decide +kernel
theorem dX9_begin_124 : decode cX9_begin 124 = .ok (.if_icmp .ge 24, 3) := by decide +kernel
theorem dX9_begin_127 : decode cX9_begin 127 = .ok (.aload_n 0, 1) := by decide +kernel
theorem dX9_begin_128 : decode cX9_begin 128 = .ok (.getfield 7, 3) := by decide +kernel
theorem dX9_begin_131 : decode cX9_begin 131 = .ok (.sipush 144, 3) := by decide +kernel
theorem dX9_begin_134 : decode cX9_begin 134 = .ok (.iconst 3, 1) := by decide +kernel
theorem dX9_begin_135 : decode cX9_begin 135 = .ok (.iload_n 2, 1) := by decide +kernel
theorem dX9_begin_136 : decode cX9_begin 136 = .ok (.imul, 1) := by decide +kernel
theorem dX9_begin_137 : decode cX9_begin 137 = .ok (.iadd, 1) := by decide +kernel
theorem dX9_begin_138 : decode cX9_begin 138 = .ok (.iconst 2, 1) := by decide +kernel
theorem dX9_begin_139 : decode cX9_begin 139 = .ok (.iadd, 1) := by decide +kernel
theorem dX9_begin_140 : decode cX9_begin 140 = .ok (.iconst 0, 1) := by decide +kernel
theorem dX9_begin_141 : decode cX9_begin 141 = .ok (.iastore, 1) := by decide +kernel
theorem dX9_begin_142 : decode cX9_begin 142 = .ok (.iinc 2 1, 3) := by decide +kernel
theorem dX9_begin_145 : decode cX9_begin 145 = .ok (.goto (-24), 3) := by decide +kernel
theorem dX9_begin_148 : decode cX9_begin 148 = .ok (.iload_n 1, 1) := by decide +kernel
theorem dX9_begin_149 : decode cX9_begin 149 = .ok (.ireturn, 1) := by decide +kernel
theorem dX9_pass_0 : decode cX9_pass 0 = .ok (.iload_n 1, 1) := by decide +kernel
theorem dX9_pass_1 : decode cX9_pass 1 = .ok (.iconst 1, 1) := by decide +kernel
theorem dX9_pass_2 : decode cX9_pass 2 = .ok (.sipush 200, 3) := by decide +kernel
theorem dX9_pass_5 : decode cX9_pass 5 = .ok (.invokestatic 40, 3) := by decide +kernel
theorem dX9_pass_8 : decode cX9_pass 8 = .ok (.ifCond .ne 6, 3) := by decide +kernel
theorem dX9_pass_11 : decode cX9_pass 11 = .ok (.bipush (-2), 2) := by decide +kernel
theorem dX9_pass_13 : decode cX9_pass 13 = .ok (.ireturn, 1) := by decide +kernel
theorem dX9_pass_14 : decode cX9_pass 14 = .ok (.aload_n 0, 1) := by decide +kernel
theorem dX9_pass_15 : decode cX9_pass 15 = .ok (.getfield 7, 3) := by decide +kernel
theorem dX9_pass_18 : decode cX9_pass 18 = .ok (.iconst 4, 1) := by decide +kernel
theorem dX9_pass_19 : decode cX9_pass 19 = .ok (.iaload, 1) := by decide +kernel
theorem dX9_pass_20 : decode cX9_pass 20 = .ok (.iload_n 1, 1) := by decide +kernel
theorem dX9_pass_21 : decode cX9_pass 21 = .ok (.iadd, 1) := by decide +kernel
theorem dX9_pass_22 : decode cX9_pass 22 = .ok (.sipush 1200, 3) := by decide +kernel
theorem dX9_pass_25 : decode cX9_pass 25 = .ok (.if_icmp .le 6, 3) := by decide +kernel
theorem dX9_pass_28 : decode cX9_pass 28 = .ok (.bipush (-5), 2) := by decide +kernel
theorem dX9_pass_30 : decode cX9_pass 30 = .ok (.ireturn, 1) := by decide +kernel
theorem dX9_pass_31 : decode cX9_pass 31 = .ok (.aload_n 0, 1) := by decide +kernel
theorem dX9_pass_32 : decode cX9_pass 32 = .ok (.invokevirtual 106, 3) := by decide +kernel
theorem dX9_pass_35 : decode cX9_pass 35 = .ok (.iconst 0, 1) := by decide +kernel
theorem dX9_pass_36 : decode cX9_pass 36 = .ok (.istore_n 2, 1) := by decide +kernel
theorem dX9_pass_37 : decode cX9_pass 37 = .ok (.iconst 0, 1) := by decide +kernel
theorem dX9_pass_38 : decode cX9_pass 38 = .ok (.istore_n 3, 1) := by decide +kernel
theorem dX9_pass_39 : decode cX9_pass 39 = .ok (.iload_n 3, 1) := by decide +kernel
theorem dX9_pass_40 : decode cX9_pass 40 = .ok (.iload_n 1, 1) := by decide +kernel
theorem dX9_pass_41 : decode cX9_pass 41 = .ok (.if_icmp .ge 16, 3) := by decide +kernel
theorem dX9_pass_44 : decode cX9_pass 44 = .ok (.iload_n 2, 1) := by decide +kernel
theorem dX9_pass_45 : decode cX9_pass 45 = .ok (.aload_n 0, 1) := by decide +kernel
theorem dX9_pass_46 : decode cX9_pass 46 = .ok (.invokevirtual 128, 3) := by decide +kernel
theorem dX9_pass_49 : decode cX9_pass 49 = .ok (.iadd, 1) := by decide +kernel
theorem dX9_pass_50 : decode cX9_pass 50 = .ok (.istore_n 2, 1) := by decide +kernel
theorem dX9_pass_51 : decode cX9_pass 51 = .ok (.iinc 3 1, 3) := by decide +kernel
theorem dX9_pass_54 : decode cX9_pass 54 = .ok (.goto (-15), 3) := by decide +kernel
theorem dX9_pass_57 : decode cX9_pass 57 = .ok (.iload_n 2, 1) := by decide +kernel
theorem dX9_pass_58 : decode cX9_pass 58 = .ok (.ireturn, 1) := by decide +kernel
theorem dX9_ofCue_0 : decode cX9_ofCue 0 = .ok (.aload_n 0, 1) := by decide +kernel
theorem dX9_ofCue_1 : decode cX9_ofCue 1 = .ok (.iload_n 1, 1) := by decide +kernel
theorem dX9_ofCue_2 : decode cX9_ofCue 2 = .ok (.invokevirtual 116, 3) := by decide +kernel
theorem dX9_ofCue_5 : decode cX9_ofCue 5 = .ok (.ifCond .ne 7, 3) := by decide +kernel
theorem dX9_ofCue_8 : decode cX9_ofCue 8 = .ok (.iconst (-1), 1) := by decide +kernel
theorem dX9_ofCue_9 : decode cX9_ofCue 9 = .ok (.goto 23, 3) := by decide +kernel
theorem dX9_ofCue_12 : decode cX9_ofCue 12 = .ok (.iload_n 2, 1) := by decide +kernel
theorem dX9_ofCue_13 : decode cX9_ofCue 13 = .ok (.iconst 0, 1) := by decide +kernel
theorem dX9_ofCue_14 : decode cX9_ofCue 14 = .ok (.iconst 4, 1) := by decide +kernel
theorem dX9_ofCue_15 : decode cX9_ofCue 15 = .ok (.invokestatic 40, 3) := by decide +kernel
theorem dX9_ofCue_18 : decode cX9_ofCue 18 = .ok (.ifCond .eq 12, 3) := by decide +kernel
theorem dX9_ofCue_21 : decode cX9_ofCue 21 = .ok (.aload_n 0, 1) := by decide +kernel
theorem dX9_ofCue_22 : decode cX9_ofCue 22 = .ok (.iload_n 1, 1) := by decide +kernel
theorem dX9_ofCue_23 : decode cX9_ofCue 23 = .ok (.iload_n 2, 1) := by decide +kernel
theorem dX9_ofCue_24 : decode cX9_ofCue 24 = .ok (.invokevirtual 59, 3) := by decide +kernel
theorem dX9_ofCue_27 : decode cX9_ofCue 27 = .ok (.goto 5, 3) := by decide +kernel
theorem dX9_ofCue_30 : decode cX9_ofCue 30 = .ok (.bipush (-2), 2) := by decide +kernel
theorem dX9_ofCue_32 : decode cX9_ofCue 32 = .ok (.ireturn, 1) := by decide +kernel
theorem dX9_ofReel_0 : decode cX9_ofReel 0 = .ok (.iload_n 1, 1) := by decide +kernel
theorem dX9_ofReel_1 : decode cX9_ofReel 1 = .ok (.invokestatic 44, 3) := by decide +kernel
theorem dX9_ofReel_4 : decode cX9_ofReel 4 = .ok (.ifCond .ne 5, 3) := by decide +kernel
theorem dX9_ofReel_7 : decode cX9_ofReel 7 = .ok (.iconst (-1), 1) := by decide +kernel
theorem dX9_ofReel_8 : decode cX9_ofReel 8 = .ok (.ireturn, 1) := by decide +kernel
theorem dX9_ofReel_9 : decode cX9_ofReel 9 = .ok (.iload_n 2, 1) := by decide +kernel
theorem dX9_ofReel_10 : decode cX9_ofReel 10 = .ok (.tableswitch 100 0 5 #[38, 45, 68, 75, 82, 94], 38) := by decide +kernel
theorem dX9_ofReel_48 : decode cX9_ofReel 48 = .ok (.aload_n 0, 1) := by decide +kernel
theorem dX9_ofReel_49 : decode cX9_ofReel 49 = .ok (.iload_n 1, 1) := by decide +kernel
theorem dX9_ofReel_50 : decode cX9_ofReel 50 = .ok (.iconst 0, 1) := by decide +kernel
theorem dX9_ofReel_51 : decode cX9_ofReel 51 = .ok (.invokevirtual 48, 3) := by decide +kernel
theorem dX9_ofReel_54 : decode cX9_ofReel 54 = .ok (.ireturn, 1) := by decide +kernel
theorem dX9_ofReel_55 : decode cX9_ofReel 55 = .ok (.aload_n 0, 1) := by decide +kernel
theorem dX9_ofReel_56 : decode cX9_ofReel 56 = .ok (.iload_n 1, 1) := by decide +kernel
theorem dX9_ofReel_57 : decode cX9_ofReel 57 = .ok (.iconst 1, 1) := by decide +kernel
theorem dX9_ofReel_58 : decode cX9_ofReel 58 = .ok (.invokevirtual 48, 3) := by decide +kernel
theorem dX9_ofReel_61 : decode cX9_ofReel 61 = .ok (.ifCond .le 14, 3) := by decide +kernel
theorem dX9_ofReel_64 : decode cX9_ofReel 64 = .ok (.aload_n 0, 1) := by decide +kernel
theorem dX9_ofReel_65 : decode cX9_ofReel 65 = .ok (.iload_n 1, 1) := by decide +kernel
theorem dX9_ofReel_66 : decode cX9_ofReel 66 = .ok (.iconst 1, 1) := by decide +kernel
theorem dX9_ofReel_67 : decode cX9_ofReel 67 = .ok (.invokevirtual 48, 3) := by decide +kernel
theorem dX9_ofReel_70 : decode cX9_ofReel 70 = .ok (.iconst 1, 1) := by decide +kernel
theorem dX9_ofReel_71 : decode cX9_ofReel 71 = .ok (.isub, 1) := by decide +kernel
theorem dX9_ofReel_72 : decode cX9_ofReel 72 = .ok (.goto 5, 3) := by decide +kernel
theorem dX9_ofReel_75 : decode cX9_ofReel 75 = .ok (.bipush (-6), 2) := by decide +kernel
theorem dX9_ofReel_77 : decode cX9_ofReel 77 = .ok (.ireturn, 1) := by decide +kernel
theorem dX9_ofReel_78 : decode cX9_ofReel 78 = .ok (.aload_n 0, 1) := by decide +kernel
theorem dX9_ofReel_79 : decode cX9_ofReel 79 = .ok (.iload_n 1, 1) := by decide +kernel
theorem dX9_ofReel_80 : decode cX9_ofReel 80 = .ok (.iconst 2, 1) := by decide +kernel
theorem dX9_ofReel_81 : decode cX9_ofReel 81 = .ok (.invokevirtual 48, 3) := by decide +kernel
theorem dX9_ofReel_84 : decode cX9_ofReel 84 = .ok (.ireturn, 1) := by decide +kernel
theorem dX9_ofReel_85 : decode cX9_ofReel 85 = .ok (.aload_n 0, 1) := by decide +kernel
theorem dX9_ofReel_86 : decode cX9_ofReel 86 = .ok (.iload_n 1, 1) := by decide +kernel
theorem dX9_ofReel_87 : decode cX9_ofReel 87 = .ok (.iconst 3, 1) := by decide +kernel
theorem dX9_ofReel_88 : decode cX9_ofReel 88 = .ok (.invokevirtual 48, 3) := by decide +kernel
theorem dX9_ofReel_91 : decode cX9_ofReel 91 = .ok (.ireturn, 1) := by decide +kernel
theorem dX9_ofReel_92 : decode cX9_ofReel 92 = .ok (.aload_n 0, 1) := by decide +kernel
theorem dX9_ofReel_93 : decode cX9_ofReel 93 = .ok (.iload_n 1, 1) := by decide +kernel
theorem dX9_ofReel_94 : decode cX9_ofReel 94 = .ok (.aload_n 0, 1) := by decide +kernel
theorem dX9_ofReel_95 : decode cX9_ofReel 95 = .ok (.iload_n 1, 1) := by decide +kernel
theorem dX9_ofReel_96 : decode cX9_ofReel 96 = .ok (.iconst 3, 1) := by decide +kernel
theorem dX9_ofReel_97 : decode cX9_ofReel 97 = .ok (.invokevirtual 48, 3) := by decide +kernel
theorem dX9_ofReel_100 : decode cX9_ofReel 100 = .ok (.invokevirtual 62, 3) := by decide +kernel
theorem dX9_ofReel_103 : decode cX9_ofReel 103 = .ok (.ireturn, 1) := by decide +kernel
theorem dX9_ofReel_104 : decode cX9_ofReel 104 = .ok (.aload_n 0, 1) := by decide +kernel
theorem dX9_ofReel_105 : decode cX9_ofReel 105 = .ok (.iload_n 1, 1) := by decide +kernel
theorem dX9_ofReel_106 : decode cX9_ofReel 106 = .ok (.invokevirtual 91, 3) := by decide +kernel
theorem dX9_ofReel_109 : decode cX9_ofReel 109 = .ok (.ireturn, 1) := by decide +kernel
theorem dX9_ofReel_110 : decode cX9_ofReel 110 = .ok (.bipush (-2), 2) := by decide +kernel
theorem dX9_ofReel_112 : decode cX9_ofReel 112 = .ok (.ireturn, 1) := by decide +kernel
theorem dX9_ofSound_0 : decode cX9_ofSound 0 = .ok (.aload_n 0, 1) := by decide +kernel
theorem dX9_ofSound_1 : decode cX9_ofSound 1 = .ok (.iload_n 1, 1) := by decide +kernel
theorem dX9_ofSound_2 : decode cX9_ofSound 2 = .ok (.iload_n 2, 1) := by decide +kernel
theorem dX9_ofSound_3 : decode cX9_ofSound 3 = .ok (.invokevirtual 109, 3) := by decide +kernel
theorem dX9_ofSound_6 : decode cX9_ofSound 6 = .ok (.ifCond .ne 5, 3) := by decide +kernel
theorem dX9_ofSound_9 : decode cX9_ofSound 9 = .ok (.iconst (-1), 1) := by decide +kernel
theorem dX9_ofSound_10 : decode cX9_ofSound 10 = .ok (.ireturn, 1) := by decide +kernel
theorem dX9_ofSound_11 : decode cX9_ofSound 11 = .ok (.iload_n 3, 1) := by decide +kernel
theorem dX9_ofSound_12 : decode cX9_ofSound 12 = .ok (.tableswitch 65 0 3 #[32, 32, 45, 52], 32) := by decide +kernel
theorem dX9_ofSound_44 : decode cX9_ofSound 44 = .ok (.aload_n 0, 1) := by decide +kernel
theorem dX9_ofSound_45 : decode cX9_ofSound 45 = .ok (.getfield 7, 3) := by decide +kernel
theorem dX9_ofSound_48 : decode cX9_ofSound 48 = .ok (.iload_n 1, 1) := by decide +kernel
theorem dX9_ofSound_49 : decode cX9_ofSound 49 = .ok (.iload_n 2, 1) := by decide +kernel
theorem dX9_ofSound_50 : decode cX9_ofSound 50 = .ok (.invokestatic 52, 3) := by decide +kernel
theorem dX9_ofSound_53 : decode cX9_ofSound 53 = .ok (.iload_n 3, 1) := by decide +kernel
theorem dX9_ofSound_54 : decode cX9_ofSound 54 = .ok (.iadd, 1) := by decide +kernel
theorem dX9_ofSound_55 : decode cX9_ofSound 55 = .ok (.iaload, 1) := by decide +kernel
theorem dX9_ofSound_56 : decode cX9_ofSound 56 = .ok (.ireturn, 1) := by decide +kernel
theorem dX9_ofSound_57 : decode cX9_ofSound 57 = .ok (.aload_n 0, 1) := by decide +kernel
theorem dX9_ofSound_58 : decode cX9_ofSound 58 = .ok (.iload_n 1, 1) := by decide +kernel
theorem dX9_ofSound_59 : decode cX9_ofSound 59 = .ok (.iload_n 2, 1) := by decide +kernel
theorem dX9_ofSound_60 : decode cX9_ofSound 60 = .ok (.invokevirtual 62, 3) := by decide +kernel
theorem dX9_ofSound_63 : decode cX9_ofSound 63 = .ok (.ireturn, 1) := by decide +kernel
theorem dX9_ofSound_64 : decode cX9_ofSound 64 = .ok (.aload_n 0, 1) := by decide +kernel
theorem dX9_ofSound_65 : decode cX9_ofSound 65 = .ok (.getfield 7, 3) := by decide +kernel
theorem dX9_ofSound_68 : decode cX9_ofSound 68 = .ok (.iload_n 1, 1) := by decide +kernel
theorem dX9_ofSound_69 : decode cX9_ofSound 69 = .ok (.iload_n 2, 1) := by decide +kernel
theorem dX9_ofSound_70 : decode cX9_ofSound 70 = .ok (.invokestatic 52, 3) := by decide +kernel
theorem dX9_ofSound_73 : decode cX9_ofSound 73 = .ok (.iconst 2, 1) := by decide +kernel
theorem dX9_ofSound_74 : decode cX9_ofSound 74 = .ok (.iadd, 1) := by decide +kernel
theorem dX9_ofSound_75 : decode cX9_ofSound 75 = .ok (.iaload, 1) := by decide +kernel
theorem dX9_ofSound_76 : decode cX9_ofSound 76 = .ok (.ireturn, 1) := by decide +kernel
theorem dX9_ofSound_77 : decode cX9_ofSound 77 = .ok (.bipush (-2), 2) := by decide +kernel
theorem dX9_ofSound_79 : decode cX9_ofSound 79 = .ok (.ireturn, 1) := by decide +kernel
theorem dX9_played_0 : decode cX9_played 0 = .ok (.iload_n 1, 1) := by decide +kernel
theorem dX9_played_1 : decode cX9_played 1 = .ok (.iconst 0, 1) := by decide +kernel
theorem dX9_played_2 : decode cX9_played 2 = .ok (.aload_n 0, 1) := by decide +kernel
theorem dX9_played_3 : decode cX9_played 3 = .ok (.getfield 7, 3) := by decide +kernel
theorem dX9_played_6 : decode cX9_played 6 = .ok (.bipush 7, 2) := by decide +kernel
theorem dX9_played_8 : decode cX9_played 8 = .ok (.iaload, 1) := by decide +kernel
theorem dX9_played_9 : decode cX9_played 9 = .ok (.iconst 1, 1) := by decide +kernel
theorem dX9_played_10 : decode cX9_played 10 = .ok (.isub, 1) := by decide +kernel
theorem dX9_played_11 : decode cX9_played 11 = .ok (.invokestatic 40, 3) := by decide +kernel
theorem dX9_played_14 : decode cX9_played 14 = .ok (.ifCond .ne 5, 3) := by decide +kernel
theorem dX9_played_17 : decode cX9_played 17 = .ok (.iconst (-1), 1) := by decide +kernel
theorem dX9_played_18 : decode cX9_played 18 = .ok (.ireturn, 1) := by decide +kernel
theorem dX9_played_19 : decode cX9_played 19 = .ok (.aload_n 0, 1) := by decide +kernel
theorem dX9_played_20 : decode cX9_played 20 = .ok (.getfield 7, 3) := by decide +kernel
theorem dX9_played_23 : decode cX9_played 23 = .ok (.sipush 296, 3) := by decide +kernel
theorem dX9_played_26 : decode cX9_played 26 = .ok (.iload_n 1, 1) := by decide +kernel
theorem dX9_played_27 : decode cX9_played 27 = .ok (.iadd, 1) := by decide +kernel
theorem dX9_played_28 : decode cX9_played 28 = .ok (.iaload, 1) := by decide +kernel
theorem dX9_played_29 : decode cX9_played 29 = .ok (.istore_n 3, 1) := by decide +kernel
theorem dX9_played_30 : decode cX9_played 30 = .ok (.iload_n 2, 1) := by decide +kernel
theorem dX9_played_31 : decode cX9_played 31 = .ok (.tableswitch 50 0 2 #[25, 30, 35], 25) := by decide +kernel
theorem dX9_played_56 : decode cX9_played 56 = .ok (.iload_n 3, 1) := by decide +kernel
theorem dX9_played_57 : decode cX9_played 57 = .ok (.bipush 6, 2) := by decide +kernel
theorem dX9_played_59 : decode cX9_played 59 = .ok (.idiv, 1) := by decide +kernel
theorem dX9_played_60 : decode cX9_played 60 = .ok (.ireturn, 1) := by decide +kernel
theorem dX9_played_61 : decode cX9_played 61 = .ok (.iload_n 3, 1) := by decide +kernel
theorem dX9_played_62 : decode cX9_played 62 = .ok (.bipush 6, 2) := by decide +kernel
theorem dX9_played_64 : decode cX9_played 64 = .ok (.irem, 1) := by decide +kernel
theorem dX9_played_65 : decode cX9_played 65 = .ok (.ireturn, 1) := by decide +kernel
theorem dX9_played_66 : decode cX9_played 66 = .ok (.aload_n 0, 1) := by decide +kernel
theorem dX9_played_67 : decode cX9_played 67 = .ok (.getfield 7, 3) := by decide +kernel
theorem dX9_played_70 : decode cX9_played 70 = .ok (.sipush 144, 3) := by decide +kernel
theorem dX9_played_73 : decode cX9_played 73 = .ok (.iconst 3, 1) := by decide +kernel
theorem dX9_played_74 : decode cX9_played 74 = .ok (.iload_n 3, 1) := by decide +kernel
theorem dX9_played_75 : decode cX9_played 75 = .ok (.imul, 1) := by decide +kernel
theorem dX9_played_76 : decode cX9_played 76 = .ok (.iadd, 1) := by decide +kernel
theorem dX9_played_77 : decode cX9_played 77 = .ok (.iconst 2, 1) := by decide +kernel
theorem dX9_played_78 : decode cX9_played 78 = .ok (.iadd, 1) := by decide +kernel
theorem dX9_played_79 : decode cX9_played 79 = .ok (.iaload, 1) := by decide +kernel
theorem dX9_played_80 : decode cX9_played 80 = .ok (.ireturn, 1) := by decide +kernel
theorem dX9_played_81 : decode cX9_played 81 = .ok (.bipush (-2), 2) := by decide +kernel
theorem dX9_played_83 : decode cX9_played 83 = .ok (.ireturn, 1) := by decide +kernel
theorem dX9_doorsOn_0 : decode cX9_doorsOn 0 = .ok (.iconst 0, 1) := by decide +kernel
theorem dX9_doorsOn_1 : decode cX9_doorsOn 1 = .ok (.istore_n 2, 1) := by decide +kernel
theorem dX9_doorsOn_2 : decode cX9_doorsOn 2 = .ok (.iconst 0, 1) := by decide +kernel
theorem dX9_doorsOn_3 : decode cX9_doorsOn 3 = .ok (.istore_n 3, 1) := by decide +kernel
theorem dX9_doorsOn_4 : decode cX9_doorsOn 4 = .ok (.iload_n 3, 1) := by decide +kernel
theorem dX9_doorsOn_5 : decode cX9_doorsOn 5 = .ok (.aload_n 0, 1) := by decide +kernel
theorem dX9_doorsOn_6 : decode cX9_doorsOn 6 = .ok (.getfield 7, 3) := by decide +kernel
theorem dX9_doorsOn_9 : decode cX9_doorsOn 9 = .ok (.bipush 6, 2) := by decide +kernel
theorem dX9_doorsOn_11 : decode cX9_doorsOn 11 = .ok (.iaload, 1) := by decide +kernel
theorem dX9_doorsOn_12 : decode cX9_doorsOn 12 = .ok (.if_icmp .ge 33, 3) := by decide +kernel
theorem dX9_doorsOn_15 : decode cX9_doorsOn 15 = .ok (.iload_n 2, 1) := by decide +kernel
theorem dX9_doorsOn_16 : decode cX9_doorsOn 16 = .ok (.aload_n 0, 1) := by decide +kernel
theorem dX9_doorsOn_17 : decode cX9_doorsOn 17 = .ok (.getfield 7, 3) := by decide +kernel
theorem dX9_doorsOn_20 : decode cX9_doorsOn 20 = .ok (.sipush 224, 3) := by decide +kernel
theorem dX9_doorsOn_23 : decode cX9_doorsOn 23 = .ok (.iconst 3, 1) := by decide +kernel
theorem dX9_doorsOn_24 : decode cX9_doorsOn 24 = .ok (.iload_n 3, 1) := by decide +kernel
theorem dX9_doorsOn_25 : decode cX9_doorsOn 25 = .ok (.imul, 1) := by decide +kernel
theorem dX9_doorsOn_26 : decode cX9_doorsOn 26 = .ok (.iadd, 1) := by decide +kernel
theorem dX9_doorsOn_27 : decode cX9_doorsOn 27 = .ok (.iaload, 1) := by decide +kernel
theorem dX9_doorsOn_28 : decode cX9_doorsOn 28 = .ok (.iload_n 1, 1) := by decide +kernel
theorem dX9_doorsOn_29 : decode cX9_doorsOn 29 = .ok (.if_icmp .ne 7, 3) := by decide +kernel
theorem dX9_doorsOn_32 : decode cX9_doorsOn 32 = .ok (.iconst 1, 1) := by decide +kernel
theorem dX9_doorsOn_33 : decode cX9_doorsOn 33 = .ok (.goto 4, 3) := by decide +kernel
theorem dX9_doorsOn_36 : decode cX9_doorsOn 36 = .ok (.iconst 0, 1) := by decide +kernel
theorem dX9_doorsOn_37 : decode cX9_doorsOn 37 = .ok (.iadd, 1) := by decide +kernel
theorem dX9_doorsOn_38 : decode cX9_doorsOn 38 = .ok (.istore_n 2, 1) := by decide +kernel
theorem dX9_doorsOn_39 : decode cX9_doorsOn 39 = .ok (.iinc 3 1, 3) := by decide +kernel
theorem dX9_doorsOn_42 : decode cX9_doorsOn 42 = .ok (.goto (-38), 3) := by decide +kernel
theorem dX9_doorsOn_45 : decode cX9_doorsOn 45 = .ok (.iload_n 2, 1) := by decide +kernel
theorem dX9_doorsOn_46 : decode cX9_doorsOn 46 = .ok (.ireturn, 1) := by decide +kernel
theorem dX9_ofChannel_0 : decode cX9_ofChannel 0 = .ok (.iload_n 1, 1) := by decide +kernel
theorem dX9_ofChannel_1 : decode cX9_ofChannel 1 = .ok (.invokestatic 44, 3) := by decide +kernel
theorem dX9_ofChannel_4 : decode cX9_ofChannel 4 = .ok (.ifCond .ne 5, 3) := by decide +kernel
theorem dX9_ofChannel_7 : decode cX9_ofChannel 7 = .ok (.iconst (-1), 1) := by decide +kernel
theorem dX9_ofChannel_8 : decode cX9_ofChannel 8 = .ok (.ireturn, 1) := by decide +kernel
theorem dX9_ofChannel_9 : decode cX9_ofChannel 9 = .ok (.iload_n 2, 1) := by decide +kernel
theorem dX9_ofChannel_10 : decode cX9_ofChannel 10 = .ok (.iconst 0, 1) := by decide +kernel
theorem dX9_ofChannel_11 : decode cX9_ofChannel 11 = .ok (.iconst 1, 1) := by decide +kernel
theorem dX9_ofChannel_12 : decode cX9_ofChannel 12 = .ok (.invokestatic 40, 3) := by decide +kernel
theorem dX9_ofChannel_15 : decode cX9_ofChannel 15 = .ok (.ifCond .eq 20, 3) := by decide +kernel
theorem dX9_ofChannel_18 : decode cX9_ofChannel 18 = .ok (.aload_n 0, 1) := by decide +kernel
theorem dX9_ofChannel_19 : decode cX9_ofChannel 19 = .ok (.getfield 7, 3) := by decide +kernel
theorem dX9_ofChannel_22 : decode cX9_ofChannel 22 = .ok (.sipush 216, 3) := by decide +kernel
theorem dX9_ofChannel_25 : decode cX9_ofChannel 25 = .ok (.iconst 2, 1) := by decide +kernel
theorem dX9_ofChannel_26 : decode cX9_ofChannel 26 = .ok (.iload_n 1, 1) := by decide +kernel
theorem dX9_ofChannel_27 : decode cX9_ofChannel 27 = .ok (.imul, 1) := by decide +kernel
theorem dX9_ofChannel_28 : decode cX9_ofChannel 28 = .ok (.iadd, 1) := by decide +kernel
theorem dX9_ofChannel_29 : decode cX9_ofChannel 29 = .ok (.iload_n 2, 1) := by decide +kernel
theorem dX9_ofChannel_30 : decode cX9_ofChannel 30 = .ok (.iadd, 1) := by decide +kernel
theorem dX9_ofChannel_31 : decode cX9_ofChannel 31 = .ok (.iaload, 1) := by decide +kernel
theorem dX9_ofChannel_32 : decode cX9_ofChannel 32 = .ok (.goto 18, 3) := by decide +kernel
theorem dX9_ofChannel_35 : decode cX9_ofChannel 35 = .ok (.iload_n 2, 1) := by decide +kernel
theorem dX9_ofChannel_36 : decode cX9_ofChannel 36 = .ok (.iconst 2, 1) := by decide +kernel
theorem dX9_ofChannel_37 : decode cX9_ofChannel 37 = .ok (.if_icmp .ne 11, 3) := by decide +kernel
theorem dX9_ofChannel_40 : decode cX9_ofChannel 40 = .ok (.aload_n 0, 1) := by decide +kernel
theorem dX9_ofChannel_41 : decode cX9_ofChannel 41 = .ok (.iload_n 1, 1) := by decide +kernel
theorem dX9_ofChannel_42 : decode cX9_ofChannel 42 = .ok (.invokevirtual 131, 3) := by decide +kernel
theorem dX9_ofChannel_45 : decode cX9_ofChannel 45 = .ok (.goto 5, 3) := by decide +kernel
theorem dX9_ofChannel_48 : decode cX9_ofChannel 48 = .ok (.bipush (-2), 2) := by decide +kernel
theorem dX9_ofChannel_50 : decode cX9_ofChannel 50 = .ok (.ireturn, 1) := by decide +kernel
theorem dX9_loud_0 : decode cX9_loud 0 = .ok (.iload_n 1, 1) := by decide +kernel
theorem dX9_loud_1 : decode cX9_loud 1 = .ok (.iconst 0, 1) := by decide +kernel
theorem dX9_loud_2 : decode cX9_loud 2 = .ok (.aload_n 0, 1) := by decide +kernel
theorem dX9_loud_3 : decode cX9_loud 3 = .ok (.getfield 7, 3) := by decide +kernel
theorem dX9_loud_6 : decode cX9_loud 6 = .ok (.iconst 4, 1) := by decide +kernel
theorem dX9_loud_7 : decode cX9_loud 7 = .ok (.iaload, 1) := by decide +kernel
theorem dX9_loud_8 : decode cX9_loud 8 = .ok (.iconst 1, 1) := by decide +kernel
theorem dX9_loud_9 : decode cX9_loud 9 = .ok (.isub, 1) := by decide +kernel
theorem dX9_loud_10 : decode cX9_loud 10 = .ok (.invokestatic 40, 3) := by decide +kernel
theorem dX9_loud_13 : decode cX9_loud 13 = .ok (.ifCond .eq 16, 3) := by decide +kernel
theorem dX9_loud_16 : decode cX9_loud 16 = .ok (.aload_n 0, 1) := by decide +kernel
theorem dX9_loud_17 : decode cX9_loud 17 = .ok (.getfield 7, 3) := by decide +kernel
theorem dX9_loud_20 : decode cX9_loud 20 = .ok (.sipush 320, 3) := by decide +kernel
theorem dX9_loud_23 : decode cX9_loud 23 = .ok (.iload_n 1, 1) := by decide +kernel
theorem dX9_loud_24 : decode cX9_loud 24 = .ok (.iadd, 1) := by decide +kernel
theorem dX9_loud_25 : decode cX9_loud 25 = .ok (.iaload, 1) := by decide +kernel
theorem dX9_loud_26 : decode cX9_loud 26 = .ok (.goto 4, 3) := by decide +kernel
theorem dX9_loud_29 : decode cX9_loud 29 = .ok (.iconst (-1), 1) := by decide +kernel
theorem dX9_loud_30 : decode cX9_loud 30 = .ok (.ireturn, 1) := by decide +kernel
theorem dX9_cuesThat_0 : decode cX9_cuesThat 0 = .ok (.iconst 0, 1) := by decide +kernel
theorem dX9_cuesThat_1 : decode cX9_cuesThat 1 = .ok (.istore_n 2, 1) := by decide +kernel
theorem dX9_cuesThat_2 : decode cX9_cuesThat 2 = .ok (.iconst 0, 1) := by decide +kernel
theorem dX9_cuesThat_3 : decode cX9_cuesThat 3 = .ok (.istore_n 3, 1) := by decide +kernel
theorem dX9_cuesThat_4 : decode cX9_cuesThat 4 = .ok (.iload_n 3, 1) := by decide +kernel
theorem dX9_cuesThat_5 : decode cX9_cuesThat 5 = .ok (.aload_n 0, 1) := by decide +kernel
theorem dX9_cuesThat_6 : decode cX9_cuesThat 6 = .ok (.getfield 7, 3) := by decide +kernel
theorem dX9_cuesThat_9 : decode cX9_cuesThat 9 = .ok (.iconst 5, 1) := by decide +kernel
theorem dX9_cuesThat_10 : decode cX9_cuesThat 10 = .ok (.iaload, 1) := by decide +kernel
theorem dX9_cuesThat_11 : decode cX9_cuesThat 11 = .ok (.if_icmp .ge 27, 3) := by decide +kernel
theorem dX9_cuesThat_14 : decode cX9_cuesThat 14 = .ok (.iload_n 2, 1) := by decide +kernel
theorem dX9_cuesThat_15 : decode cX9_cuesThat 15 = .ok (.aload_n 0, 1) := by decide +kernel
theorem dX9_cuesThat_16 : decode cX9_cuesThat 16 = .ok (.iload_n 3, 1) := by decide +kernel
theorem dX9_cuesThat_17 : decode cX9_cuesThat 17 = .ok (.iconst 4, 1) := by decide +kernel
theorem dX9_cuesThat_18 : decode cX9_cuesThat 18 = .ok (.invokevirtual 59, 3) := by decide +kernel
theorem dX9_cuesThat_21 : decode cX9_cuesThat 21 = .ok (.iload_n 1, 1) := by decide +kernel
theorem dX9_cuesThat_22 : decode cX9_cuesThat 22 = .ok (.if_icmp .ne 7, 3) := by decide +kernel
theorem dX9_cuesThat_25 : decode cX9_cuesThat 25 = .ok (.iconst 1, 1) := by decide +kernel
theorem dX9_cuesThat_26 : decode cX9_cuesThat 26 = .ok (.goto 4, 3) := by decide +kernel
theorem dX9_cuesThat_29 : decode cX9_cuesThat 29 = .ok (.iconst 0, 1) := by decide +kernel
theorem dX9_cuesThat_30 : decode cX9_cuesThat 30 = .ok (.iadd, 1) := by decide +kernel
theorem dX9_cuesThat_31 : decode cX9_cuesThat 31 = .ok (.istore_n 2, 1) := by decide +kernel
theorem dX9_cuesThat_32 : decode cX9_cuesThat 32 = .ok (.iinc 3 1, 3) := by decide +kernel
theorem dX9_cuesThat_35 : decode cX9_cuesThat 35 = .ok (.goto (-31), 3) := by decide +kernel
theorem dX9_cuesThat_38 : decode cX9_cuesThat 38 = .ok (.iload_n 2, 1) := by decide +kernel
theorem dX9_cuesThat_39 : decode cX9_cuesThat 39 = .ok (.ireturn, 1) := by decide +kernel
theorem dX9_loudest_0 : decode cX9_loudest 0 = .ok (.bipush (-6), 2) := by decide +kernel
theorem dX9_loudest_2 : decode cX9_loudest 2 = .ok (.istore_n 2, 1) := by decide +kernel
theorem dX9_loudest_3 : decode cX9_loudest 3 = .ok (.iload_n 1, 1) := by decide +kernel
theorem dX9_loudest_4 : decode cX9_loudest 4 = .ok (.istore_n 3, 1) := by decide +kernel
theorem dX9_loudest_5 : decode cX9_loudest 5 = .ok (.iload_n 3, 1) := by decide +kernel
theorem dX9_loudest_6 : decode cX9_loudest 6 = .ok (.aload_n 0, 1) := by decide +kernel
theorem dX9_loudest_7 : decode cX9_loudest 7 = .ok (.getfield 7, 3) := by decide +kernel
theorem dX9_loudest_10 : decode cX9_loudest 10 = .ok (.iconst 4, 1) := by decide +kernel
theorem dX9_loudest_11 : decode cX9_loudest 11 = .ok (.iaload, 1) := by decide +kernel
theorem dX9_loudest_12 : decode cX9_loudest 12 = .ok (.if_icmp .ge 42, 3) := by decide +kernel
theorem dX9_loudest_15 : decode cX9_loudest 15 = .ok (.iload_n 2, 1) := by decide +kernel
theorem dX9_loudest_16 : decode cX9_loudest 16 = .ok (.ifCond .lt 26, 3) := by decide +kernel
theorem dX9_loudest_19 : decode cX9_loudest 19 = .ok (.aload_n 0, 1) := by decide +kernel
theorem dX9_loudest_20 : decode cX9_loudest 20 = .ok (.getfield 7, 3) := by decide +kernel
theorem dX9_loudest_23 : decode cX9_loudest 23 = .ok (.sipush 320, 3) := by decide +kernel
theorem dX9_loudest_26 : decode cX9_loudest 26 = .ok (.iload_n 3, 1) := by decide +kernel
theorem dX9_loudest_27 : decode cX9_loudest 27 = .ok (.iadd, 1) := by decide +kernel
theorem dX9_loudest_28 : decode cX9_loudest 28 = .ok (.iaload, 1) := by decide +kernel
theorem dX9_loudest_29 : decode cX9_loudest 29 = .ok (.aload_n 0, 1) := by decide +kernel
theorem dX9_loudest_30 : decode cX9_loudest 30 = .ok (.getfield 7, 3) := by decide +kernel
theorem dX9_loudest_33 : decode cX9_loudest 33 = .ok (.sipush 320, 3) := by decide +kernel
theorem dX9_loudest_36 : decode cX9_loudest 36 = .ok (.iload_n 2, 1) := by decide +kernel
theorem dX9_loudest_37 : decode cX9_loudest 37 = .ok (.iadd, 1) := by decide +kernel
theorem dX9_loudest_38 : decode cX9_loudest 38 = .ok (.iaload, 1) := by decide +kernel
theorem dX9_loudest_39 : decode cX9_loudest 39 = .ok (.if_icmp .le 7, 3) := by decide +kernel
theorem dX9_loudest_42 : decode cX9_loudest 42 = .ok (.iload_n 3, 1) := by decide +kernel
theorem dX9_loudest_43 : decode cX9_loudest 43 = .ok (.goto 4, 3) := by decide +kernel
theorem dX9_loudest_46 : decode cX9_loudest 46 = .ok (.iload_n 2, 1) := by decide +kernel
theorem dX9_loudest_47 : decode cX9_loudest 47 = .ok (.istore_n 2, 1) := by decide +kernel
theorem dX9_loudest_48 : decode cX9_loudest 48 = .ok (.iinc 3 1, 3) := by decide +kernel
theorem dX9_loudest_51 : decode cX9_loudest 51 = .ok (.goto (-46), 3) := by decide +kernel
theorem dX9_loudest_54 : decode cX9_loudest 54 = .ok (.iload_n 2, 1) := by decide +kernel
theorem dX9_loudest_55 : decode cX9_loudest 55 = .ok (.ireturn, 1) := by decide +kernel
theorem dX9_tooLoud_0 : decode cX9_tooLoud 0 = .ok (.iconst 0, 1) := by decide +kernel
theorem dX9_tooLoud_1 : decode cX9_tooLoud 1 = .ok (.istore_n 2, 1) := by decide +kernel
theorem dX9_tooLoud_2 : decode cX9_tooLoud 2 = .ok (.iload_n 1, 1) := by decide +kernel
theorem dX9_tooLoud_3 : decode cX9_tooLoud 3 = .ok (.istore_n 3, 1) := by decide +kernel
theorem dX9_tooLoud_4 : decode cX9_tooLoud 4 = .ok (.iload_n 3, 1) := by decide +kernel
theorem dX9_tooLoud_5 : decode cX9_tooLoud 5 = .ok (.aload_n 0, 1) := by decide +kernel
theorem dX9_tooLoud_6 : decode cX9_tooLoud 6 = .ok (.getfield 7, 3) := by decide +kernel
theorem dX9_tooLoud_9 : decode cX9_tooLoud 9 = .ok (.iconst 4, 1) := by decide +kernel
theorem dX9_tooLoud_10 : decode cX9_tooLoud 10 = .ok (.iaload, 1) := by decide +kernel
theorem dX9_tooLoud_11 : decode cX9_tooLoud 11 = .ok (.if_icmp .ge 36, 3) := by decide +kernel
theorem dX9_tooLoud_14 : decode cX9_tooLoud 14 = .ok (.iload_n 2, 1) := by decide +kernel
theorem dX9_tooLoud_15 : decode cX9_tooLoud 15 = .ok (.aload_n 0, 1) := by decide +kernel
theorem dX9_tooLoud_16 : decode cX9_tooLoud 16 = .ok (.getfield 7, 3) := by decide +kernel
theorem dX9_tooLoud_19 : decode cX9_tooLoud 19 = .ok (.sipush 320, 3) := by decide +kernel
theorem dX9_tooLoud_22 : decode cX9_tooLoud 22 = .ok (.iload_n 3, 1) := by decide +kernel
theorem dX9_tooLoud_23 : decode cX9_tooLoud 23 = .ok (.iadd, 1) := by decide +kernel
theorem dX9_tooLoud_24 : decode cX9_tooLoud 24 = .ok (.iaload, 1) := by decide +kernel
theorem dX9_tooLoud_25 : decode cX9_tooLoud 25 = .ok (.aload_n 0, 1) := by decide +kernel
theorem dX9_tooLoud_26 : decode cX9_tooLoud 26 = .ok (.getfield 7, 3) := by decide +kernel
theorem dX9_tooLoud_29 : decode cX9_tooLoud 29 = .ok (.iconst 3, 1) := by decide +kernel
theorem dX9_tooLoud_30 : decode cX9_tooLoud 30 = .ok (.iaload, 1) := by decide +kernel
theorem dX9_tooLoud_31 : decode cX9_tooLoud 31 = .ok (.if_icmp .le 7, 3) := by decide +kernel
theorem dX9_tooLoud_34 : decode cX9_tooLoud 34 = .ok (.iconst 1, 1) := by decide +kernel
theorem dX9_tooLoud_35 : decode cX9_tooLoud 35 = .ok (.goto 4, 3) := by decide +kernel
theorem dX9_tooLoud_38 : decode cX9_tooLoud 38 = .ok (.iconst 0, 1) := by decide +kernel
theorem dX9_tooLoud_39 : decode cX9_tooLoud 39 = .ok (.iadd, 1) := by decide +kernel
theorem dX9_tooLoud_40 : decode cX9_tooLoud 40 = .ok (.istore_n 2, 1) := by decide +kernel
theorem dX9_tooLoud_41 : decode cX9_tooLoud 41 = .ok (.iinc 3 1, 3) := by decide +kernel
theorem dX9_tooLoud_44 : decode cX9_tooLoud 44 = .ok (.goto (-40), 3) := by decide +kernel
theorem dX9_tooLoud_47 : decode cX9_tooLoud 47 = .ok (.iload_n 2, 1) := by decide +kernel
theorem dX9_tooLoud_48 : decode cX9_tooLoud 48 = .ok (.ireturn, 1) := by decide +kernel
theorem dX9_playing_0 : decode cX9_playing 0 = .ok (.iconst 0, 1) := by decide +kernel
theorem dX9_playing_1 : decode cX9_playing 1 = .ok (.istore_n 1, 1) := by decide +kernel
theorem dX9_playing_2 : decode cX9_playing 2 = .ok (.iconst 0, 1) := by decide +kernel
theorem dX9_playing_3 : decode cX9_playing 3 = .ok (.istore_n 2, 1) := by decide +kernel
theorem dX9_playing_4 : decode cX9_playing 4 = .ok (.iload_n 2, 1) := by decide +kernel
theorem dX9_playing_5 : decode cX9_playing 5 = .ok (.iconst 4, 1) := by decide +kernel
theorem dX9_playing_6 : decode cX9_playing 6 = .ok (.if_icmp .ge 28, 3) := by decide +kernel
theorem dX9_playing_9 : decode cX9_playing 9 = .ok (.iload_n 1, 1) := by decide +kernel
theorem dX9_playing_10 : decode cX9_playing 10 = .ok (.aload_n 0, 1) := by decide +kernel
theorem dX9_playing_11 : decode cX9_playing 11 = .ok (.iload_n 2, 1) := by decide +kernel
theorem dX9_playing_12 : decode cX9_playing 12 = .ok (.iconst 1, 1) := by decide +kernel
theorem dX9_playing_13 : decode cX9_playing 13 = .ok (.invokevirtual 48, 3) := by decide +kernel
theorem dX9_playing_16 : decode cX9_playing 16 = .ok (.ifCond .le 9, 3) := by decide +kernel
theorem dX9_playing_19 : decode cX9_playing 19 = .ok (.iconst 1, 1) := by decide +kernel
theorem dX9_playing_20 : decode cX9_playing 20 = .ok (.iload_n 2, 1) := by decide +kernel
theorem dX9_playing_21 : decode cX9_playing 21 = .ok (.ishl, 1) := by decide +kernel
theorem dX9_playing_22 : decode cX9_playing 22 = .ok (.goto 4, 3) := by decide +kernel
theorem dX9_playing_25 : decode cX9_playing 25 = .ok (.iconst 0, 1) := by decide +kernel
theorem dX9_playing_26 : decode cX9_playing 26 = .ok (.ior, 1) := by decide +kernel
theorem dX9_playing_27 : decode cX9_playing 27 = .ok (.istore_n 1, 1) := by decide +kernel
theorem dX9_playing_28 : decode cX9_playing 28 = .ok (.iinc 2 1, 3) := by decide +kernel
theorem dX9_playing_31 : decode cX9_playing 31 = .ok (.goto (-27), 3) := by decide +kernel
theorem dX9_playing_34 : decode cX9_playing 34 = .ok (.iload_n 1, 1) := by decide +kernel
theorem dX9_playing_35 : decode cX9_playing 35 = .ok (.ireturn, 1) := by decide +kernel
theorem dX9_count_0 : decode cX9_count 0 = .ok (.iload_n 1, 1) := by decide +kernel
theorem dX9_count_1 : decode cX9_count 1 = .ok (.tableswitch 134 0 14 #[75, 82, 89, 89, 89, 89, 97, 103, 109, 114, 114, 114, 114, 124, 129], 75) := by decide +kernel
theorem dX9_count_76 : decode cX9_count 76 = .ok (.aload_n 0, 1) := by decide +kernel
theorem dX9_count_77 : decode cX9_count 77 = .ok (.getfield 7, 3) := by decide +kernel
theorem dX9_count_80 : decode cX9_count 80 = .ok (.iconst 4, 1) := by decide +kernel
theorem dX9_count_81 : decode cX9_count 81 = .ok (.iaload, 1) := by decide +kernel
theorem dX9_count_82 : decode cX9_count 82 = .ok (.ireturn, 1) := by decide +kernel
theorem dX9_count_83 : decode cX9_count 83 = .ok (.aload_n 0, 1) := by decide +kernel
theorem dX9_count_84 : decode cX9_count 84 = .ok (.getfield 7, 3) := by decide +kernel
theorem dX9_count_87 : decode cX9_count 87 = .ok (.iconst 5, 1) := by decide +kernel
theorem dX9_count_88 : decode cX9_count 88 = .ok (.iaload, 1) := by decide +kernel
theorem dX9_count_89 : decode cX9_count 89 = .ok (.ireturn, 1) := by decide +kernel
theorem dX9_count_90 : decode cX9_count 90 = .ok (.aload_n 0, 1) := by decide +kernel
theorem dX9_count_91 : decode cX9_count 91 = .ok (.iload_n 1, 1) := by decide +kernel
theorem dX9_count_92 : decode cX9_count 92 = .ok (.iconst 2, 1) := by decide +kernel
theorem dX9_count_93 : decode cX9_count 93 = .ok (.isub, 1) := by decide +kernel
theorem dX9_count_94 : decode cX9_count 94 = .ok (.invokevirtual 134, 3) := by decide +kernel
theorem dX9_count_97 : decode cX9_count 97 = .ok (.ireturn, 1) := by decide +kernel
theorem dX9_count_98 : decode cX9_count 98 = .ok (.aload_n 0, 1) := by decide +kernel
theorem dX9_count_99 : decode cX9_count 99 = .ok (.iconst 0, 1) := by decide +kernel
theorem dX9_count_100 : decode cX9_count 100 = .ok (.invokevirtual 137, 3) := by decide +kernel
theorem dX9_count_103 : decode cX9_count 103 = .ok (.ireturn, 1) := by decide +kernel
theorem dX9_count_104 : decode cX9_count 104 = .ok (.aload_n 0, 1) := by decide +kernel
theorem dX9_count_105 : decode cX9_count 105 = .ok (.iconst 0, 1) := by decide +kernel
theorem dX9_count_106 : decode cX9_count 106 = .ok (.invokevirtual 140, 3) := by decide +kernel
theorem dX9_count_109 : decode cX9_count 109 = .ok (.ireturn, 1) := by decide +kernel
theorem dX9_count_110 : decode cX9_count 110 = .ok (.aload_n 0, 1) := by decide +kernel
theorem dX9_count_111 : decode cX9_count 111 = .ok (.invokevirtual 143, 3) := by decide +kernel
theorem dX9_count_114 : decode cX9_count 114 = .ok (.ireturn, 1) := by decide +kernel
theorem dX9_count_115 : decode cX9_count 115 = .ok (.aload_n 0, 1) := by decide +kernel
theorem dX9_count_116 : decode cX9_count 116 = .ok (.getfield 7, 3) := by decide +kernel
theorem dX9_count_119 : decode cX9_count 119 = .ok (.iload_n 1, 1) := by decide +kernel
theorem dX9_count_120 : decode cX9_count 120 = .ok (.bipush 9, 2) := by decide +kernel
theorem dX9_count_122 : decode cX9_count 122 = .ok (.isub, 1) := by decide +kernel
theorem dX9_count_123 : decode cX9_count 123 = .ok (.iaload, 1) := by decide +kernel
theorem dX9_count_124 : decode cX9_count 124 = .ok (.ireturn, 1) := by decide +kernel
theorem dX9_count_125 : decode cX9_count 125 = .ok (.aload_n 0, 1) := by decide +kernel
theorem dX9_count_126 : decode cX9_count 126 = .ok (.getfield 146, 3) := by decide +kernel
theorem dX9_count_129 : decode cX9_count 129 = .ok (.ireturn, 1) := by decide +kernel
theorem dX9_count_130 : decode cX9_count 130 = .ok (.aload_n 0, 1) := by decide +kernel
theorem dX9_count_131 : decode cX9_count 131 = .ok (.getfield 36, 3) := by decide +kernel
theorem dX9_count_134 : decode cX9_count 134 = .ok (.ireturn, 1) := by decide +kernel
theorem dX9_count_135 : decode cX9_count 135 = .ok (.bipush (-2), 2) := by decide +kernel
theorem dX9_count_137 : decode cX9_count 137 = .ok (.ireturn, 1) := by decide +kernel
theorem dX9_playsRest_0 : decode cX9_playsRest 0 = .ok (.iconst 0, 1) := by decide +kernel
theorem dX9_playsRest_1 : decode cX9_playsRest 1 = .ok (.istore_n 1, 1) := by decide +kernel
theorem dX9_playsRest_2 : decode cX9_playsRest 2 = .ok (.aload_n 0, 1) := by decide +kernel
theorem dX9_playsRest_3 : decode cX9_playsRest 3 = .ok (.iconst 0, 1) := by decide +kernel
theorem dX9_playsRest_4 : decode cX9_playsRest 4 = .ok (.invokevirtual 134, 3) := by decide +kernel
theorem dX9_playsRest_7 : decode cX9_playsRest 7 = .ok (.ifCond .gt 20, 3) := by decide +kernel
theorem dX9_playsRest_10 : decode cX9_playsRest 10 = .ok (.aload_n 0, 1) := by decide +kernel
theorem dX9_playsRest_11 : decode cX9_playsRest 11 = .ok (.invokevirtual 143, 3) := by decide +kernel
theorem dX9_playsRest_14 : decode cX9_playsRest 14 = .ok (.ifCond .gt 13, 3) := by decide +kernel
theorem dX9_playsRest_17 : decode cX9_playsRest 17 = .ok (.aload_n 0, 1) := by decide +kernel
theorem dX9_playsRest_18 : decode cX9_playsRest 18 = .ok (.getfield 7, 3) := by decide +kernel
theorem dX9_playsRest_21 : decode cX9_playsRest 21 = .ok (.bipush 6, 2) := by decide +kernel
theorem dX9_playsRest_23 : decode cX9_playsRest 23 = .ok (.iaload, 1) := by decide +kernel
theorem dX9_playsRest_24 : decode cX9_playsRest 24 = .ok (.ifCond .le 13, 3) := by decide +kernel
theorem dX9_playsRest_27 : decode cX9_playsRest 27 = .ok (.iload_n 1, 1) := by decide +kernel
theorem dX9_playsRest_28 : decode cX9_playsRest 28 = .ok (.aload_n 0, 1) := by decide +kernel
theorem dX9_playsRest_29 : decode cX9_playsRest 29 = .ok (.invokevirtual 128, 3) := by decide +kernel
theorem dX9_playsRest_32 : decode cX9_playsRest 32 = .ok (.iadd, 1) := by decide +kernel
theorem dX9_playsRest_33 : decode cX9_playsRest 33 = .ok (.istore_n 1, 1) := by decide +kernel
theorem dX9_playsRest_34 : decode cX9_playsRest 34 = .ok (.goto (-32), 3) := by decide +kernel
theorem dX9_playsRest_37 : decode cX9_playsRest 37 = .ok (.iload_n 1, 1) := by decide +kernel
theorem dX9_playsRest_38 : decode cX9_playsRest 38 = .ok (.ireturn, 1) := by decide +kernel
theorem dX9_rest_0 : decode cX9_rest 0 = .ok (.iload_n 1, 1) := by decide +kernel
theorem dX9_rest_1 : decode cX9_rest 1 = .ok (.iconst 0, 1) := by decide +kernel
theorem dX9_rest_2 : decode cX9_rest 2 = .ok (.iconst 4, 1) := by decide +kernel
theorem dX9_rest_3 : decode cX9_rest 3 = .ok (.invokestatic 40, 3) := by decide +kernel
theorem dX9_rest_6 : decode cX9_rest 6 = .ok (.ifCond .ne 6, 3) := by decide +kernel
theorem dX9_rest_9 : decode cX9_rest 9 = .ok (.bipush (-2), 2) := by decide +kernel
theorem dX9_rest_11 : decode cX9_rest 11 = .ok (.ireturn, 1) := by decide +kernel
theorem dX9_rest_12 : decode cX9_rest 12 = .ok (.aload_n 0, 1) := by decide +kernel
theorem dX9_rest_13 : decode cX9_rest 13 = .ok (.invokevirtual 149, 3) := by decide +kernel
theorem dX9_rest_16 : decode cX9_rest 16 = .ok (.aload_n 0, 1) := by decide +kernel
theorem dX9_rest_17 : decode cX9_rest 17 = .ok (.getfield 7, 3) := by decide +kernel
theorem dX9_rest_20 : decode cX9_rest 20 = .ok (.iconst 4, 1) := by decide +kernel
theorem dX9_rest_21 : decode cX9_rest 21 = .ok (.iaload, 1) := by decide +kernel
theorem dX9_rest_22 : decode cX9_rest 22 = .ok (.istore_n 2, 1) := by decide +kernel
theorem dX9_rest_23 : decode cX9_rest 23 = .ok (.aload_n 0, 1) := by decide +kernel
theorem dX9_rest_24 : decode cX9_rest 24 = .ok (.invokevirtual 152, 3) := by decide +kernel
theorem dX9_rest_27 : decode cX9_rest 27 = .ok (.istore_n 3, 1) := by decide +kernel
theorem dX9_rest_28 : decode cX9_rest 28 = .ok (.aload_n 0, 1) := by decide +kernel
theorem dX9_rest_29 : decode cX9_rest 29 = .ok (.iload_n 2, 1) := by decide +kernel
theorem dX9_rest_30 : decode cX9_rest 30 = .ok (.invokevirtual 137, 3) := by decide +kernel
theorem dX9_rest_33 : decode cX9_rest 33 = .ok (.istore 4, 2) := by decide +kernel
theorem dX9_rest_35 : decode cX9_rest 35 = .ok (.iload 4, 2) := by decide +kernel
theorem dX9_rest_37 : decode cX9_rest 37 = .ok (.ifCond .ge 7, 3) := by decide +kernel
theorem dX9_rest_40 : decode cX9_rest 40 = .ok (.iconst 0, 1) := by decide +kernel
theorem dX9_rest_41 : decode cX9_rest 41 = .ok (.goto 14, 3) := by decide +kernel
theorem dX9_rest_44 : decode cX9_rest 44 = .ok (.aload_n 0, 1) := by decide +kernel
theorem dX9_rest_45 : decode cX9_rest 45 = .ok (.getfield 7, 3) := by decide +kernel
theorem dX9_rest_48 : decode cX9_rest 48 = .ok (.sipush 320, 3) := by decide +kernel
theorem dX9_rest_51 : decode cX9_rest 51 = .ok (.iload 4, 2) := by decide +kernel
theorem dX9_rest_53 : decode cX9_rest 53 = .ok (.iadd, 1) := by decide +kernel
theorem dX9_rest_54 : decode cX9_rest 54 = .ok (.iaload, 1) := by decide +kernel
theorem dX9_rest_55 : decode cX9_rest 55 = .ok (.istore 5, 2) := by decide +kernel
theorem dX9_rest_57 : decode cX9_rest 57 = .ok (.aload_n 0, 1) := by decide +kernel
theorem dX9_rest_58 : decode cX9_rest 58 = .ok (.iload_n 2, 1) := by decide +kernel
theorem dX9_rest_59 : decode cX9_rest 59 = .ok (.invokevirtual 140, 3) := by decide +kernel
theorem dX9_rest_62 : decode cX9_rest 62 = .ok (.istore 6, 2) := by decide +kernel
theorem dX9_rest_64 : decode cX9_rest 64 = .ok (.aload_n 0, 1) := by decide +kernel
theorem dX9_rest_65 : decode cX9_rest 65 = .ok (.getfield 7, 3) := by decide +kernel
theorem dX9_rest_68 : decode cX9_rest 68 = .ok (.iconst 4, 1) := by decide +kernel
theorem dX9_rest_69 : decode cX9_rest 69 = .ok (.iaload, 1) := by decide +kernel
theorem dX9_rest_70 : decode cX9_rest 70 = .ok (.iload_n 2, 1) := by decide +kernel
theorem dX9_rest_71 : decode cX9_rest 71 = .ok (.isub, 1) := by decide +kernel
theorem dX9_rest_72 : decode cX9_rest 72 = .ok (.istore 7, 2) := by decide +kernel
theorem dX9_rest_74 : decode cX9_rest 74 = .ok (.aload_n 0, 1) := by decide +kernel
theorem dX9_rest_75 : decode cX9_rest 75 = .ok (.invokevirtual 155, 3) := by decide +kernel
theorem dX9_rest_78 : decode cX9_rest 78 = .ok (.iload_n 1, 1) := by decide +kernel
theorem dX9_rest_79 : decode cX9_rest 79 = .ok (.ifCond .ne 8, 3) := by decide +kernel
theorem dX9_rest_82 : decode cX9_rest 82 = .ok (.iload 7, 2) := by decide +kernel
theorem dX9_rest_84 : decode cX9_rest 84 = .ok (.goto 34, 3) := by decide +kernel
theorem dX9_rest_87 : decode cX9_rest 87 = .ok (.iload_n 1, 1) := by decide +kernel
theorem dX9_rest_88 : decode cX9_rest 88 = .ok (.iconst 1, 1) := by decide +kernel
theorem dX9_rest_89 : decode cX9_rest 89 = .ok (.if_icmp .ne 7, 3) := by decide +kernel
theorem dX9_rest_92 : decode cX9_rest 92 = .ok (.iload_n 3, 1) := by decide +kernel
theorem dX9_rest_93 : decode cX9_rest 93 = .ok (.goto 25, 3) := by decide +kernel
theorem dX9_rest_96 : decode cX9_rest 96 = .ok (.iload_n 1, 1) := by decide +kernel
theorem dX9_rest_97 : decode cX9_rest 97 = .ok (.iconst 2, 1) := by decide +kernel
theorem dX9_rest_98 : decode cX9_rest 98 = .ok (.if_icmp .ne 8, 3) := by decide +kernel
theorem dX9_rest_101 : decode cX9_rest 101 = .ok (.iload 4, 2) := by decide +kernel
theorem dX9_rest_103 : decode cX9_rest 103 = .ok (.goto 15, 3) := by decide +kernel
theorem dX9_rest_106 : decode cX9_rest 106 = .ok (.iload_n 1, 1) := by decide +kernel
theorem dX9_rest_107 : decode cX9_rest 107 = .ok (.iconst 3, 1) := by decide +kernel
theorem dX9_rest_108 : decode cX9_rest 108 = .ok (.if_icmp .ne 8, 3) := by decide +kernel
theorem dX9_rest_111 : decode cX9_rest 111 = .ok (.iload 5, 2) := by decide +kernel
theorem dX9_rest_113 : decode cX9_rest 113 = .ok (.goto 5, 3) := by decide +kernel
theorem dX9_rest_116 : decode cX9_rest 116 = .ok (.iload 6, 2) := by decide +kernel
theorem dX9_rest_118 : decode cX9_rest 118 = .ok (.ireturn, 1) := by decide +kernel
theorem dX9_becomes_0 : decode cX9_becomes 0 = .ok (.aload_n 0, 1) := by decide +kernel
theorem dX9_becomes_1 : decode cX9_becomes 1 = .ok (.iload_n 1, 1) := by decide +kernel
theorem dX9_becomes_2 : decode cX9_becomes 2 = .ok (.invokevirtual 116, 3) := by decide +kernel
theorem dX9_becomes_5 : decode cX9_becomes 5 = .ok (.ifCond .ne 5, 3) := by decide +kernel
theorem dX9_becomes_8 : decode cX9_becomes 8 = .ok (.iconst (-1), 1) := by decide +kernel
theorem dX9_becomes_9 : decode cX9_becomes 9 = .ok (.ireturn, 1) := by decide +kernel
theorem dX9_becomes_10 : decode cX9_becomes 10 = .ok (.aload_n 0, 1) := by decide +kernel
theorem dX9_becomes_11 : decode cX9_becomes 11 = .ok (.invokevirtual 149, 3) := by decide +kernel
theorem dX9_becomes_14 : decode cX9_becomes 14 = .ok (.iconst 0, 1) := by decide +kernel
theorem dX9_becomes_15 : decode cX9_becomes 15 = .ok (.istore_n 2, 1) := by decide +kernel
theorem dX9_becomes_16 : decode cX9_becomes 16 = .ok (.aload_n 0, 1) := by decide +kernel
theorem dX9_becomes_17 : decode cX9_becomes 17 = .ok (.iload_n 1, 1) := by decide +kernel
theorem dX9_becomes_18 : decode cX9_becomes 18 = .ok (.iconst 4, 1) := by decide +kernel
theorem dX9_becomes_19 : decode cX9_becomes 19 = .ok (.invokevirtual 59, 3) := by decide +kernel
theorem dX9_becomes_22 : decode cX9_becomes 22 = .ok (.ifCond .ne 13, 3) := by decide +kernel
theorem dX9_becomes_25 : decode cX9_becomes 25 = .ok (.iload_n 2, 1) := by decide +kernel
theorem dX9_becomes_26 : decode cX9_becomes 26 = .ok (.aload_n 0, 1) := by decide +kernel
theorem dX9_becomes_27 : decode cX9_becomes 27 = .ok (.invokevirtual 128, 3) := by decide +kernel
theorem dX9_becomes_30 : decode cX9_becomes 30 = .ok (.iadd, 1) := by decide +kernel
theorem dX9_becomes_31 : decode cX9_becomes 31 = .ok (.istore_n 2, 1) := by decide +kernel
theorem dX9_becomes_32 : decode cX9_becomes 32 = .ok (.goto (-16), 3) := by decide +kernel
theorem dX9_becomes_35 : decode cX9_becomes 35 = .ok (.iload_n 2, 1) := by decide +kernel
theorem dX9_becomes_36 : decode cX9_becomes 36 = .ok (.ifCond .ge 8, 3) := by decide +kernel
theorem dX9_becomes_39 : decode cX9_becomes 39 = .ok (.bipush (-6), 2) := by decide +kernel
theorem dX9_becomes_41 : decode cX9_becomes 41 = .ok (.goto 9, 3) := by decide +kernel
theorem dX9_becomes_44 : decode cX9_becomes 44 = .ok (.aload_n 0, 1) := by decide +kernel
theorem dX9_becomes_45 : decode cX9_becomes 45 = .ok (.iload_n 1, 1) := by decide +kernel
theorem dX9_becomes_46 : decode cX9_becomes 46 = .ok (.iconst 4, 1) := by decide +kernel
theorem dX9_becomes_47 : decode cX9_becomes 47 = .ok (.invokevirtual 59, 3) := by decide +kernel
theorem dX9_becomes_50 : decode cX9_becomes 50 = .ok (.istore_n 3, 1) := by decide +kernel
theorem dX9_becomes_51 : decode cX9_becomes 51 = .ok (.aload_n 0, 1) := by decide +kernel
theorem dX9_becomes_52 : decode cX9_becomes 52 = .ok (.invokevirtual 155, 3) := by decide +kernel
theorem dX9_becomes_55 : decode cX9_becomes 55 = .ok (.iload_n 3, 1) := by decide +kernel
theorem dX9_becomes_56 : decode cX9_becomes 56 = .ok (.ireturn, 1) := by decide +kernel
theorem dX9_leastWind_0 : decode cX9_leastWind 0 = .ok (.iconst 1, 1) := by decide +kernel
theorem dX9_leastWind_1 : decode cX9_leastWind 1 = .ok (.istore_n 1, 1) := by decide +kernel
theorem dX9_leastWind_2 : decode cX9_leastWind 2 = .ok (.iload_n 1, 1) := by decide +kernel
theorem dX9_leastWind_3 : decode cX9_leastWind 3 = .ok (.iconst 0, 1) := by decide +kernel
theorem dX9_leastWind_4 : decode cX9_leastWind 4 = .ok (.invokestatic 103, 3) := by decide +kernel
theorem dX9_leastWind_7 : decode cX9_leastWind 7 = .ok (.if_icmp .gt 35, 3) := by decide +kernel
theorem dX9_leastWind_10 : decode cX9_leastWind 10 = .ok (.aload_n 0, 1) := by decide +kernel
theorem dX9_leastWind_11 : decode cX9_leastWind 11 = .ok (.invokevirtual 149, 3) := by decide +kernel
theorem dX9_leastWind_14 : decode cX9_leastWind 14 = .ok (.aload_n 0, 1) := by decide +kernel
theorem dX9_leastWind_15 : decode cX9_leastWind 15 = .ok (.getfield 7, 3) := by decide +kernel
theorem dX9_leastWind_18 : decode cX9_leastWind 18 = .ok (.iconst 0, 1) := by decide +kernel
theorem dX9_leastWind_19 : decode cX9_leastWind 19 = .ok (.iload_n 1, 1) := by decide +kernel
theorem dX9_leastWind_20 : decode cX9_leastWind 20 = .ok (.iastore, 1) := by decide +kernel
theorem dX9_leastWind_21 : decode cX9_leastWind 21 = .ok (.aload_n 0, 1) := by decide +kernel
theorem dX9_leastWind_22 : decode cX9_leastWind 22 = .ok (.invokevirtual 152, 3) := by decide +kernel
theorem dX9_leastWind_25 : decode cX9_leastWind 25 = .ok (.istore_n 2, 1) := by decide +kernel
theorem dX9_leastWind_26 : decode cX9_leastWind 26 = .ok (.aload_n 0, 1) := by decide +kernel
theorem dX9_leastWind_27 : decode cX9_leastWind 27 = .ok (.invokevirtual 155, 3) := by decide +kernel
theorem dX9_leastWind_30 : decode cX9_leastWind 30 = .ok (.iload_n 2, 1) := by decide +kernel
theorem dX9_leastWind_31 : decode cX9_leastWind 31 = .ok (.ifCond .ne 5, 3) := by decide +kernel
theorem dX9_leastWind_34 : decode cX9_leastWind 34 = .ok (.iload_n 1, 1) := by decide +kernel
theorem dX9_leastWind_35 : decode cX9_leastWind 35 = .ok (.ireturn, 1) := by decide +kernel
theorem dX9_leastWind_36 : decode cX9_leastWind 36 = .ok (.iinc 1 1, 3) := by decide +kernel
theorem dX9_leastWind_39 : decode cX9_leastWind 39 = .ok (.goto (-37), 3) := by decide +kernel
theorem dX9_leastWind_42 : decode cX9_leastWind 42 = .ok (.bipush (-6), 2) := by decide +kernel
theorem dX9_leastWind_44 : decode cX9_leastWind 44 = .ok (.ireturn, 1) := by decide +kernel
theorem dX9_ifMoved_0 : decode cX9_ifMoved 0 = .ok (.aload_n 0, 1) := by decide +kernel
theorem dX9_ifMoved_1 : decode cX9_ifMoved 1 = .ok (.iload_n 1, 1) := by decide +kernel
theorem dX9_ifMoved_2 : decode cX9_ifMoved 2 = .ok (.iload_n 2, 1) := by decide +kernel
theorem dX9_ifMoved_3 : decode cX9_ifMoved 3 = .ok (.invokevirtual 122, 3) := by decide +kernel
theorem dX9_ifMoved_6 : decode cX9_ifMoved 6 = .ok (.istore_n 3, 1) := by decide +kernel
theorem dX9_ifMoved_7 : decode cX9_ifMoved 7 = .ok (.iload_n 3, 1) := by decide +kernel
theorem dX9_ifMoved_8 : decode cX9_ifMoved 8 = .ok (.ifCond .ge 5, 3) := by decide +kernel
theorem dX9_ifMoved_11 : decode cX9_ifMoved 11 = .ok (.iload_n 3, 1) := by decide +kernel
theorem dX9_ifMoved_12 : decode cX9_ifMoved 12 = .ok (.ireturn, 1) := by decide +kernel
theorem dX9_ifMoved_13 : decode cX9_ifMoved 13 = .ok (.aload_n 0, 1) := by decide +kernel
theorem dX9_ifMoved_14 : decode cX9_ifMoved 14 = .ok (.invokevirtual 149, 3) := by decide +kernel
theorem dX9_ifMoved_17 : decode cX9_ifMoved 17 = .ok (.aload_n 0, 1) := by decide +kernel
theorem dX9_ifMoved_18 : decode cX9_ifMoved 18 = .ok (.iload_n 1, 1) := by decide +kernel
theorem dX9_ifMoved_19 : decode cX9_ifMoved 19 = .ok (.iload_n 2, 1) := by decide +kernel
theorem dX9_ifMoved_20 : decode cX9_ifMoved 20 = .ok (.invokevirtual 125, 3) := by decide +kernel
theorem dX9_ifMoved_23 : decode cX9_ifMoved 23 = .ok (.istore 4, 2) := by decide +kernel
theorem dX9_ifMoved_25 : decode cX9_ifMoved 25 = .ok (.iload 4, 2) := by decide +kernel
theorem dX9_ifMoved_27 : decode cX9_ifMoved 27 = .ok (.ifCond .ge 8, 3) := by decide +kernel
theorem dX9_ifMoved_30 : decode cX9_ifMoved 30 = .ok (.iload 4, 2) := by decide +kernel
theorem dX9_ifMoved_32 : decode cX9_ifMoved 32 = .ok (.goto 7, 3) := by decide +kernel
theorem dX9_ifMoved_35 : decode cX9_ifMoved 35 = .ok (.aload_n 0, 1) := by decide +kernel
theorem dX9_ifMoved_36 : decode cX9_ifMoved 36 = .ok (.invokevirtual 152, 3) := by decide +kernel
theorem dX9_ifMoved_39 : decode cX9_ifMoved 39 = .ok (.istore 5, 2) := by decide +kernel
theorem dX9_ifMoved_41 : decode cX9_ifMoved 41 = .ok (.aload_n 0, 1) := by decide +kernel
theorem dX9_ifMoved_42 : decode cX9_ifMoved 42 = .ok (.invokevirtual 155, 3) := by decide +kernel
theorem dX9_ifMoved_45 : decode cX9_ifMoved 45 = .ok (.iload 5, 2) := by decide +kernel
theorem dX9_ifMoved_47 : decode cX9_ifMoved 47 = .ok (.ireturn, 1) := by decide +kernel
theorem dX9_readyIn_0 : decode cX9_readyIn 0 = .ok (.aload_n 0, 1) := by decide +kernel
theorem dX9_readyIn_1 : decode cX9_readyIn 1 = .ok (.iload_n 1, 1) := by decide +kernel
theorem dX9_readyIn_2 : decode cX9_readyIn 2 = .ok (.iload_n 2, 1) := by decide +kernel
theorem dX9_readyIn_3 : decode cX9_readyIn 3 = .ok (.invokevirtual 109, 3) := by decide +kernel
theorem dX9_readyIn_6 : decode cX9_readyIn 6 = .ok (.ifCond .ne 5, 3) := by decide +kernel
theorem dX9_readyIn_9 : decode cX9_readyIn 9 = .ok (.iconst (-1), 1) := by decide +kernel
theorem dX9_readyIn_10 : decode cX9_readyIn 10 = .ok (.ireturn, 1) := by decide +kernel
theorem dX9_readyIn_11 : decode cX9_readyIn 11 = .ok (.aload_n 0, 1) := by decide +kernel
theorem dX9_readyIn_12 : decode cX9_readyIn 12 = .ok (.invokevirtual 149, 3) := by decide +kernel
theorem dX9_readyIn_15 : decode cX9_readyIn 15 = .ok (.aload_n 0, 1) := by decide +kernel
theorem dX9_readyIn_16 : decode cX9_readyIn 16 = .ok (.iload_n 1, 1) := by decide +kernel
theorem dX9_readyIn_17 : decode cX9_readyIn 17 = .ok (.iload_n 2, 1) := by decide +kernel
theorem dX9_readyIn_18 : decode cX9_readyIn 18 = .ok (.invokevirtual 62, 3) := by decide +kernel
theorem dX9_readyIn_21 : decode cX9_readyIn 21 = .ok (.istore_n 3, 1) := by decide +kernel
theorem dX9_readyIn_22 : decode cX9_readyIn 22 = .ok (.iconst 0, 1) := by decide +kernel
theorem dX9_readyIn_23 : decode cX9_readyIn 23 = .ok (.istore 4, 2) := by decide +kernel
theorem dX9_readyIn_25 : decode cX9_readyIn 25 = .ok (.aload_n 0, 1) := by decide +kernel
theorem dX9_readyIn_26 : decode cX9_readyIn 26 = .ok (.iload_n 1, 1) := by decide +kernel
theorem dX9_readyIn_27 : decode cX9_readyIn 27 = .ok (.iconst 1, 1) := by decide +kernel
theorem dX9_readyIn_28 : decode cX9_readyIn 28 = .ok (.invokevirtual 48, 3) := by decide +kernel
theorem dX9_readyIn_31 : decode cX9_readyIn 31 = .ok (.ifCond .gt 13, 3) := by decide +kernel
theorem dX9_readyIn_34 : decode cX9_readyIn 34 = .ok (.aload_n 0, 1) := by decide +kernel
theorem dX9_readyIn_35 : decode cX9_readyIn 35 = .ok (.iload_n 1, 1) := by decide +kernel
theorem dX9_readyIn_36 : decode cX9_readyIn 36 = .ok (.iconst 0, 1) := by decide +kernel
theorem dX9_readyIn_37 : decode cX9_readyIn 37 = .ok (.invokevirtual 48, 3) := by decide +kernel
theorem dX9_readyIn_40 : decode cX9_readyIn 40 = .ok (.iload_n 3, 1) := by decide +kernel
theorem dX9_readyIn_41 : decode cX9_readyIn 41 = .ok (.if_icmp .eq 20, 3) := by decide +kernel
theorem dX9_readyIn_44 : decode cX9_readyIn 44 = .ok (.aload_n 0, 1) := by decide +kernel
theorem dX9_readyIn_45 : decode cX9_readyIn 45 = .ok (.iload_n 1, 1) := by decide +kernel
theorem dX9_readyIn_46 : decode cX9_readyIn 46 = .ok (.invokevirtual 87, 3) := by decide +kernel
theorem dX9_readyIn_49 : decode cX9_readyIn 49 = .ok (.aload_n 0, 1) := by decide +kernel
theorem dX9_readyIn_50 : decode cX9_readyIn 50 = .ok (.iload_n 1, 1) := by decide +kernel
theorem dX9_readyIn_51 : decode cX9_readyIn 51 = .ok (.iload_n 3, 1) := by decide +kernel
theorem dX9_readyIn_52 : decode cX9_readyIn 52 = .ok (.invokevirtual 94, 3) := by decide +kernel
theorem dX9_readyIn_55 : decode cX9_readyIn 55 = .ok (.iinc 4 1, 3) := by decide +kernel
theorem dX9_readyIn_58 : decode cX9_readyIn 58 = .ok (.goto (-33), 3) := by decide +kernel
theorem dX9_readyIn_61 : decode cX9_readyIn 61 = .ok (.aload_n 0, 1) := by decide +kernel
theorem dX9_readyIn_62 : decode cX9_readyIn 62 = .ok (.invokevirtual 155, 3) := by decide +kernel
theorem dX9_readyIn_65 : decode cX9_readyIn 65 = .ok (.iload 4, 2) := by decide +kernel
theorem dX9_readyIn_67 : decode cX9_readyIn 67 = .ok (.ireturn, 1) := by decide +kernel
theorem dX9_put_0 : decode cX9_put 0 = .ok (.iconst 0, 1) := by decide +kernel
theorem dX9_put_1 : decode cX9_put 1 = .ok (.istore_n 3, 1) := by decide +kernel
theorem dX9_put_2 : decode cX9_put 2 = .ok (.lload_n 1, 1) := by decide +kernel
theorem dX9_put_3 : decode cX9_put 3 = .ok (.lstore 4, 2) := by decide +kernel
theorem dX9_put_5 : decode cX9_put 5 = .ok (.lload 4, 2) := by decide +kernel
theorem dX9_put_7 : decode cX9_put 7 = .ok (.lconst 0, 1) := by decide +kernel
theorem dX9_put_8 : decode cX9_put 8 = .ok (.lcmp, 1) := by decide +kernel
theorem dX9_put_9 : decode cX9_put 9 = .ok (.ifCond .eq 33, 3) := by decide +kernel
theorem dX9_put_12 : decode cX9_put 12 = .ok (.lload 4, 2) := by decide +kernel
theorem dX9_put_14 : decode cX9_put 14 = .ok (.ldc2_w 158, 3) := by decide +kernel
theorem dX9_put_17 : decode cX9_put 17 = .ok (.land, 1) := by decide +kernel
theorem dX9_put_18 : decode cX9_put 18 = .ok (.l2i, 1) := by decide +kernel
theorem dX9_put_19 : decode cX9_put 19 = .ok (.bipush 33, 2) := by decide +kernel
theorem dX9_put_21 : decode cX9_put 21 = .ok (.bipush 126, 2) := by decide +kernel
theorem dX9_put_23 : decode cX9_put 23 = .ok (.invokestatic 40, 3) := by decide +kernel
theorem dX9_put_26 : decode cX9_put 26 = .ok (.ifCond .eq 16, 3) := by decide +kernel
theorem dX9_put_29 : decode cX9_put 29 = .ok (.lload 4, 2) := by decide +kernel
theorem dX9_put_31 : decode cX9_put 31 = .ok (.bipush 8, 2) := by decide +kernel
theorem dX9_put_33 : decode cX9_put 33 = .ok (.lushr, 1) := by decide +kernel
theorem dX9_put_34 : decode cX9_put 34 = .ok (.lstore 4, 2) := by decide +kernel
theorem dX9_put_36 : decode cX9_put 36 = .ok (.iinc 3 1, 3) := by decide +kernel
theorem dX9_put_39 : decode cX9_put 39 = .ok (.goto (-34), 3) := by decide +kernel
theorem dX9_put_42 : decode cX9_put 42 = .ok (.iload_n 3, 1) := by decide +kernel
theorem dX9_put_43 : decode cX9_put 43 = .ok (.ifCond .eq 10, 3) := by decide +kernel
theorem dX9_put_46 : decode cX9_put 46 = .ok (.lload 4, 2) := by decide +kernel
theorem dX9_put_48 : decode cX9_put 48 = .ok (.lconst 0, 1) := by decide +kernel
theorem dX9_put_49 : decode cX9_put 49 = .ok (.lcmp, 1) := by decide +kernel
theorem dX9_put_50 : decode cX9_put 50 = .ok (.ifCond .eq 6, 3) := by decide +kernel
theorem dX9_put_53 : decode cX9_put 53 = .ok (.bipush (-2), 2) := by decide +kernel
theorem dX9_put_55 : decode cX9_put 55 = .ok (.ireturn, 1) := by decide +kernel
theorem dX9_put_56 : decode cX9_put 56 = .ok (.aload_n 0, 1) := by decide +kernel
theorem dX9_put_57 : decode cX9_put 57 = .ok (.getfield 146, 3) := by decide +kernel
theorem dX9_put_60 : decode cX9_put 60 = .ok (.iload_n 3, 1) := by decide +kernel
theorem dX9_put_61 : decode cX9_put 61 = .ok (.iadd, 1) := by decide +kernel
theorem dX9_put_62 : decode cX9_put 62 = .ok (.bipush 80, 2) := by decide +kernel
theorem dX9_put_64 : decode cX9_put 64 = .ok (.if_icmp .le 6, 3) := by decide +kernel
theorem dX9_put_67 : decode cX9_put 67 = .ok (.bipush (-4), 2) := by decide +kernel
theorem dX9_put_69 : decode cX9_put 69 = .ok (.ireturn, 1) := by decide +kernel
theorem dX9_put_70 : decode cX9_put 70 = .ok (.iload_n 3, 1) := by decide +kernel
theorem dX9_put_71 : decode cX9_put 71 = .ok (.iconst 1, 1) := by decide +kernel
theorem dX9_put_72 : decode cX9_put 72 = .ok (.isub, 1) := by decide +kernel
theorem dX9_put_73 : decode cX9_put 73 = .ok (.istore 6, 2) := by decide +kernel
theorem dX9_put_75 : decode cX9_put 75 = .ok (.iload 6, 2) := by decide +kernel
theorem dX9_put_77 : decode cX9_put 77 = .ok (.ifCond .lt 40, 3) := by decide +kernel
theorem dX9_put_80 : decode cX9_put 80 = .ok (.aload_n 0, 1) := by decide +kernel
theorem dX9_put_81 : decode cX9_put 81 = .ok (.getfield 26, 3) := by decide +kernel
theorem dX9_put_84 : decode cX9_put 84 = .ok (.aload_n 0, 1) := by decide +kernel
theorem dX9_put_85 : decode cX9_put 85 = .ok (.getfield 146, 3) := by decide +kernel
theorem dX9_put_88 : decode cX9_put 88 = .ok (.lload_n 1, 1) := by decide +kernel
theorem dX9_put_89 : decode cX9_put 89 = .ok (.bipush 8, 2) := by decide +kernel
theorem dX9_put_91 : decode cX9_put 91 = .ok (.iload 6, 2) := by decide +kernel
theorem dX9_put_93 : decode cX9_put 93 = .ok (.imul, 1) := by decide +kernel
theorem dX9_put_94 : decode cX9_put 94 = .ok (.lushr, 1) := by decide +kernel
theorem dX9_put_95 : decode cX9_put 95 = .ok (.ldc2_w 158, 3) := by decide +kernel
theorem dX9_put_98 : decode cX9_put 98 = .ok (.land, 1) := by decide +kernel
theorem dX9_put_99 : decode cX9_put 99 = .ok (.l2i, 1) := by decide +kernel
theorem dX9_put_100 : decode cX9_put 100 = .ok (.iastore, 1) := by decide +kernel
theorem dX9_put_101 : decode cX9_put 101 = .ok (.aload_n 0, 1) := by decide +kernel
theorem dX9_put_102 : decode cX9_put 102 = .ok (.dup, 1) := by decide +kernel
theorem dX9_put_103 : decode cX9_put 103 = .ok (.getfield 146, 3) := by decide +kernel
theorem dX9_put_106 : decode cX9_put 106 = .ok (.iconst 1, 1) := by decide +kernel
theorem dX9_put_107 : decode cX9_put 107 = .ok (.iadd, 1) := by decide +kernel
theorem dX9_put_108 : decode cX9_put 108 = .ok (.putfield 146, 3) := by decide +kernel
theorem dX9_put_111 : decode cX9_put 111 = .ok (.iinc 6 (-1), 3) := by decide +kernel
theorem dX9_put_114 : decode cX9_put 114 = .ok (.goto (-39), 3) := by decide +kernel
theorem dX9_put_117 : decode cX9_put 117 = .ok (.aload_n 0, 1) := by decide +kernel
theorem dX9_put_118 : decode cX9_put 118 = .ok (.getfield 146, 3) := by decide +kernel
theorem dX9_put_121 : decode cX9_put 121 = .ok (.ireturn, 1) := by decide +kernel
theorem dX9_wipe_0 : decode cX9_wipe 0 = .ok (.aload_n 0, 1) := by decide +kernel
theorem dX9_wipe_1 : decode cX9_wipe 1 = .ok (.getfield 146, 3) := by decide +kernel
theorem dX9_wipe_4 : decode cX9_wipe 4 = .ok (.istore_n 1, 1) := by decide +kernel
theorem dX9_wipe_5 : decode cX9_wipe 5 = .ok (.aload_n 0, 1) := by decide +kernel
theorem dX9_wipe_6 : decode cX9_wipe 6 = .ok (.iconst 0, 1) := by decide +kernel
theorem dX9_wipe_7 : decode cX9_wipe 7 = .ok (.putfield 146, 3) := by decide +kernel
theorem dX9_wipe_10 : decode cX9_wipe 10 = .ok (.iload_n 1, 1) := by decide +kernel
theorem dX9_wipe_11 : decode cX9_wipe 11 = .ok (.ireturn, 1) := by decide +kernel
theorem dX9_isAt_0 : decode cX9_isAt 0 = .ok (.aload_n 0, 1) := by decide +kernel
theorem dX9_isAt_1 : decode cX9_isAt 1 = .ok (.getfield 160, 3) := by decide +kernel
theorem dX9_isAt_4 : decode cX9_isAt 4 = .ok (.aload_n 0, 1) := by decide +kernel
theorem dX9_isAt_5 : decode cX9_isAt 5 = .ok (.getfield 146, 3) := by decide +kernel
theorem dX9_isAt_8 : decode cX9_isAt 8 = .ok (.if_icmp .ge 24, 3) := by decide +kernel
theorem dX9_isAt_11 : decode cX9_isAt 11 = .ok (.aload_n 0, 1) := by decide +kernel
theorem dX9_isAt_12 : decode cX9_isAt 12 = .ok (.getfield 26, 3) := by decide +kernel
theorem dX9_isAt_15 : decode cX9_isAt 15 = .ok (.aload_n 0, 1) := by decide +kernel
theorem dX9_isAt_16 : decode cX9_isAt 16 = .ok (.getfield 160, 3) := by decide +kernel
theorem dX9_isAt_19 : decode cX9_isAt 19 = .ok (.iaload, 1) := by decide +kernel
theorem dX9_isAt_20 : decode cX9_isAt 20 = .ok (.iload_n 1, 1) := by decide +kernel
theorem dX9_isAt_21 : decode cX9_isAt 21 = .ok (.iload_n 2, 1) := by decide +kernel
theorem dX9_isAt_22 : decode cX9_isAt 22 = .ok (.invokestatic 40, 3) := by decide +kernel
theorem dX9_isAt_25 : decode cX9_isAt 25 = .ok (.ifCond .eq 7, 3) := by decide +kernel
theorem dX9_isAt_28 : decode cX9_isAt 28 = .ok (.iconst 1, 1) := by decide +kernel
theorem dX9_isAt_29 : decode cX9_isAt 29 = .ok (.goto 4, 3) := by decide +kernel
theorem dX9_isAt_32 : decode cX9_isAt 32 = .ok (.iconst 0, 1) := by decide +kernel
theorem dX9_isAt_33 : decode cX9_isAt 33 = .ok (.ireturn, 1) := by decide +kernel
theorem dX9_sign_0 : decode cX9_sign 0 = .ok (.aload_n 0, 1) := by decide +kernel
theorem dX9_sign_1 : decode cX9_sign 1 = .ok (.iload_n 1, 1) := by decide +kernel
theorem dX9_sign_2 : decode cX9_sign 2 = .ok (.iload_n 1, 1) := by decide +kernel
theorem dX9_sign_3 : decode cX9_sign 3 = .ok (.invokevirtual 163, 3) := by decide +kernel
theorem dX9_sign_6 : decode cX9_sign 6 = .ok (.istore_n 2, 1) := by decide +kernel
theorem dX9_sign_7 : decode cX9_sign 7 = .ok (.aload_n 0, 1) := by decide +kernel
theorem dX9_sign_8 : decode cX9_sign 8 = .ok (.dup, 1) := by decide +kernel
theorem dX9_sign_9 : decode cX9_sign 9 = .ok (.getfield 160, 3) := by decide +kernel
theorem dX9_sign_12 : decode cX9_sign 12 = .ok (.iload_n 2, 1) := by decide +kernel
theorem dX9_sign_13 : decode cX9_sign 13 = .ok (.ifCond .eq 7, 3) := by decide +kernel
theorem dX9_sign_16 : decode cX9_sign 16 = .ok (.iconst 1, 1) := by decide +kernel
theorem dX9_sign_17 : decode cX9_sign 17 = .ok (.goto 4, 3) := by decide +kernel
theorem dX9_sign_20 : decode cX9_sign 20 = .ok (.iconst 0, 1) := by decide +kernel
theorem dX9_sign_21 : decode cX9_sign 21 = .ok (.iadd, 1) := by decide +kernel
theorem dX9_sign_22 : decode cX9_sign 22 = .ok (.putfield 160, 3) := by decide +kernel
theorem dX9_sign_25 : decode cX9_sign 25 = .ok (.iload_n 2, 1) := by decide +kernel
theorem dX9_sign_26 : decode cX9_sign 26 = .ok (.ireturn, 1) := by decide +kernel
theorem dX9_digit_0 : decode cX9_digit 0 = .ok (.aload_n 0, 1) := by decide +kernel
theorem dX9_digit_1 : decode cX9_digit 1 = .ok (.bipush 48, 2) := by decide +kernel
theorem dX9_digit_3 : decode cX9_digit 3 = .ok (.bipush 57, 2) := by decide +kernel
theorem dX9_digit_5 : decode cX9_digit 5 = .ok (.invokevirtual 163, 3) := by decide +kernel
theorem dX9_digit_8 : decode cX9_digit 8 = .ok (.ifCond .ne 5, 3) := by decide +kernel
theorem dX9_digit_11 : decode cX9_digit 11 = .ok (.iconst 0, 1) := by decide +kernel
theorem dX9_digit_12 : decode cX9_digit 12 = .ok (.ireturn, 1) := by decide +kernel
theorem dX9_digit_13 : decode cX9_digit 13 = .ok (.aload_n 0, 1) := by decide +kernel
theorem dX9_digit_14 : decode cX9_digit 14 = .ok (.getfield 29, 3) := by decide +kernel
theorem dX9_digit_17 : decode cX9_digit 17 = .ok (.iconst 4, 1) := by decide +kernel
theorem dX9_digit_18 : decode cX9_digit 18 = .ok (.aload_n 0, 1) := by decide +kernel
theorem dX9_digit_19 : decode cX9_digit 19 = .ok (.getfield 166, 3) := by decide +kernel
theorem dX9_digit_22 : decode cX9_digit 22 = .ok (.imul, 1) := by decide +kernel
theorem dX9_digit_23 : decode cX9_digit 23 = .ok (.iload_n 1, 1) := by decide +kernel
theorem dX9_digit_24 : decode cX9_digit 24 = .ok (.iadd, 1) := by decide +kernel
theorem dX9_digit_25 : decode cX9_digit 25 = .ok (.aload_n 0, 1) := by decide +kernel
theorem dX9_digit_26 : decode cX9_digit 26 = .ok (.getfield 26, 3) := by decide +kernel
theorem dX9_digit_29 : decode cX9_digit 29 = .ok (.aload_n 0, 1) := by decide +kernel
theorem dX9_digit_30 : decode cX9_digit 30 = .ok (.getfield 160, 3) := by decide +kernel
theorem dX9_digit_33 : decode cX9_digit 33 = .ok (.iaload, 1) := by decide +kernel
theorem dX9_digit_34 : decode cX9_digit 34 = .ok (.bipush 48, 2) := by decide +kernel
theorem dX9_digit_36 : decode cX9_digit 36 = .ok (.isub, 1) := by decide +kernel
theorem dX9_digit_37 : decode cX9_digit 37 = .ok (.iastore, 1) := by decide +kernel
theorem dX9_digit_38 : decode cX9_digit 38 = .ok (.aload_n 0, 1) := by decide +kernel
theorem dX9_digit_39 : decode cX9_digit 39 = .ok (.dup, 1) := by decide +kernel
theorem dX9_digit_40 : decode cX9_digit 40 = .ok (.getfield 160, 3) := by decide +kernel
theorem dX9_digit_43 : decode cX9_digit 43 = .ok (.iconst 1, 1) := by decide +kernel
theorem dX9_digit_44 : decode cX9_digit 44 = .ok (.iadd, 1) := by decide +kernel
theorem dX9_digit_45 : decode cX9_digit 45 = .ok (.putfield 160, 3) := by decide +kernel
theorem dX9_digit_48 : decode cX9_digit 48 = .ok (.iconst 1, 1) := by decide +kernel
theorem dX9_digit_49 : decode cX9_digit 49 = .ok (.ireturn, 1) := by decide +kernel
theorem dX9_number_0 : decode cX9_number 0 = .ok (.aload_n 0, 1) := by decide +kernel
theorem dX9_number_1 : decode cX9_number 1 = .ok (.iload_n 1, 1) := by decide +kernel
theorem dX9_number_2 : decode cX9_number 2 = .ok (.invokevirtual 169, 3) := by decide +kernel
theorem dX9_number_5 : decode cX9_number 5 = .ok (.ifCond .ne 5, 3) := by decide +kernel
theorem dX9_number_8 : decode cX9_number 8 = .ok (.iconst 0, 1) := by decide +kernel
theorem dX9_number_9 : decode cX9_number 9 = .ok (.ireturn, 1) := by decide +kernel
theorem dX9_number_10 : decode cX9_number 10 = .ok (.iconst 4, 1) := by decide +kernel
theorem dX9_number_11 : decode cX9_number 11 = .ok (.aload_n 0, 1) := by decide +kernel
theorem dX9_number_12 : decode cX9_number 12 = .ok (.getfield 166, 3) := by decide +kernel
theorem dX9_number_15 : decode cX9_number 15 = .ok (.imul, 1) := by decide +kernel
theorem dX9_number_16 : decode cX9_number 16 = .ok (.iload_n 1, 1) := by decide +kernel
theorem dX9_number_17 : decode cX9_number 17 = .ok (.iadd, 1) := by decide +kernel
theorem dX9_number_18 : decode cX9_number 18 = .ok (.istore_n 2, 1) := by decide +kernel
theorem dX9_number_19 : decode cX9_number 19 = .ok (.aload_n 0, 1) := by decide +kernel
theorem dX9_number_20 : decode cX9_number 20 = .ok (.getfield 29, 3) := by decide +kernel
theorem dX9_number_23 : decode cX9_number 23 = .ok (.iload_n 2, 1) := by decide +kernel
theorem dX9_number_24 : decode cX9_number 24 = .ok (.iaload, 1) := by decide +kernel
theorem dX9_number_25 : decode cX9_number 25 = .ok (.ifCond .le 83, 3) := by decide +kernel
theorem dX9_number_28 : decode cX9_number 28 = .ok (.aload_n 0, 1) := by decide +kernel
theorem dX9_number_29 : decode cX9_number 29 = .ok (.bipush 48, 2) := by decide +kernel
theorem dX9_number_31 : decode cX9_number 31 = .ok (.bipush 57, 2) := by decide +kernel
theorem dX9_number_33 : decode cX9_number 33 = .ok (.invokevirtual 163, 3) := by decide +kernel
theorem dX9_number_36 : decode cX9_number 36 = .ok (.ifCond .eq 72, 3) := by decide +kernel
theorem dX9_number_39 : decode cX9_number 39 = .ok (.bipush 10, 2) := by decide +kernel
theorem dX9_number_41 : decode cX9_number 41 = .ok (.aload_n 0, 1) := by decide +kernel
theorem dX9_number_42 : decode cX9_number 42 = .ok (.getfield 29, 3) := by decide +kernel
theorem dX9_number_45 : decode cX9_number 45 = .ok (.iload_n 2, 1) := by decide +kernel
theorem dX9_number_46 : decode cX9_number 46 = .ok (.iaload, 1) := by decide +kernel
theorem dX9_number_47 : decode cX9_number 47 = .ok (.imul, 1) := by decide +kernel
theorem dX9_number_48 : decode cX9_number 48 = .ok (.aload_n 0, 1) := by decide +kernel
theorem dX9_number_49 : decode cX9_number 49 = .ok (.getfield 26, 3) := by decide +kernel
theorem dX9_number_52 : decode cX9_number 52 = .ok (.aload_n 0, 1) := by decide +kernel
theorem dX9_number_53 : decode cX9_number 53 = .ok (.getfield 160, 3) := by decide +kernel
theorem dX9_number_56 : decode cX9_number 56 = .ok (.iaload, 1) := by decide +kernel
theorem dX9_number_57 : decode cX9_number 57 = .ok (.iadd, 1) := by decide +kernel
theorem dX9_number_58 : decode cX9_number 58 = .ok (.bipush 48, 2) := by decide +kernel
theorem dX9_number_60 : decode cX9_number 60 = .ok (.isub, 1) := by decide +kernel
theorem dX9_number_61 : decode cX9_number 61 = .ok (.sipush 1000, 3) := by decide +kernel
theorem dX9_number_64 : decode cX9_number 64 = .ok (.if_icmp .ge 44, 3) := by decide +kernel
theorem dX9_number_67 : decode cX9_number 67 = .ok (.aload_n 0, 1) := by decide +kernel
theorem dX9_number_68 : decode cX9_number 68 = .ok (.getfield 29, 3) := by decide +kernel
theorem dX9_number_71 : decode cX9_number 71 = .ok (.iload_n 2, 1) := by decide +kernel
theorem dX9_number_72 : decode cX9_number 72 = .ok (.bipush 10, 2) := by decide +kernel
theorem dX9_number_74 : decode cX9_number 74 = .ok (.aload_n 0, 1) := by decide +kernel
theorem dX9_number_75 : decode cX9_number 75 = .ok (.getfield 29, 3) := by decide +kernel
theorem dX9_number_78 : decode cX9_number 78 = .ok (.iload_n 2, 1) := by decide +kernel
theorem dX9_number_79 : decode cX9_number 79 = .ok (.iaload, 1) := by decide +kernel
theorem dX9_number_80 : decode cX9_number 80 = .ok (.imul, 1) := by decide +kernel
theorem dX9_number_81 : decode cX9_number 81 = .ok (.aload_n 0, 1) := by decide +kernel
theorem dX9_number_82 : decode cX9_number 82 = .ok (.getfield 26, 3) := by decide +kernel
theorem dX9_number_85 : decode cX9_number 85 = .ok (.aload_n 0, 1) := by decide +kernel
theorem dX9_number_86 : decode cX9_number 86 = .ok (.getfield 160, 3) := by decide +kernel
theorem dX9_number_89 : decode cX9_number 89 = .ok (.iaload, 1) := by decide +kernel
theorem dX9_number_90 : decode cX9_number 90 = .ok (.iadd, 1) := by decide +kernel
theorem dX9_number_91 : decode cX9_number 91 = .ok (.bipush 48, 2) := by decide +kernel
theorem dX9_number_93 : decode cX9_number 93 = .ok (.isub, 1) := by decide +kernel
theorem dX9_number_94 : decode cX9_number 94 = .ok (.iastore, 1) := by decide +kernel
theorem dX9_number_95 : decode cX9_number 95 = .ok (.aload_n 0, 1) := by decide +kernel
theorem dX9_number_96 : decode cX9_number 96 = .ok (.dup, 1) := by decide +kernel
theorem dX9_number_97 : decode cX9_number 97 = .ok (.getfield 160, 3) := by decide +kernel
theorem dX9_number_100 : decode cX9_number 100 = .ok (.iconst 1, 1) := by decide +kernel
theorem dX9_number_101 : decode cX9_number 101 = .ok (.iadd, 1) := by decide +kernel
theorem dX9_number_102 : decode cX9_number 102 = .ok (.putfield 160, 3) := by decide +kernel
theorem dX9_number_105 : decode cX9_number 105 = .ok (.goto (-86), 3) := by decide +kernel
theorem dX9_number_108 : decode cX9_number 108 = .ok (.iconst 1, 1) := by decide +kernel
theorem dX9_number_109 : decode cX9_number 109 = .ok (.ireturn, 1) := by decide +kernel
theorem dX9_reads_0 : decode cX9_reads 0 = .ok (.aload_n 0, 1) := by decide +kernel
theorem dX9_reads_1 : decode cX9_reads 1 = .ok (.getfield 160, 3) := by decide +kernel
theorem dX9_reads_4 : decode cX9_reads 4 = .ok (.aload_n 0, 1) := by decide +kernel
theorem dX9_reads_5 : decode cX9_reads 5 = .ok (.getfield 146, 3) := by decide +kernel
theorem dX9_reads_8 : decode cX9_reads 8 = .ok (.if_icmp .ge 15, 3) := by decide +kernel
theorem dX9_reads_11 : decode cX9_reads 11 = .ok (.aload_n 0, 1) := by decide +kernel
theorem dX9_reads_12 : decode cX9_reads 12 = .ok (.getfield 26, 3) := by decide +kernel
theorem dX9_reads_15 : decode cX9_reads 15 = .ok (.aload_n 0, 1) := by decide +kernel
theorem dX9_reads_16 : decode cX9_reads 16 = .ok (.getfield 160, 3) := by decide +kernel
theorem dX9_reads_19 : decode cX9_reads 19 = .ok (.iaload, 1) := by decide +kernel
theorem dX9_reads_20 : decode cX9_reads 20 = .ok (.goto 4, 3) := by decide +kernel
theorem dX9_reads_23 : decode cX9_reads 23 = .ok (.iconst 0, 1) := by decide +kernel
theorem dX9_reads_24 : decode cX9_reads 24 = .ok (.istore_n 1, 1) := by decide +kernel
theorem dX9_reads_25 : decode cX9_reads 25 = .ok (.iload_n 1, 1) := by decide +kernel
theorem dX9_reads_26 : decode cX9_reads 26 = .ok (.bipush 114, 2) := by decide +kernel
theorem dX9_reads_28 : decode cX9_reads 28 = .ok (.if_icmp .eq 27, 3) := by decide +kernel
theorem dX9_reads_31 : decode cX9_reads 31 = .ok (.iload_n 1, 1) := by decide +kernel
theorem dX9_reads_32 : decode cX9_reads 32 = .ok (.bipush 115, 2) := by decide +kernel
theorem dX9_reads_34 : decode cX9_reads 34 = .ok (.if_icmp .eq 21, 3) := by decide +kernel
theorem dX9_reads_37 : decode cX9_reads 37 = .ok (.iload_n 1, 1) := by decide +kernel
theorem dX9_reads_38 : decode cX9_reads 38 = .ok (.bipush 100, 2) := by decide +kernel
theorem dX9_reads_40 : decode cX9_reads 40 = .ok (.if_icmp .eq 15, 3) := by decide +kernel
theorem dX9_reads_43 : decode cX9_reads 43 = .ok (.iload_n 1, 1) := by decide +kernel
theorem dX9_reads_44 : decode cX9_reads 44 = .ok (.bipush 108, 2) := by decide +kernel
theorem dX9_reads_46 : decode cX9_reads 46 = .ok (.if_icmp .eq 9, 3) := by decide +kernel
theorem dX9_reads_49 : decode cX9_reads 49 = .ok (.iload_n 1, 1) := by decide +kernel
theorem dX9_reads_50 : decode cX9_reads 50 = .ok (.bipush 103, 2) := by decide +kernel
theorem dX9_reads_52 : decode cX9_reads 52 = .ok (.if_icmp .ne 7, 3) := by decide +kernel
theorem dX9_reads_55 : decode cX9_reads 55 = .ok (.iconst 1, 1) := by decide +kernel
theorem dX9_reads_56 : decode cX9_reads 56 = .ok (.goto 4, 3) := by decide +kernel
theorem dX9_reads_59 : decode cX9_reads 59 = .ok (.iconst 0, 1) := by decide +kernel
theorem dX9_reads_60 : decode cX9_reads 60 = .ok (.istore_n 2, 1) := by decide +kernel
theorem dX9_reads_61 : decode cX9_reads 61 = .ok (.aload_n 0, 1) := by decide +kernel
theorem dX9_reads_62 : decode cX9_reads 62 = .ok (.dup, 1) := by decide +kernel
theorem dX9_reads_63 : decode cX9_reads 63 = .ok (.getfield 160, 3) := by decide +kernel
theorem dX9_reads_66 : decode cX9_reads 66 = .ok (.iload_n 2, 1) := by decide +kernel
theorem dX9_reads_67 : decode cX9_reads 67 = .ok (.ifCond .eq 7, 3) := by decide +kernel
theorem dX9_reads_70 : decode cX9_reads 70 = .ok (.iconst 1, 1) := by decide +kernel
theorem dX9_reads_71 : decode cX9_reads 71 = .ok (.goto 4, 3) := by decide +kernel
theorem dX9_reads_74 : decode cX9_reads 74 = .ok (.iconst 0, 1) := by decide +kernel
theorem dX9_reads_75 : decode cX9_reads 75 = .ok (.iadd, 1) := by decide +kernel
theorem dX9_reads_76 : decode cX9_reads 76 = .ok (.putfield 160, 3) := by decide +kernel
theorem dX9_reads_79 : decode cX9_reads 79 = .ok (.aload_n 0, 1) := by decide +kernel
theorem dX9_reads_80 : decode cX9_reads 80 = .ok (.getfield 29, 3) := by decide +kernel
theorem dX9_reads_83 : decode cX9_reads 83 = .ok (.iconst 4, 1) := by decide +kernel
theorem dX9_reads_84 : decode cX9_reads 84 = .ok (.aload_n 0, 1) := by decide +kernel
theorem dX9_reads_85 : decode cX9_reads 85 = .ok (.getfield 166, 3) := by decide +kernel
theorem dX9_reads_88 : decode cX9_reads 88 = .ok (.imul, 1) := by decide +kernel
theorem dX9_reads_89 : decode cX9_reads 89 = .ok (.iload_n 1, 1) := by decide +kernel
theorem dX9_reads_90 : decode cX9_reads 90 = .ok (.iastore, 1) := by decide +kernel
theorem dX9_reads_91 : decode cX9_reads 91 = .ok (.iload_n 1, 1) := by decide +kernel
theorem dX9_reads_92 : decode cX9_reads 92 = .ok (.lookupswitch 256 #[(100, 145), (103, 247), (108, 196), (114, 52), (115, 103)], 52) := by decide +kernel
theorem dX9_reads_144 : decode cX9_reads 144 = .ok (.aload_n 0, 1) := by decide +kernel
theorem dX9_reads_145 : decode cX9_reads 145 = .ok (.iconst 1, 1) := by decide +kernel
theorem dX9_reads_146 : decode cX9_reads 146 = .ok (.invokevirtual 169, 3) := by decide +kernel
theorem dX9_reads_149 : decode cX9_reads 149 = .ok (.ifCond .eq 41, 3) := by decide +kernel
theorem dX9_reads_152 : decode cX9_reads 152 = .ok (.aload_n 0, 1) := by decide +kernel
theorem dX9_reads_153 : decode cX9_reads 153 = .ok (.bipush 43, 2) := by decide +kernel
theorem dX9_reads_155 : decode cX9_reads 155 = .ok (.invokevirtual 172, 3) := by decide +kernel
theorem dX9_reads_158 : decode cX9_reads 158 = .ok (.ifCond .eq 32, 3) := by decide +kernel
theorem dX9_reads_161 : decode cX9_reads 161 = .ok (.aload_n 0, 1) := by decide +kernel
theorem dX9_reads_162 : decode cX9_reads 162 = .ok (.iconst 2, 1) := by decide +kernel
theorem dX9_reads_163 : decode cX9_reads 163 = .ok (.invokevirtual 175, 3) := by decide +kernel
theorem dX9_reads_166 : decode cX9_reads 166 = .ok (.ifCond .eq 24, 3) := by decide +kernel
theorem dX9_reads_169 : decode cX9_reads 169 = .ok (.aload_n 0, 1) := by decide +kernel
theorem dX9_reads_170 : decode cX9_reads 170 = .ok (.bipush 42, 2) := by decide +kernel
theorem dX9_reads_172 : decode cX9_reads 172 = .ok (.invokevirtual 172, 3) := by decide +kernel
theorem dX9_reads_175 : decode cX9_reads 175 = .ok (.ifCond .eq 15, 3) := by decide +kernel
theorem dX9_reads_178 : decode cX9_reads 178 = .ok (.aload_n 0, 1) := by decide +kernel
theorem dX9_reads_179 : decode cX9_reads 179 = .ok (.iconst 3, 1) := by decide +kernel
theorem dX9_reads_180 : decode cX9_reads 180 = .ok (.invokevirtual 175, 3) := by decide +kernel
theorem dX9_reads_183 : decode cX9_reads 183 = .ok (.ifCond .eq 7, 3) := by decide +kernel
theorem dX9_reads_186 : decode cX9_reads 186 = .ok (.iconst 1, 1) := by decide +kernel
theorem dX9_reads_187 : decode cX9_reads 187 = .ok (.goto 4, 3) := by decide +kernel
theorem dX9_reads_190 : decode cX9_reads 190 = .ok (.iconst 0, 1) := by decide +kernel
theorem dX9_reads_191 : decode cX9_reads 191 = .ok (.istore_n 2, 1) := by decide +kernel
theorem dX9_reads_192 : decode cX9_reads 192 = .ok (.goto 156, 3) := by decide +kernel
theorem dX9_reads_195 : decode cX9_reads 195 = .ok (.aload_n 0, 1) := by decide +kernel
theorem dX9_reads_196 : decode cX9_reads 196 = .ok (.iconst 1, 1) := by decide +kernel
theorem dX9_reads_197 : decode cX9_reads 197 = .ok (.invokevirtual 175, 3) := by decide +kernel
theorem dX9_reads_200 : decode cX9_reads 200 = .ok (.ifCond .eq 32, 3) := by decide +kernel
theorem dX9_reads_203 : decode cX9_reads 203 = .ok (.aload_n 0, 1) := by decide +kernel
theorem dX9_reads_204 : decode cX9_reads 204 = .ok (.bipush 58, 2) := by decide +kernel
theorem dX9_reads_206 : decode cX9_reads 206 = .ok (.invokevirtual 172, 3) := by decide +kernel
theorem dX9_reads_209 : decode cX9_reads 209 = .ok (.ifCond .eq 23, 3) := by decide +kernel
theorem dX9_reads_212 : decode cX9_reads 212 = .ok (.aload_n 0, 1) := by decide +kernel
theorem dX9_reads_213 : decode cX9_reads 213 = .ok (.iconst 2, 1) := by decide +kernel
theorem dX9_reads_214 : decode cX9_reads 214 = .ok (.invokevirtual 169, 3) := by decide +kernel
theorem dX9_reads_217 : decode cX9_reads 217 = .ok (.ifCond .eq 15, 3) := by decide +kernel
theorem dX9_reads_220 : decode cX9_reads 220 = .ok (.aload_n 0, 1) := by decide +kernel
theorem dX9_reads_221 : decode cX9_reads 221 = .ok (.iconst 3, 1) := by decide +kernel
theorem dX9_reads_222 : decode cX9_reads 222 = .ok (.invokevirtual 169, 3) := by decide +kernel
theorem dX9_reads_225 : decode cX9_reads 225 = .ok (.ifCond .eq 7, 3) := by decide +kernel
theorem dX9_reads_228 : decode cX9_reads 228 = .ok (.iconst 1, 1) := by decide +kernel
theorem dX9_reads_229 : decode cX9_reads 229 = .ok (.goto 4, 3) := by decide +kernel
theorem dX9_reads_232 : decode cX9_reads 232 = .ok (.iconst 0, 1) := by decide +kernel
theorem dX9_reads_233 : decode cX9_reads 233 = .ok (.istore_n 2, 1) := by decide +kernel
theorem dX9_reads_234 : decode cX9_reads 234 = .ok (.goto 114, 3) := by decide +kernel
theorem dX9_reads_237 : decode cX9_reads 237 = .ok (.aload_n 0, 1) := by decide +kernel
theorem dX9_reads_238 : decode cX9_reads 238 = .ok (.iconst 1, 1) := by decide +kernel
theorem dX9_reads_239 : decode cX9_reads 239 = .ok (.invokevirtual 175, 3) := by decide +kernel
theorem dX9_reads_242 : decode cX9_reads 242 = .ok (.ifCond .eq 41, 3) := by decide +kernel
theorem dX9_reads_245 : decode cX9_reads 245 = .ok (.aload_n 0, 1) := by decide +kernel
theorem dX9_reads_246 : decode cX9_reads 246 = .ok (.bipush 58, 2) := by decide +kernel
theorem dX9_reads_248 : decode cX9_reads 248 = .ok (.invokevirtual 172, 3) := by decide +kernel
theorem dX9_reads_251 : decode cX9_reads 251 = .ok (.ifCond .eq 32, 3) := by decide +kernel
theorem dX9_reads_254 : decode cX9_reads 254 = .ok (.aload_n 0, 1) := by decide +kernel
theorem dX9_reads_255 : decode cX9_reads 255 = .ok (.iconst 2, 1) := by decide +kernel
theorem dX9_reads_256 : decode cX9_reads 256 = .ok (.invokevirtual 169, 3) := by decide +kernel
theorem dX9_reads_259 : decode cX9_reads 259 = .ok (.ifCond .eq 24, 3) := by decide +kernel
theorem dX9_reads_262 : decode cX9_reads 262 = .ok (.aload_n 0, 1) := by decide +kernel
theorem dX9_reads_263 : decode cX9_reads 263 = .ok (.bipush 42, 2) := by decide +kernel
theorem dX9_reads_265 : decode cX9_reads 265 = .ok (.invokevirtual 172, 3) := by decide +kernel
theorem dX9_reads_268 : decode cX9_reads 268 = .ok (.ifCond .eq 15, 3) := by decide +kernel
theorem dX9_reads_271 : decode cX9_reads 271 = .ok (.aload_n 0, 1) := by decide +kernel
theorem dX9_reads_272 : decode cX9_reads 272 = .ok (.iconst 3, 1) := by decide +kernel
theorem dX9_reads_273 : decode cX9_reads 273 = .ok (.invokevirtual 175, 3) := by decide +kernel
theorem dX9_reads_276 : decode cX9_reads 276 = .ok (.ifCond .eq 7, 3) := by decide +kernel
theorem dX9_reads_279 : decode cX9_reads 279 = .ok (.iconst 1, 1) := by decide +kernel
theorem dX9_reads_280 : decode cX9_reads 280 = .ok (.goto 4, 3) := by decide +kernel
theorem dX9_reads_283 : decode cX9_reads 283 = .ok (.iconst 0, 1) := by decide +kernel
theorem dX9_reads_284 : decode cX9_reads 284 = .ok (.istore_n 2, 1) := by decide +kernel
theorem dX9_reads_285 : decode cX9_reads 285 = .ok (.goto 63, 3) := by decide +kernel
theorem dX9_reads_288 : decode cX9_reads 288 = .ok (.aload_n 0, 1) := by decide +kernel
theorem dX9_reads_289 : decode cX9_reads 289 = .ok (.iconst 1, 1) := by decide +kernel
theorem dX9_reads_290 : decode cX9_reads 290 = .ok (.invokevirtual 175, 3) := by decide +kernel
theorem dX9_reads_293 : decode cX9_reads 293 = .ok (.ifCond .eq 41, 3) := by decide +kernel
theorem dX9_reads_296 : decode cX9_reads 296 = .ok (.aload_n 0, 1) := by decide +kernel
theorem dX9_reads_297 : decode cX9_reads 297 = .ok (.bipush 58, 2) := by decide +kernel
theorem dX9_reads_299 : decode cX9_reads 299 = .ok (.invokevirtual 172, 3) := by decide +kernel
theorem dX9_reads_302 : decode cX9_reads 302 = .ok (.ifCond .eq 32, 3) := by decide +kernel
theorem dX9_reads_305 : decode cX9_reads 305 = .ok (.aload_n 0, 1) := by decide +kernel
theorem dX9_reads_306 : decode cX9_reads 306 = .ok (.iconst 2, 1) := by decide +kernel
theorem dX9_reads_307 : decode cX9_reads 307 = .ok (.invokevirtual 169, 3) := by decide +kernel
theorem dX9_reads_310 : decode cX9_reads 310 = .ok (.ifCond .eq 24, 3) := by decide +kernel
theorem dX9_reads_313 : decode cX9_reads 313 = .ok (.aload_n 0, 1) := by decide +kernel
theorem dX9_reads_314 : decode cX9_reads 314 = .ok (.bipush 61, 2) := by decide +kernel
theorem dX9_reads_316 : decode cX9_reads 316 = .ok (.invokevirtual 172, 3) := by decide +kernel
theorem dX9_reads_319 : decode cX9_reads 319 = .ok (.ifCond .eq 15, 3) := by decide +kernel
theorem dX9_reads_322 : decode cX9_reads 322 = .ok (.aload_n 0, 1) := by decide +kernel
theorem dX9_reads_323 : decode cX9_reads 323 = .ok (.iconst 3, 1) := by decide +kernel
theorem dX9_reads_324 : decode cX9_reads 324 = .ok (.invokevirtual 175, 3) := by decide +kernel
theorem dX9_reads_327 : decode cX9_reads 327 = .ok (.ifCond .eq 7, 3) := by decide +kernel
theorem dX9_reads_330 : decode cX9_reads 330 = .ok (.iconst 1, 1) := by decide +kernel
theorem dX9_reads_331 : decode cX9_reads 331 = .ok (.goto 4, 3) := by decide +kernel
theorem dX9_reads_334 : decode cX9_reads 334 = .ok (.iconst 0, 1) := by decide +kernel
theorem dX9_reads_335 : decode cX9_reads 335 = .ok (.istore_n 2, 1) := by decide +kernel
theorem dX9_reads_336 : decode cX9_reads 336 = .ok (.goto 12, 3) := by decide +kernel
theorem dX9_reads_339 : decode cX9_reads 339 = .ok (.aload_n 0, 1) := by decide +kernel
theorem dX9_reads_340 : decode cX9_reads 340 = .ok (.iconst 1, 1) := by decide +kernel
theorem dX9_reads_341 : decode cX9_reads 341 = .ok (.invokevirtual 175, 3) := by decide +kernel
theorem dX9_reads_344 : decode cX9_reads 344 = .ok (.istore_n 2, 1) := by decide +kernel
theorem dX9_reads_345 : decode cX9_reads 345 = .ok (.goto 3, 3) := by decide +kernel
theorem dX9_reads_348 : decode cX9_reads 348 = .ok (.aload_n 0, 1) := by decide +kernel
theorem dX9_reads_349 : decode cX9_reads 349 = .ok (.dup, 1) := by decide +kernel
theorem dX9_reads_350 : decode cX9_reads 350 = .ok (.getfield 166, 3) := by decide +kernel
theorem dX9_reads_353 : decode cX9_reads 353 = .ok (.iload_n 2, 1) := by decide +kernel
theorem dX9_reads_354 : decode cX9_reads 354 = .ok (.ifCond .eq 7, 3) := by decide +kernel
theorem dX9_reads_357 : decode cX9_reads 357 = .ok (.iconst 1, 1) := by decide +kernel
theorem dX9_reads_358 : decode cX9_reads 358 = .ok (.goto 4, 3) := by decide +kernel
theorem dX9_reads_361 : decode cX9_reads 361 = .ok (.iconst 0, 1) := by decide +kernel
theorem dX9_reads_362 : decode cX9_reads 362 = .ok (.iadd, 1) := by decide +kernel
theorem dX9_reads_363 : decode cX9_reads 363 = .ok (.putfield 166, 3) := by decide +kernel
theorem dX9_reads_366 : decode cX9_reads 366 = .ok (.iload_n 2, 1) := by decide +kernel
theorem dX9_reads_367 : decode cX9_reads 367 = .ok (.ireturn, 1) := by decide +kernel
theorem dX9_fault_0 : decode cX9_fault 0 = .ok (.aload_n 0, 1) := by decide +kernel
theorem dX9_fault_1 : decode cX9_fault 1 = .ok (.iconst 0, 1) := by decide +kernel
theorem dX9_fault_2 : decode cX9_fault 2 = .ok (.putfield 160, 3) := by decide +kernel
theorem dX9_fault_5 : decode cX9_fault 5 = .ok (.aload_n 0, 1) := by decide +kernel
theorem dX9_fault_6 : decode cX9_fault 6 = .ok (.iconst 0, 1) := by decide +kernel
theorem dX9_fault_7 : decode cX9_fault 7 = .ok (.putfield 166, 3) := by decide +kernel
theorem dX9_fault_10 : decode cX9_fault 10 = .ok (.iconst 1, 1) := by decide +kernel
theorem dX9_fault_11 : decode cX9_fault 11 = .ok (.istore_n 1, 1) := by decide +kernel
theorem dX9_fault_12 : decode cX9_fault 12 = .ok (.iload_n 1, 1) := by decide +kernel
theorem dX9_fault_13 : decode cX9_fault 13 = .ok (.ifCond .eq 25, 3) := by decide +kernel
theorem dX9_fault_16 : decode cX9_fault 16 = .ok (.aload_n 0, 1) := by decide +kernel
theorem dX9_fault_17 : decode cX9_fault 17 = .ok (.invokevirtual 178, 3) := by decide +kernel
theorem dX9_fault_20 : decode cX9_fault 20 = .ok (.ifCond .ne 8, 3) := by decide +kernel
theorem dX9_fault_23 : decode cX9_fault 23 = .ok (.aload_n 0, 1) := by decide +kernel
theorem dX9_fault_24 : decode cX9_fault 24 = .ok (.getfield 160, 3) := by decide +kernel
theorem dX9_fault_27 : decode cX9_fault 27 = .ok (.ireturn, 1) := by decide +kernel
theorem dX9_fault_28 : decode cX9_fault 28 = .ok (.aload_n 0, 1) := by decide +kernel
theorem dX9_fault_29 : decode cX9_fault 29 = .ok (.bipush 59, 2) := by decide +kernel
theorem dX9_fault_31 : decode cX9_fault 31 = .ok (.invokevirtual 172, 3) := by decide +kernel
theorem dX9_fault_34 : decode cX9_fault 34 = .ok (.istore_n 1, 1) := by decide +kernel
theorem dX9_fault_35 : decode cX9_fault 35 = .ok (.goto (-23), 3) := by decide +kernel
theorem dX9_fault_38 : decode cX9_fault 38 = .ok (.aload_n 0, 1) := by decide +kernel
theorem dX9_fault_39 : decode cX9_fault 39 = .ok (.getfield 160, 3) := by decide +kernel
theorem dX9_fault_42 : decode cX9_fault 42 = .ok (.aload_n 0, 1) := by decide +kernel
theorem dX9_fault_43 : decode cX9_fault 43 = .ok (.getfield 146, 3) := by decide +kernel
theorem dX9_fault_46 : decode cX9_fault 46 = .ok (.if_icmp .ne 8, 3) := by decide +kernel
theorem dX9_fault_49 : decode cX9_fault 49 = .ok (.bipush (-6), 2) := by decide +kernel
theorem dX9_fault_51 : decode cX9_fault 51 = .ok (.goto 7, 3) := by decide +kernel
theorem dX9_fault_54 : decode cX9_fault 54 = .ok (.aload_n 0, 1) := by decide +kernel
theorem dX9_fault_55 : decode cX9_fault 55 = .ok (.getfield 160, 3) := by decide +kernel
theorem dX9_fault_58 : decode cX9_fault 58 = .ok (.ireturn, 1) := by decide +kernel
theorem dX9_does_0 : decode cX9_does 0 = .ok (.aload_n 0, 1) := by decide +kernel
theorem dX9_does_1 : decode cX9_does 1 = .ok (.getfield 29, 3) := by decide +kernel
theorem dX9_does_4 : decode cX9_does 4 = .ok (.iload_n 1, 1) := by decide +kernel
theorem dX9_does_5 : decode cX9_does 5 = .ok (.iaload, 1) := by decide +kernel
theorem dX9_does_6 : decode cX9_does 6 = .ok (.lookupswitch 161 #[(100, 101), (108, 131), (114, 42), (115, 71)], 42) := by decide +kernel
theorem dX9_does_48 : decode cX9_does 48 = .ok (.aload_n 0, 1) := by decide +kernel
theorem dX9_does_49 : decode cX9_does 49 = .ok (.aload_n 0, 1) := by decide +kernel
theorem dX9_does_50 : decode cX9_does 50 = .ok (.getfield 29, 3) := by decide +kernel
theorem dX9_does_53 : decode cX9_does 53 = .ok (.iload_n 1, 1) := by decide +kernel
theorem dX9_does_54 : decode cX9_does 54 = .ok (.iconst 1, 1) := by decide +kernel
theorem dX9_does_55 : decode cX9_does 55 = .ok (.iadd, 1) := by decide +kernel
theorem dX9_does_56 : decode cX9_does 56 = .ok (.iaload, 1) := by decide +kernel
theorem dX9_does_57 : decode cX9_does 57 = .ok (.aload_n 0, 1) := by decide +kernel
theorem dX9_does_58 : decode cX9_does 58 = .ok (.getfield 29, 3) := by decide +kernel
theorem dX9_does_61 : decode cX9_does 61 = .ok (.iload_n 1, 1) := by decide +kernel
theorem dX9_does_62 : decode cX9_does 62 = .ok (.iconst 2, 1) := by decide +kernel
theorem dX9_does_63 : decode cX9_does 63 = .ok (.iadd, 1) := by decide +kernel
theorem dX9_does_64 : decode cX9_does 64 = .ok (.iaload, 1) := by decide +kernel
theorem dX9_does_65 : decode cX9_does 65 = .ok (.aload_n 0, 1) := by decide +kernel
theorem dX9_does_66 : decode cX9_does 66 = .ok (.getfield 29, 3) := by decide +kernel
theorem dX9_does_69 : decode cX9_does 69 = .ok (.iload_n 1, 1) := by decide +kernel
theorem dX9_does_70 : decode cX9_does 70 = .ok (.iconst 3, 1) := by decide +kernel
theorem dX9_does_71 : decode cX9_does 71 = .ok (.iadd, 1) := by decide +kernel
theorem dX9_does_72 : decode cX9_does 72 = .ok (.iaload, 1) := by decide +kernel
theorem dX9_does_73 : decode cX9_does 73 = .ok (.invokevirtual 182, 3) := by decide +kernel
theorem dX9_does_76 : decode cX9_does 76 = .ok (.ireturn, 1) := by decide +kernel
theorem dX9_does_77 : decode cX9_does 77 = .ok (.aload_n 0, 1) := by decide +kernel
theorem dX9_does_78 : decode cX9_does 78 = .ok (.aload_n 0, 1) := by decide +kernel
theorem dX9_does_79 : decode cX9_does 79 = .ok (.getfield 29, 3) := by decide +kernel
theorem dX9_does_82 : decode cX9_does 82 = .ok (.iload_n 1, 1) := by decide +kernel
theorem dX9_does_83 : decode cX9_does 83 = .ok (.iconst 1, 1) := by decide +kernel
theorem dX9_does_84 : decode cX9_does 84 = .ok (.iadd, 1) := by decide +kernel
theorem dX9_does_85 : decode cX9_does 85 = .ok (.iaload, 1) := by decide +kernel
theorem dX9_does_86 : decode cX9_does 86 = .ok (.iconst 0, 1) := by decide +kernel
theorem dX9_does_87 : decode cX9_does 87 = .ok (.aload_n 0, 1) := by decide +kernel
theorem dX9_does_88 : decode cX9_does 88 = .ok (.getfield 29, 3) := by decide +kernel
theorem dX9_does_91 : decode cX9_does 91 = .ok (.iload_n 1, 1) := by decide +kernel
theorem dX9_does_92 : decode cX9_does 92 = .ok (.iconst 2, 1) := by decide +kernel
theorem dX9_does_93 : decode cX9_does 93 = .ok (.iadd, 1) := by decide +kernel
theorem dX9_does_94 : decode cX9_does 94 = .ok (.iaload, 1) := by decide +kernel
theorem dX9_does_95 : decode cX9_does 95 = .ok (.aload_n 0, 1) := by decide +kernel
theorem dX9_does_96 : decode cX9_does 96 = .ok (.getfield 29, 3) := by decide +kernel
theorem dX9_does_99 : decode cX9_does 99 = .ok (.iload_n 1, 1) := by decide +kernel
theorem dX9_does_100 : decode cX9_does 100 = .ok (.iconst 3, 1) := by decide +kernel
theorem dX9_does_101 : decode cX9_does 101 = .ok (.iadd, 1) := by decide +kernel
theorem dX9_does_102 : decode cX9_does 102 = .ok (.iaload, 1) := by decide +kernel
theorem dX9_does_103 : decode cX9_does 103 = .ok (.invokevirtual 185, 3) := by decide +kernel
theorem dX9_does_106 : decode cX9_does 106 = .ok (.ireturn, 1) := by decide +kernel
theorem dX9_does_107 : decode cX9_does 107 = .ok (.aload_n 0, 1) := by decide +kernel
theorem dX9_does_108 : decode cX9_does 108 = .ok (.aload_n 0, 1) := by decide +kernel
theorem dX9_does_109 : decode cX9_does 109 = .ok (.getfield 29, 3) := by decide +kernel
theorem dX9_does_112 : decode cX9_does 112 = .ok (.iload_n 1, 1) := by decide +kernel
theorem dX9_does_113 : decode cX9_does 113 = .ok (.iconst 1, 1) := by decide +kernel
theorem dX9_does_114 : decode cX9_does 114 = .ok (.iadd, 1) := by decide +kernel
theorem dX9_does_115 : decode cX9_does 115 = .ok (.iaload, 1) := by decide +kernel
theorem dX9_does_116 : decode cX9_does 116 = .ok (.iconst 1, 1) := by decide +kernel
theorem dX9_does_117 : decode cX9_does 117 = .ok (.aload_n 0, 1) := by decide +kernel
theorem dX9_does_118 : decode cX9_does 118 = .ok (.getfield 29, 3) := by decide +kernel
theorem dX9_does_121 : decode cX9_does 121 = .ok (.iload_n 1, 1) := by decide +kernel
theorem dX9_does_122 : decode cX9_does 122 = .ok (.iconst 2, 1) := by decide +kernel
theorem dX9_does_123 : decode cX9_does 123 = .ok (.iadd, 1) := by decide +kernel
theorem dX9_does_124 : decode cX9_does 124 = .ok (.iaload, 1) := by decide +kernel
theorem dX9_does_125 : decode cX9_does 125 = .ok (.aload_n 0, 1) := by decide +kernel
theorem dX9_does_126 : decode cX9_does 126 = .ok (.getfield 29, 3) := by decide +kernel
theorem dX9_does_129 : decode cX9_does 129 = .ok (.iload_n 1, 1) := by decide +kernel
theorem dX9_does_130 : decode cX9_does 130 = .ok (.iconst 3, 1) := by decide +kernel
theorem dX9_does_131 : decode cX9_does 131 = .ok (.iadd, 1) := by decide +kernel
theorem dX9_does_132 : decode cX9_does 132 = .ok (.iaload, 1) := by decide +kernel
theorem dX9_does_133 : decode cX9_does 133 = .ok (.invokevirtual 185, 3) := by decide +kernel
theorem dX9_does_136 : decode cX9_does 136 = .ok (.ireturn, 1) := by decide +kernel
theorem dX9_does_137 : decode cX9_does 137 = .ok (.aload_n 0, 1) := by decide +kernel
theorem dX9_does_138 : decode cX9_does 138 = .ok (.aload_n 0, 1) := by decide +kernel
theorem dX9_does_139 : decode cX9_does 139 = .ok (.getfield 29, 3) := by decide +kernel
theorem dX9_does_142 : decode cX9_does 142 = .ok (.iload_n 1, 1) := by decide +kernel
theorem dX9_does_143 : decode cX9_does 143 = .ok (.iconst 1, 1) := by decide +kernel
theorem dX9_does_144 : decode cX9_does 144 = .ok (.iadd, 1) := by decide +kernel
theorem dX9_does_145 : decode cX9_does 145 = .ok (.iaload, 1) := by decide +kernel
theorem dX9_does_146 : decode cX9_does 146 = .ok (.iconst 2, 1) := by decide +kernel
theorem dX9_does_147 : decode cX9_does 147 = .ok (.aload_n 0, 1) := by decide +kernel
theorem dX9_does_148 : decode cX9_does 148 = .ok (.getfield 29, 3) := by decide +kernel
theorem dX9_does_151 : decode cX9_does 151 = .ok (.iload_n 1, 1) := by decide +kernel
theorem dX9_does_152 : decode cX9_does 152 = .ok (.iconst 2, 1) := by decide +kernel
theorem dX9_does_153 : decode cX9_does 153 = .ok (.iadd, 1) := by decide +kernel
theorem dX9_does_154 : decode cX9_does 154 = .ok (.iaload, 1) := by decide +kernel
theorem dX9_does_155 : decode cX9_does 155 = .ok (.aload_n 0, 1) := by decide +kernel
theorem dX9_does_156 : decode cX9_does 156 = .ok (.getfield 29, 3) := by decide +kernel
theorem dX9_does_159 : decode cX9_does 159 = .ok (.iload_n 1, 1) := by decide +kernel
theorem dX9_does_160 : decode cX9_does 160 = .ok (.iconst 3, 1) := by decide +kernel
theorem dX9_does_161 : decode cX9_does 161 = .ok (.iadd, 1) := by decide +kernel
theorem dX9_does_162 : decode cX9_does 162 = .ok (.iaload, 1) := by decide +kernel
theorem dX9_does_163 : decode cX9_does 163 = .ok (.invokevirtual 185, 3) := by decide +kernel
theorem dX9_does_166 : decode cX9_does 166 = .ok (.ireturn, 1) := by decide +kernel
theorem dX9_does_167 : decode cX9_does 167 = .ok (.aload_n 0, 1) := by decide +kernel
theorem dX9_does_168 : decode cX9_does 168 = .ok (.aload_n 0, 1) := by decide +kernel
theorem dX9_does_169 : decode cX9_does 169 = .ok (.getfield 29, 3) := by decide +kernel
theorem dX9_does_172 : decode cX9_does 172 = .ok (.iload_n 1, 1) := by decide +kernel
theorem dX9_does_173 : decode cX9_does 173 = .ok (.iconst 1, 1) := by decide +kernel
theorem dX9_does_174 : decode cX9_does 174 = .ok (.iadd, 1) := by decide +kernel
theorem dX9_does_175 : decode cX9_does 175 = .ok (.iaload, 1) := by decide +kernel
theorem dX9_does_176 : decode cX9_does 176 = .ok (.invokevirtual 189, 3) := by decide +kernel
theorem dX9_does_179 : decode cX9_does 179 = .ok (.ireturn, 1) := by decide +kernel
theorem dX9_carryOut_0 : decode cX9_carryOut 0 = .ok (.aload_n 0, 1) := by decide +kernel
theorem dX9_carryOut_1 : decode cX9_carryOut 1 = .ok (.invokevirtual 192, 3) := by decide +kernel
theorem dX9_carryOut_4 : decode cX9_carryOut 4 = .ok (.bipush (-6), 2) := by decide +kernel
theorem dX9_carryOut_6 : decode cX9_carryOut 6 = .ok (.if_icmp .eq 6, 3) := by decide +kernel
theorem dX9_carryOut_9 : decode cX9_carryOut 9 = .ok (.bipush (-3), 2) := by decide +kernel
theorem dX9_carryOut_11 : decode cX9_carryOut 11 = .ok (.ireturn, 1) := by decide +kernel
theorem dX9_carryOut_12 : decode cX9_carryOut 12 = .ok (.aload_n 0, 1) := by decide +kernel
theorem dX9_carryOut_13 : decode cX9_carryOut 13 = .ok (.invokevirtual 106, 3) := by decide +kernel
theorem dX9_carryOut_16 : decode cX9_carryOut 16 = .ok (.aload_n 0, 1) := by decide +kernel
theorem dX9_carryOut_17 : decode cX9_carryOut 17 = .ok (.iconst 0, 1) := by decide +kernel
theorem dX9_carryOut_18 : decode cX9_carryOut 18 = .ok (.putfield 146, 3) := by decide +kernel
theorem dX9_carryOut_21 : decode cX9_carryOut 21 = .ok (.aload_n 0, 1) := by decide +kernel
theorem dX9_carryOut_22 : decode cX9_carryOut 22 = .ok (.iconst 1, 1) := by decide +kernel
theorem dX9_carryOut_23 : decode cX9_carryOut 23 = .ok (.putfield 32, 3) := by decide +kernel
theorem dX9_carryOut_26 : decode cX9_carryOut 26 = .ok (.iconst 0, 1) := by decide +kernel
theorem dX9_carryOut_27 : decode cX9_carryOut 27 = .ok (.istore_n 1, 1) := by decide +kernel
theorem dX9_carryOut_28 : decode cX9_carryOut 28 = .ok (.iload_n 1, 1) := by decide +kernel
theorem dX9_carryOut_29 : decode cX9_carryOut 29 = .ok (.aload_n 0, 1) := by decide +kernel
theorem dX9_carryOut_30 : decode cX9_carryOut 30 = .ok (.getfield 166, 3) := by decide +kernel
theorem dX9_carryOut_33 : decode cX9_carryOut 33 = .ok (.if_icmp .ge 19, 3) := by decide +kernel
theorem dX9_carryOut_36 : decode cX9_carryOut 36 = .ok (.aload_n 0, 1) := by decide +kernel
theorem dX9_carryOut_37 : decode cX9_carryOut 37 = .ok (.iconst 4, 1) := by decide +kernel
theorem dX9_carryOut_38 : decode cX9_carryOut 38 = .ok (.iload_n 1, 1) := by decide +kernel
theorem dX9_carryOut_39 : decode cX9_carryOut 39 = .ok (.imul, 1) := by decide +kernel
theorem dX9_carryOut_40 : decode cX9_carryOut 40 = .ok (.invokevirtual 195, 3) := by decide +kernel
theorem dX9_carryOut_43 : decode cX9_carryOut 43 = .ok (.ifCond .lt 9, 3) := by decide +kernel
theorem dX9_carryOut_46 : decode cX9_carryOut 46 = .ok (.iinc 1 1, 3) := by decide +kernel
theorem dX9_carryOut_49 : decode cX9_carryOut 49 = .ok (.goto (-21), 3) := by decide +kernel
theorem dX9_carryOut_52 : decode cX9_carryOut 52 = .ok (.aload_n 0, 1) := by decide +kernel
theorem dX9_carryOut_53 : decode cX9_carryOut 53 = .ok (.iconst 0, 1) := by decide +kernel
theorem dX9_carryOut_54 : decode cX9_carryOut 54 = .ok (.putfield 32, 3) := by decide +kernel
theorem dX9_carryOut_57 : decode cX9_carryOut 57 = .ok (.iload_n 1, 1) := by decide +kernel
theorem dX9_carryOut_58 : decode cX9_carryOut 58 = .ok (.ireturn, 1) := by decide +kernel
theorem dX9_undo_0 : decode cX9_undo 0 = .ok (.aload_n 0, 1) := by decide +kernel
theorem dX9_undo_1 : decode cX9_undo 1 = .ok (.getfield 36, 3) := by decide +kernel
theorem dX9_undo_4 : decode cX9_undo 4 = .ok (.ifCond .ne 6, 3) := by decide +kernel
theorem dX9_undo_7 : decode cX9_undo 7 = .ok (.bipush (-5), 2) := by decide +kernel
theorem dX9_undo_9 : decode cX9_undo 9 = .ok (.ireturn, 1) := by decide +kernel
theorem dX9_undo_10 : decode cX9_undo 10 = .ok (.aload_n 0, 1) := by decide +kernel
theorem dX9_undo_11 : decode cX9_undo 11 = .ok (.dup, 1) := by decide +kernel
theorem dX9_undo_12 : decode cX9_undo 12 = .ok (.getfield 36, 3) := by decide +kernel
theorem dX9_undo_15 : decode cX9_undo 15 = .ok (.iconst 1, 1) := by decide +kernel
theorem dX9_undo_16 : decode cX9_undo 16 = .ok (.isub, 1) := by decide +kernel
theorem dX9_undo_17 : decode cX9_undo 17 = .ok (.putfield 36, 3) := by decide +kernel
theorem dX9_undo_20 : decode cX9_undo 20 = .ok (.iconst 0, 1) := by decide +kernel
theorem dX9_undo_21 : decode cX9_undo 21 = .ok (.istore_n 1, 1) := by decide +kernel
theorem dX9_undo_22 : decode cX9_undo 22 = .ok (.iload_n 1, 1) := by decide +kernel
theorem dX9_undo_23 : decode cX9_undo 23 = .ok (.sipush 1620, 3) := by decide +kernel
theorem dX9_undo_26 : decode cX9_undo 26 = .ok (.if_icmp .ge 30, 3) := by decide +kernel
theorem dX9_undo_29 : decode cX9_undo 29 = .ok (.aload_n 0, 1) := by decide +kernel
theorem dX9_undo_30 : decode cX9_undo 30 = .ok (.getfield 7, 3) := by decide +kernel
theorem dX9_undo_33 : decode cX9_undo 33 = .ok (.iload_n 1, 1) := by decide +kernel
theorem dX9_undo_34 : decode cX9_undo 34 = .ok (.aload_n 0, 1) := by decide +kernel
theorem dX9_undo_35 : decode cX9_undo 35 = .ok (.getfield 13, 3) := by decide +kernel
theorem dX9_undo_38 : decode cX9_undo 38 = .ok (.sipush 1620, 3) := by decide +kernel
theorem dX9_undo_41 : decode cX9_undo 41 = .ok (.aload_n 0, 1) := by decide +kernel
theorem dX9_undo_42 : decode cX9_undo 42 = .ok (.getfield 36, 3) := by decide +kernel
theorem dX9_undo_45 : decode cX9_undo 45 = .ok (.imul, 1) := by decide +kernel
theorem dX9_undo_46 : decode cX9_undo 46 = .ok (.iload_n 1, 1) := by decide +kernel
theorem dX9_undo_47 : decode cX9_undo 47 = .ok (.iadd, 1) := by decide +kernel
theorem dX9_undo_48 : decode cX9_undo 48 = .ok (.iaload, 1) := by decide +kernel
theorem dX9_undo_49 : decode cX9_undo 49 = .ok (.iastore, 1) := by decide +kernel
theorem dX9_undo_50 : decode cX9_undo 50 = .ok (.iinc 1 1, 3) := by decide +kernel
theorem dX9_undo_53 : decode cX9_undo 53 = .ok (.goto (-31), 3) := by decide +kernel
theorem dX9_undo_56 : decode cX9_undo 56 = .ok (.aload_n 0, 1) := by decide +kernel
theorem dX9_undo_57 : decode cX9_undo 57 = .ok (.getfield 36, 3) := by decide +kernel
theorem dX9_undo_60 : decode cX9_undo 60 = .ok (.ireturn, 1) := by decide +kernel
theorem dX9_save_0 : decode cX9_save 0 = .ok (.iload_n 1, 1) := by decide +kernel
theorem dX9_save_1 : decode cX9_save 1 = .ok (.iconst 0, 1) := by decide +kernel
theorem dX9_save_2 : decode cX9_save 2 = .ok (.iconst 1, 1) := by decide +kernel
theorem dX9_save_3 : decode cX9_save 3 = .ok (.invokestatic 40, 3) := by decide +kernel
theorem dX9_save_6 : decode cX9_save 6 = .ok (.ifCond .ne 6, 3) := by decide +kernel
theorem dX9_save_9 : decode cX9_save 9 = .ok (.bipush (-2), 2) := by decide +kernel
theorem dX9_save_11 : decode cX9_save 11 = .ok (.ireturn, 1) := by decide +kernel
theorem dX9_save_12 : decode cX9_save 12 = .ok (.aload_n 0, 1) := by decide +kernel
theorem dX9_save_13 : decode cX9_save 13 = .ok (.getfield 19, 3) := by decide +kernel
theorem dX9_save_16 : decode cX9_save 16 = .ok (.iload_n 1, 1) := by decide +kernel
theorem dX9_save_17 : decode cX9_save 17 = .ok (.iconst 1, 1) := by decide +kernel
theorem dX9_save_18 : decode cX9_save 18 = .ok (.bastore, 1) := by decide +kernel
theorem dX9_save_19 : decode cX9_save 19 = .ok (.iconst 0, 1) := by decide +kernel
theorem dX9_save_20 : decode cX9_save 20 = .ok (.istore_n 2, 1) := by decide +kernel
theorem dX9_save_21 : decode cX9_save 21 = .ok (.iload_n 2, 1) := by decide +kernel
theorem dX9_save_22 : decode cX9_save 22 = .ok (.sipush 1620, 3) := by decide +kernel
theorem dX9_save_25 : decode cX9_save 25 = .ok (.if_icmp .ge 27, 3) := by decide +kernel
theorem dX9_save_28 : decode cX9_save 28 = .ok (.aload_n 0, 1) := by decide +kernel
theorem dX9_save_29 : decode cX9_save 29 = .ok (.getfield 16, 3) := by decide +kernel
theorem dX9_save_32 : decode cX9_save 32 = .ok (.sipush 1620, 3) := by decide +kernel
theorem dX9_save_35 : decode cX9_save 35 = .ok (.iload_n 1, 1) := by decide +kernel
theorem dX9_save_36 : decode cX9_save 36 = .ok (.imul, 1) := by decide +kernel
theorem dX9_save_37 : decode cX9_save 37 = .ok (.iload_n 2, 1) := by decide +kernel
theorem dX9_save_38 : decode cX9_save 38 = .ok (.iadd, 1) := by decide +kernel
theorem dX9_save_39 : decode cX9_save 39 = .ok (.aload_n 0, 1) := by decide +kernel
theorem dX9_save_40 : decode cX9_save 40 = .ok (.getfield 7, 3) := by decide +kernel
theorem dX9_save_43 : decode cX9_save 43 = .ok (.iload_n 2, 1) := by decide +kernel
theorem dX9_save_44 : decode cX9_save 44 = .ok (.iaload, 1) := by decide +kernel
theorem dX9_save_45 : decode cX9_save 45 = .ok (.iastore, 1) := by decide +kernel
theorem dX9_save_46 : decode cX9_save 46 = .ok (.iinc 2 1, 3) := by decide +kernel
theorem dX9_save_49 : decode cX9_save 49 = .ok (.goto (-28), 3) := by decide +kernel
theorem dX9_save_52 : decode cX9_save 52 = .ok (.aload_n 0, 1) := by decide +kernel
theorem dX9_save_53 : decode cX9_save 53 = .ok (.getfield 7, 3) := by decide +kernel
theorem dX9_save_56 : decode cX9_save 56 = .ok (.iconst 5, 1) := by decide +kernel
theorem dX9_save_57 : decode cX9_save 57 = .ok (.iaload, 1) := by decide +kernel
theorem dX9_save_58 : decode cX9_save 58 = .ok (.ireturn, 1) := by decide +kernel
theorem dX9_restore_0 : decode cX9_restore 0 = .ok (.iload_n 1, 1) := by decide +kernel
theorem dX9_restore_1 : decode cX9_restore 1 = .ok (.iconst 0, 1) := by decide +kernel
theorem dX9_restore_2 : decode cX9_restore 2 = .ok (.iconst 1, 1) := by decide +kernel
theorem dX9_restore_3 : decode cX9_restore 3 = .ok (.invokestatic 40, 3) := by decide +kernel
theorem dX9_restore_6 : decode cX9_restore 6 = .ok (.ifCond .ne 6, 3) := by decide +kernel
theorem dX9_restore_9 : decode cX9_restore 9 = .ok (.bipush (-2), 2) := by decide +kernel
theorem dX9_restore_11 : decode cX9_restore 11 = .ok (.ireturn, 1) := by decide +kernel
theorem dX9_restore_12 : decode cX9_restore 12 = .ok (.aload_n 0, 1) := by decide +kernel
theorem dX9_restore_13 : decode cX9_restore 13 = .ok (.getfield 19, 3) := by decide +kernel
theorem dX9_restore_16 : decode cX9_restore 16 = .ok (.iload_n 1, 1) := by decide +kernel
theorem dX9_restore_17 : decode cX9_restore 17 = .ok (.baload, 1) := by decide +kernel
theorem dX9_restore_18 : decode cX9_restore 18 = .ok (.ifCond .ne 6, 3) := by decide +kernel
theorem dX9_restore_21 : decode cX9_restore 21 = .ok (.bipush (-5), 2) := by decide +kernel
theorem dX9_restore_23 : decode cX9_restore 23 = .ok (.ireturn, 1) := by decide +kernel
theorem dX9_restore_24 : decode cX9_restore 24 = .ok (.aload_n 0, 1) := by decide +kernel
theorem dX9_restore_25 : decode cX9_restore 25 = .ok (.invokevirtual 106, 3) := by decide +kernel
theorem dX9_restore_28 : decode cX9_restore 28 = .ok (.iconst 0, 1) := by decide +kernel
theorem dX9_restore_29 : decode cX9_restore 29 = .ok (.istore_n 2, 1) := by decide +kernel
theorem dX9_restore_30 : decode cX9_restore 30 = .ok (.iload_n 2, 1) := by decide +kernel
theorem dX9_restore_31 : decode cX9_restore 31 = .ok (.sipush 1620, 3) := by decide +kernel
theorem dX9_restore_34 : decode cX9_restore 34 = .ok (.if_icmp .ge 27, 3) := by decide +kernel
theorem dX9_restore_37 : decode cX9_restore 37 = .ok (.aload_n 0, 1) := by decide +kernel
theorem dX9_restore_38 : decode cX9_restore 38 = .ok (.getfield 7, 3) := by decide +kernel
theorem dX9_restore_41 : decode cX9_restore 41 = .ok (.iload_n 2, 1) := by decide +kernel
theorem dX9_restore_42 : decode cX9_restore 42 = .ok (.aload_n 0, 1) := by decide +kernel
theorem dX9_restore_43 : decode cX9_restore 43 = .ok (.getfield 16, 3) := by decide +kernel
theorem dX9_restore_46 : decode cX9_restore 46 = .ok (.sipush 1620, 3) := by decide +kernel
theorem dX9_restore_49 : decode cX9_restore 49 = .ok (.iload_n 1, 1) := by decide +kernel
theorem dX9_restore_50 : decode cX9_restore 50 = .ok (.imul, 1) := by decide +kernel
theorem dX9_restore_51 : decode cX9_restore 51 = .ok (.iload_n 2, 1) := by decide +kernel
theorem dX9_restore_52 : decode cX9_restore 52 = .ok (.iadd, 1) := by decide +kernel
theorem dX9_restore_53 : decode cX9_restore 53 = .ok (.iaload, 1) := by decide +kernel
theorem dX9_restore_54 : decode cX9_restore 54 = .ok (.iastore, 1) := by decide +kernel
theorem dX9_restore_55 : decode cX9_restore 55 = .ok (.iinc 2 1, 3) := by decide +kernel
theorem dX9_restore_58 : decode cX9_restore 58 = .ok (.goto (-28), 3) := by decide +kernel
theorem dX9_restore_61 : decode cX9_restore 61 = .ok (.aload_n 0, 1) := by decide +kernel
theorem dX9_restore_62 : decode cX9_restore 62 = .ok (.getfield 7, 3) := by decide +kernel
theorem dX9_restore_65 : decode cX9_restore 65 = .ok (.iconst 5, 1) := by decide +kernel
theorem dX9_restore_66 : decode cX9_restore 66 = .ok (.iaload, 1) := by decide +kernel
theorem dX9_restore_67 : decode cX9_restore 67 = .ok (.ireturn, 1) := by decide +kernel
theorem dJ9_abs_0f7a4_0 : decode cJ9_abs_0f7a4 0 = .ok (.iload_n 0, 1) := by decide +kernel
theorem dJ9_abs_0f7a4_1 : decode cJ9_abs_0f7a4 1 = .ok (.ifCond .ge 8, 3) := by decide +kernel
theorem dJ9_abs_0f7a4_4 : decode cJ9_abs_0f7a4 4 = .ok (.iload_n 0, 1) := by decide +kernel
theorem dJ9_abs_0f7a4_5 : decode cJ9_abs_0f7a4 5 = .ok (.ineg, 1) := by decide +kernel
theorem dJ9_abs_0f7a4_6 : decode cJ9_abs_0f7a4 6 = .ok (.goto 4, 3) := by decide +kernel
theorem dJ9_abs_0f7a4_9 : decode cJ9_abs_0f7a4 9 = .ok (.iload_n 0, 1) := by decide +kernel
theorem dJ9_abs_0f7a4_10 : decode cJ9_abs_0f7a4 10 = .ok (.ireturn, 1) := by decide +kernel
theorem dJ9_max_7cf53_0 : decode cJ9_max_7cf53 0 = .ok (.iload_n 0, 1) := by decide +kernel
theorem dJ9_max_7cf53_1 : decode cJ9_max_7cf53 1 = .ok (.iload_n 1, 1) := by decide +kernel
theorem dJ9_max_7cf53_2 : decode cJ9_max_7cf53 2 = .ok (.if_icmp .lt 7, 3) := by decide +kernel
theorem dJ9_max_7cf53_5 : decode cJ9_max_7cf53 5 = .ok (.iload_n 0, 1) := by decide +kernel
theorem dJ9_max_7cf53_6 : decode cJ9_max_7cf53 6 = .ok (.goto 4, 3) := by decide +kernel
theorem dJ9_max_7cf53_9 : decode cJ9_max_7cf53 9 = .ok (.iload_n 1, 1) := by decide +kernel
theorem dJ9_max_7cf53_10 : decode cJ9_max_7cf53 10 = .ok (.ireturn, 1) := by decide +kernel
theorem dJ9_min_7cf53_0 : decode cJ9_min_7cf53 0 = .ok (.iload_n 0, 1) := by decide +kernel
theorem dJ9_min_7cf53_1 : decode cJ9_min_7cf53 1 = .ok (.iload_n 1, 1) := by decide +kernel
theorem dJ9_min_7cf53_2 : decode cJ9_min_7cf53 2 = .ok (.if_icmp .gt 7, 3) := by decide +kernel
theorem dJ9_min_7cf53_5 : decode cJ9_min_7cf53 5 = .ok (.iload_n 0, 1) := by decide +kernel
theorem dJ9_min_7cf53_6 : decode cJ9_min_7cf53 6 = .ok (.goto 4, 3) := by decide +kernel
theorem dJ9_min_7cf53_9 : decode cJ9_min_7cf53 9 = .ok (.iload_n 1, 1) := by decide +kernel
theorem dJ9_min_7cf53_10 : decode cJ9_min_7cf53 10 = .ok (.ireturn, 1) := by decide +kernel
theorem dJ0_length_8abf5_0 : decode cJ0_length_8abf5 0 = .ok (.aload_n 0, 1) := by decide +kernel
theorem dJ0_length_8abf5_1 : decode cJ0_length_8abf5 1 = .ok (.getfield 9, 3) := by decide +kernel
theorem dJ0_length_8abf5_4 : decode cJ0_length_8abf5 4 = .ok (.arraylength, 1) := by decide +kernel
theorem dJ0_length_8abf5_5 : decode cJ0_length_8abf5 5 = .ok (.aload_n 0, 1) := by decide +kernel
theorem dJ0_length_8abf5_6 : decode cJ0_length_8abf5 6 = .ok (.invokevirtual 335, 3) := by decide +kernel
theorem dJ0_length_8abf5_9 : decode cJ0_length_8abf5 9 = .ok (.ishr, 1) := by decide +kernel
theorem dJ0_length_8abf5_10 : decode cJ0_length_8abf5 10 = .ok (.ireturn, 1) := by decide +kernel
theorem dJ0_isEmpty_aae02_0 : decode cJ0_isEmpty_aae02 0 = .ok (.aload_n 0, 1) := by decide +kernel
theorem dJ0_isEmpty_aae02_1 : decode cJ0_isEmpty_aae02 1 = .ok (.getfield 9, 3) := by decide +kernel
theorem dJ0_isEmpty_aae02_4 : decode cJ0_isEmpty_aae02 4 = .ok (.arraylength, 1) := by decide +kernel
theorem dJ0_isEmpty_aae02_5 : decode cJ0_isEmpty_aae02 5 = .ok (.ifCond .ne 7, 3) := by decide +kernel
theorem dJ0_isEmpty_aae02_8 : decode cJ0_isEmpty_aae02 8 = .ok (.iconst 1, 1) := by decide +kernel
theorem dJ0_isEmpty_aae02_9 : decode cJ0_isEmpty_aae02 9 = .ok (.goto 4, 3) := by decide +kernel
theorem dJ0_isEmpty_aae02_12 : decode cJ0_isEmpty_aae02 12 = .ok (.iconst 0, 1) := by decide +kernel
theorem dJ0_isEmpty_aae02_13 : decode cJ0_isEmpty_aae02 13 = .ok (.ireturn, 1) := by decide +kernel
theorem dJ0_charAt_5068e_0 : decode cJ0_charAt_5068e 0 = .ok (.aload_n 0, 1) := by decide +kernel
theorem dJ0_charAt_5068e_1 : decode cJ0_charAt_5068e 1 = .ok (.invokevirtual 492, 3) := by decide +kernel
theorem dJ0_charAt_5068e_4 : decode cJ0_charAt_5068e 4 = .ok (.ifCond .eq 12, 3) := by decide +kernel
theorem dJ0_charAt_5068e_7 : decode cJ0_charAt_5068e 7 = .ok (.aload_n 0, 1) := by decide +kernel
theorem dJ0_charAt_5068e_8 : decode cJ0_charAt_5068e 8 = .ok (.getfield 9, 3) := by decide +kernel
theorem dJ0_charAt_5068e_11 : decode cJ0_charAt_5068e 11 = .ok (.iload_n 1, 1) := by decide +kernel
theorem dJ0_charAt_5068e_12 : decode cJ0_charAt_5068e 12 = .ok (.invokestatic 495, 3) := by decide +kernel
theorem dJ0_charAt_5068e_15 : decode cJ0_charAt_5068e 15 = .ok (.ireturn, 1) := by decide +kernel
theorem dJ0_charAt_5068e_16 : decode cJ0_charAt_5068e 16 = .ok (.aload_n 0, 1) := by decide +kernel
theorem dJ0_charAt_5068e_17 : decode cJ0_charAt_5068e 17 = .ok (.getfield 9, 3) := by decide +kernel
theorem dJ0_charAt_5068e_20 : decode cJ0_charAt_5068e 20 = .ok (.iload_n 1, 1) := by decide +kernel
theorem dJ0_charAt_5068e_21 : decode cJ0_charAt_5068e 21 = .ok (.invokestatic 498, 3) := by decide +kernel
theorem dJ0_charAt_5068e_24 : decode cJ0_charAt_5068e 24 = .ok (.ireturn, 1) := by decide +kernel
theorem dJ0_coder_7d493_0 : decode cJ0_coder_7d493 0 = .ok (.getstatic 38, 3) := by decide +kernel
theorem dJ0_coder_7d493_3 : decode cJ0_coder_7d493 3 = .ok (.ifCond .eq 10, 3) := by decide +kernel
theorem dJ0_coder_7d493_6 : decode cJ0_coder_7d493 6 = .ok (.aload_n 0, 1) := by decide +kernel
theorem dJ0_coder_7d493_7 : decode cJ0_coder_7d493 7 = .ok (.getfield 15, 3) := by decide +kernel
theorem dJ0_coder_7d493_10 : decode cJ0_coder_7d493 10 = .ok (.goto 4, 3) := by decide +kernel
theorem dJ0_coder_7d493_13 : decode cJ0_coder_7d493 13 = .ok (.iconst 1, 1) := by decide +kernel
theorem dJ0_coder_7d493_14 : decode cJ0_coder_7d493 14 = .ok (.ireturn, 1) := by decide +kernel
theorem dJ0_isLatin1_aae02_0 : decode cJ0_isLatin1_aae02 0 = .ok (.getstatic 38, 3) := by decide +kernel
theorem dJ0_isLatin1_aae02_3 : decode cJ0_isLatin1_aae02 3 = .ok (.ifCond .eq 14, 3) := by decide +kernel
theorem dJ0_isLatin1_aae02_6 : decode cJ0_isLatin1_aae02 6 = .ok (.aload_n 0, 1) := by decide +kernel
theorem dJ0_isLatin1_aae02_7 : decode cJ0_isLatin1_aae02 7 = .ok (.getfield 15, 3) := by decide +kernel
theorem dJ0_isLatin1_aae02_10 : decode cJ0_isLatin1_aae02 10 = .ok (.ifCond .ne 7, 3) := by decide +kernel
theorem dJ0_isLatin1_aae02_13 : decode cJ0_isLatin1_aae02 13 = .ok (.iconst 1, 1) := by decide +kernel
theorem dJ0_isLatin1_aae02_14 : decode cJ0_isLatin1_aae02 14 = .ok (.goto 4, 3) := by decide +kernel
theorem dJ0_isLatin1_aae02_17 : decode cJ0_isLatin1_aae02 17 = .ok (.iconst 0, 1) := by decide +kernel
theorem dJ0_isLatin1_aae02_18 : decode cJ0_isLatin1_aae02 18 = .ok (.ireturn, 1) := by decide +kernel
theorem dJ0_checkIndex_df160_0 : decode cJ0_checkIndex_df160 0 = .ok (.iload_n 0, 1) := by decide +kernel
theorem dJ0_checkIndex_df160_1 : decode cJ0_checkIndex_df160 1 = .ok (.iload_n 1, 1) := by decide +kernel
theorem dJ0_checkIndex_df160_2 : decode cJ0_checkIndex_df160 2 = .ok (.getstatic 1053, 3) := by decide +kernel
theorem dJ0_checkIndex_df160_5 : decode cJ0_checkIndex_df160 5 = .ok (.invokestatic 1059, 3) := by decide +kernel
theorem dJ0_checkIndex_df160_8 : decode cJ0_checkIndex_df160 8 = .ok (.pop, 1) := by decide +kernel
theorem dJ0_checkIndex_df160_9 : decode cJ0_checkIndex_df160 9 = .ok (.return_, 1) := by decide +kernel
theorem dJ1_charAt_3b067_0 : decode cJ1_charAt_3b067 0 = .ok (.iload_n 1, 1) := by decide +kernel
theorem dJ1_charAt_3b067_1 : decode cJ1_charAt_3b067 1 = .ok (.aload_n 0, 1) := by decide +kernel
theorem dJ1_charAt_3b067_2 : decode cJ1_charAt_3b067 2 = .ok (.arraylength, 1) := by decide +kernel
theorem dJ1_charAt_3b067_3 : decode cJ1_charAt_3b067 3 = .ok (.invokestatic 9, 3) := by decide +kernel
theorem dJ1_charAt_3b067_6 : decode cJ1_charAt_3b067 6 = .ok (.aload_n 0, 1) := by decide +kernel
theorem dJ1_charAt_3b067_7 : decode cJ1_charAt_3b067 7 = .ok (.iload_n 1, 1) := by decide +kernel
theorem dJ1_charAt_3b067_8 : decode cJ1_charAt_3b067 8 = .ok (.baload, 1) := by decide +kernel
theorem dJ1_charAt_3b067_9 : decode cJ1_charAt_3b067 9 = .ok (.sipush 255, 3) := by decide +kernel
theorem dJ1_charAt_3b067_12 : decode cJ1_charAt_3b067 12 = .ok (.iand, 1) := by decide +kernel
theorem dJ1_charAt_3b067_13 : decode cJ1_charAt_3b067 13 = .ok (.i2c, 1) := by decide +kernel
theorem dJ1_charAt_3b067_14 : decode cJ1_charAt_3b067 14 = .ok (.ireturn, 1) := by decide +kernel
theorem dJ2_getChar_3b067_0 : decode cJ2_getChar_3b067 0 = .ok (.getstatic 44, 3) := by decide +kernel
theorem dJ2_getChar_3b067_3 : decode cJ2_getChar_3b067 3 = .ok (.ifCond .ne 25, 3) := by decide +kernel
theorem dJ2_getChar_3b067_6 : decode cJ2_getChar_3b067 6 = .ok (.iload_n 1, 1) := by decide +kernel
theorem dJ2_getChar_3b067_7 : decode cJ2_getChar_3b067 7 = .ok (.ifCond .lt 11, 3) := by decide +kernel
theorem dJ2_getChar_3b067_10 : decode cJ2_getChar_3b067 10 = .ok (.iload_n 1, 1) := by decide +kernel
theorem dJ2_getChar_3b067_11 : decode cJ2_getChar_3b067 11 = .ok (.aload_n 0, 1) := by decide +kernel
theorem dJ2_getChar_3b067_12 : decode cJ2_getChar_3b067 12 = .ok (.invokestatic 48, 3) := by decide +kernel
theorem dJ2_getChar_3b067_15 : decode cJ2_getChar_3b067 15 = .ok (.if_icmp .lt 13, 3) := by decide +kernel
theorem dJ2_getChar_3b067_18 : decode cJ2_getChar_3b067 18 = .ok (.new 52, 3) := by decide +kernel
theorem dJ2_getChar_3b067_21 : decode cJ2_getChar_3b067 21 = .ok (.dup, 1) := by decide +kernel
theorem dJ2_getChar_3b067_22 : decode cJ2_getChar_3b067 22 = .ok (.ldc 54, 2) := by decide +kernel
theorem dJ2_getChar_3b067_24 : decode cJ2_getChar_3b067 24 = .ok (.invokespecial 56, 3) := by decide +kernel
theorem dJ2_getChar_3b067_27 : decode cJ2_getChar_3b067 27 = .ok (.athrow, 1) := by decide +kernel
theorem dJ2_getChar_3b067_28 : decode cJ2_getChar_3b067 28 = .ok (.iload_n 1, 1) := by decide +kernel
theorem dJ2_getChar_3b067_29 : decode cJ2_getChar_3b067 29 = .ok (.iconst 1, 1) := by decide +kernel
theorem dJ2_getChar_3b067_30 : decode cJ2_getChar_3b067 30 = .ok (.ishl, 1) := by decide +kernel
theorem dJ2_getChar_3b067_31 : decode cJ2_getChar_3b067 31 = .ok (.istore_n 1, 1) := by decide +kernel
theorem dJ2_getChar_3b067_32 : decode cJ2_getChar_3b067 32 = .ok (.aload_n 0, 1) := by decide +kernel
theorem dJ2_getChar_3b067_33 : decode cJ2_getChar_3b067 33 = .ok (.iload_n 1, 1) := by decide +kernel
theorem dJ2_getChar_3b067_34 : decode cJ2_getChar_3b067 34 = .ok (.iinc 1 1, 3) := by decide +kernel
theorem dJ2_getChar_3b067_37 : decode cJ2_getChar_3b067 37 = .ok (.baload, 1) := by decide +kernel
theorem dJ2_getChar_3b067_38 : decode cJ2_getChar_3b067 38 = .ok (.sipush 255, 3) := by decide +kernel
theorem dJ2_getChar_3b067_41 : decode cJ2_getChar_3b067 41 = .ok (.iand, 1) := by decide +kernel
theorem dJ2_getChar_3b067_42 : decode cJ2_getChar_3b067 42 = .ok (.getstatic 59, 3) := by decide +kernel
theorem dJ2_getChar_3b067_45 : decode cJ2_getChar_3b067 45 = .ok (.ishl, 1) := by decide +kernel
theorem dJ2_getChar_3b067_46 : decode cJ2_getChar_3b067 46 = .ok (.aload_n 0, 1) := by decide +kernel
theorem dJ2_getChar_3b067_47 : decode cJ2_getChar_3b067 47 = .ok (.iload_n 1, 1) := by decide +kernel
theorem dJ2_getChar_3b067_48 : decode cJ2_getChar_3b067 48 = .ok (.baload, 1) := by decide +kernel
theorem dJ2_getChar_3b067_49 : decode cJ2_getChar_3b067 49 = .ok (.sipush 255, 3) := by decide +kernel
theorem dJ2_getChar_3b067_52 : decode cJ2_getChar_3b067 52 = .ok (.iand, 1) := by decide +kernel
theorem dJ2_getChar_3b067_53 : decode cJ2_getChar_3b067 53 = .ok (.getstatic 63, 3) := by decide +kernel
theorem dJ2_getChar_3b067_56 : decode cJ2_getChar_3b067 56 = .ok (.ishl, 1) := by decide +kernel
theorem dJ2_getChar_3b067_57 : decode cJ2_getChar_3b067 57 = .ok (.ior, 1) := by decide +kernel
theorem dJ2_getChar_3b067_58 : decode cJ2_getChar_3b067 58 = .ok (.i2c, 1) := by decide +kernel
theorem dJ2_getChar_3b067_59 : decode cJ2_getChar_3b067 59 = .ok (.ireturn, 1) := by decide +kernel
theorem dJ2_length_9d52b_0 : decode cJ2_length_9d52b 0 = .ok (.aload_n 0, 1) := by decide +kernel
theorem dJ2_length_9d52b_1 : decode cJ2_length_9d52b 1 = .ok (.arraylength, 1) := by decide +kernel
theorem dJ2_length_9d52b_2 : decode cJ2_length_9d52b 2 = .ok (.iconst 1, 1) := by decide +kernel
theorem dJ2_length_9d52b_3 : decode cJ2_length_9d52b 3 = .ok (.ishr, 1) := by decide +kernel
theorem dJ2_length_9d52b_4 : decode cJ2_length_9d52b 4 = .ok (.ireturn, 1) := by decide +kernel
theorem dJ2_charAt_3b067_0 : decode cJ2_charAt_3b067 0 = .ok (.iload_n 1, 1) := by decide +kernel
theorem dJ2_charAt_3b067_1 : decode cJ2_charAt_3b067 1 = .ok (.aload_n 0, 1) := by decide +kernel
theorem dJ2_charAt_3b067_2 : decode cJ2_charAt_3b067 2 = .ok (.invokestatic 67, 3) := by decide +kernel
theorem dJ2_charAt_3b067_5 : decode cJ2_charAt_3b067 5 = .ok (.aload_n 0, 1) := by decide +kernel
theorem dJ2_charAt_3b067_6 : decode cJ2_charAt_3b067 6 = .ok (.iload_n 1, 1) := by decide +kernel
theorem dJ2_charAt_3b067_7 : decode cJ2_charAt_3b067 7 = .ok (.invokestatic 71, 3) := by decide +kernel
theorem dJ2_charAt_3b067_10 : decode cJ2_charAt_3b067 10 = .ok (.ireturn, 1) := by decide +kernel
theorem dJ2_checkIndex_2214a_0 : decode cJ2_checkIndex_2214a 0 = .ok (.iload_n 0, 1) := by decide +kernel
theorem dJ2_checkIndex_2214a_1 : decode cJ2_checkIndex_2214a 1 = .ok (.aload_n 1, 1) := by decide +kernel
theorem dJ2_checkIndex_2214a_2 : decode cJ2_checkIndex_2214a 2 = .ok (.invokestatic 48, 3) := by decide +kernel
theorem dJ2_checkIndex_2214a_5 : decode cJ2_checkIndex_2214a 5 = .ok (.invokestatic 414, 3) := by decide +kernel
theorem dJ2_checkIndex_2214a_8 : decode cJ2_checkIndex_2214a 8 = .ok (.return_, 1) := by decide +kernel
theorem dJ3_checkIndex_8e157_0 : decode cJ3_checkIndex_8e157 0 = .ok (.iload_n 0, 1) := by decide +kernel
theorem dJ3_checkIndex_8e157_1 : decode cJ3_checkIndex_8e157 1 = .ok (.ifCond .lt 8, 3) := by decide +kernel
theorem dJ3_checkIndex_8e157_4 : decode cJ3_checkIndex_8e157 4 = .ok (.iload_n 0, 1) := by decide +kernel
theorem dJ3_checkIndex_8e157_5 : decode cJ3_checkIndex_8e157 5 = .ok (.iload_n 1, 1) := by decide +kernel
theorem dJ3_checkIndex_8e157_6 : decode cJ3_checkIndex_8e157 6 = .ok (.if_icmp .lt 10, 3) := by decide +kernel
theorem dJ3_checkIndex_8e157_9 : decode cJ3_checkIndex_8e157 9 = .ok (.aload_n 2, 1) := by decide +kernel
theorem dJ3_checkIndex_8e157_10 : decode cJ3_checkIndex_8e157 10 = .ok (.iload_n 0, 1) := by decide +kernel
theorem dJ3_checkIndex_8e157_11 : decode cJ3_checkIndex_8e157 11 = .ok (.iload_n 1, 1) := by decide +kernel
theorem dJ3_checkIndex_8e157_12 : decode cJ3_checkIndex_8e157 12 = .ok (.invokestatic 95, 3) := by decide +kernel
theorem dJ3_checkIndex_8e157_15 : decode cJ3_checkIndex_8e157 15 = .ok (.athrow, 1) := by decide +kernel
theorem dJ3_checkIndex_8e157_16 : decode cJ3_checkIndex_8e157 16 = .ok (.iload_n 0, 1) := by decide +kernel
theorem dJ3_checkIndex_8e157_17 : decode cJ3_checkIndex_8e157 17 = .ok (.ireturn, 1) := by decide +kernel
theorem dL_law_0 : decode cL_law 0 = .ok (.new 7, 3) := by decide +kernel
theorem dL_law_3 : decode cL_law 3 = .ok (.dup, 1) := by decide +kernel
theorem dL_law_4 : decode cL_law 4 = .ok (.invokespecial 9, 3) := by decide +kernel
theorem dL_law_7 : decode cL_law 7 = .ok (.astore_n 1, 1) := by decide +kernel
theorem dL_law_8 : decode cL_law 8 = .ok (.new 10, 3) := by decide +kernel
theorem dL_law_11 : decode cL_law 11 = .ok (.dup, 1) := by decide +kernel
theorem dL_law_12 : decode cL_law 12 = .ok (.invokespecial 12, 3) := by decide +kernel
theorem dL_law_15 : decode cL_law 15 = .ok (.astore_n 2, 1) := by decide +kernel
theorem dL_law_16 : decode cL_law 16 = .ok (.iconst 0, 1) := by decide +kernel
theorem dL_law_17 : decode cL_law 17 = .ok (.istore_n 3, 1) := by decide +kernel
theorem dL_law_18 : decode cL_law 18 = .ok (.iload_n 3, 1) := by decide +kernel
theorem dL_law_19 : decode cL_law 19 = .ok (.aload_n 0, 1) := by decide +kernel
theorem dL_law_20 : decode cL_law 20 = .ok (.arraylength, 1) := by decide +kernel
theorem dL_law_21 : decode cL_law 21 = .ok (.iconst 5, 1) := by decide +kernel
theorem dL_law_22 : decode cL_law 22 = .ok (.isub, 1) := by decide +kernel
theorem dL_law_23 : decode cL_law 23 = .ok (.if_icmp .gt 890, 3) := by decide +kernel
theorem dL_law_26 : decode cL_law 26 = .ok (.aload_n 0, 1) := by decide +kernel
theorem dL_law_27 : decode cL_law 27 = .ok (.iload_n 3, 1) := by decide +kernel
theorem dL_law_28 : decode cL_law 28 = .ok (.iaload, 1) := by decide +kernel
theorem dL_law_29 : decode cL_law 29 = .ok (.bipush 31, 2) := by decide +kernel
theorem dL_law_31 : decode cL_law 31 = .ok (.iand, 1) := by decide +kernel
theorem dL_law_32 : decode cL_law 32 = .ok (.tableswitch 875 0 26 #[124, 157, 200, 253, 276, 309, 342, 355, 378, 411, 444, 487, 520, 553, 576, 599, 622, 645, 658, 691, 724, 777, 790, 803, 816, 829, 852], 124) := by decide +kernel
theorem dL_law_156 : decode cL_law 156 = .ok (.aload_n 1, 1) := by decide +kernel
theorem dL_law_157 : decode cL_law 157 = .ok (.aload_n 0, 1) := by decide +kernel
theorem dL_law_158 : decode cL_law 158 = .ok (.iload_n 3, 1) := by decide +kernel
theorem dL_law_159 : decode cL_law 159 = .ok (.iconst 1, 1) := by decide +kernel
theorem dL_law_160 : decode cL_law 160 = .ok (.iadd, 1) := by decide +kernel
theorem dL_law_161 : decode cL_law 161 = .ok (.iaload, 1) := by decide +kernel
theorem dL_law_162 : decode cL_law 162 = .ok (.aload_n 0, 1) := by decide +kernel
theorem dL_law_163 : decode cL_law 163 = .ok (.iload_n 3, 1) := by decide +kernel
theorem dL_law_164 : decode cL_law 164 = .ok (.iconst 2, 1) := by decide +kernel
theorem dL_law_165 : decode cL_law 165 = .ok (.iadd, 1) := by decide +kernel
theorem dL_law_166 : decode cL_law 166 = .ok (.iaload, 1) := by decide +kernel
theorem dL_law_167 : decode cL_law 167 = .ok (.invokevirtual 13, 3) := by decide +kernel
theorem dL_law_170 : decode cL_law 170 = .ok (.aload_n 2, 1) := by decide +kernel
theorem dL_law_171 : decode cL_law 171 = .ok (.aload_n 0, 1) := by decide +kernel
theorem dL_law_172 : decode cL_law 172 = .ok (.iload_n 3, 1) := by decide +kernel
theorem dL_law_173 : decode cL_law 173 = .ok (.iconst 1, 1) := by decide +kernel
theorem dL_law_174 : decode cL_law 174 = .ok (.iadd, 1) := by decide +kernel
theorem dL_law_175 : decode cL_law 175 = .ok (.iaload, 1) := by decide +kernel
theorem dL_law_176 : decode cL_law 176 = .ok (.aload_n 0, 1) := by decide +kernel
theorem dL_law_177 : decode cL_law 177 = .ok (.iload_n 3, 1) := by decide +kernel
theorem dL_law_178 : decode cL_law 178 = .ok (.iconst 2, 1) := by decide +kernel
theorem dL_law_179 : decode cL_law 179 = .ok (.iadd, 1) := by decide +kernel
theorem dL_law_180 : decode cL_law 180 = .ok (.iaload, 1) := by decide +kernel
theorem dL_law_181 : decode cL_law 181 = .ok (.invokevirtual 17, 3) := by decide +kernel
theorem dL_law_184 : decode cL_law 184 = .ok (.if_icmp .eq 723, 3) := by decide +kernel
theorem dL_law_187 : decode cL_law 187 = .ok (.iconst 0, 1) := by decide +kernel
theorem dL_law_188 : decode cL_law 188 = .ok (.ireturn, 1) := by decide +kernel
theorem dL_law_189 : decode cL_law 189 = .ok (.aload_n 1, 1) := by decide +kernel
theorem dL_law_190 : decode cL_law 190 = .ok (.aload_n 0, 1) := by decide +kernel
theorem dL_law_191 : decode cL_law 191 = .ok (.iload_n 3, 1) := by decide +kernel
theorem dL_law_192 : decode cL_law 192 = .ok (.iconst 1, 1) := by decide +kernel
theorem dL_law_193 : decode cL_law 193 = .ok (.iadd, 1) := by decide +kernel
theorem dL_law_194 : decode cL_law 194 = .ok (.iaload, 1) := by decide +kernel
theorem dL_law_195 : decode cL_law 195 = .ok (.aload_n 0, 1) := by decide +kernel
theorem dL_law_196 : decode cL_law 196 = .ok (.iload_n 3, 1) := by decide +kernel
theorem dL_law_197 : decode cL_law 197 = .ok (.iconst 2, 1) := by decide +kernel
theorem dL_law_198 : decode cL_law 198 = .ok (.iadd, 1) := by decide +kernel
theorem dL_law_199 : decode cL_law 199 = .ok (.iaload, 1) := by decide +kernel
theorem dL_law_200 : decode cL_law 200 = .ok (.aload_n 0, 1) := by decide +kernel
theorem dL_law_201 : decode cL_law 201 = .ok (.iload_n 3, 1) := by decide +kernel
theorem dL_law_202 : decode cL_law 202 = .ok (.iconst 3, 1) := by decide +kernel
theorem dL_law_203 : decode cL_law 203 = .ok (.iadd, 1) := by decide +kernel
theorem dL_law_204 : decode cL_law 204 = .ok (.iaload, 1) := by decide +kernel
theorem dL_law_205 : decode cL_law 205 = .ok (.invokevirtual 18, 3) := by decide +kernel
theorem dL_law_208 : decode cL_law 208 = .ok (.aload_n 2, 1) := by decide +kernel
theorem dL_law_209 : decode cL_law 209 = .ok (.aload_n 0, 1) := by decide +kernel
theorem dL_law_210 : decode cL_law 210 = .ok (.iload_n 3, 1) := by decide +kernel
theorem dL_law_211 : decode cL_law 211 = .ok (.iconst 1, 1) := by decide +kernel
theorem dL_law_212 : decode cL_law 212 = .ok (.iadd, 1) := by decide +kernel
theorem dL_law_213 : decode cL_law 213 = .ok (.iaload, 1) := by decide +kernel
theorem dL_law_214 : decode cL_law 214 = .ok (.aload_n 0, 1) := by decide +kernel
theorem dL_law_215 : decode cL_law 215 = .ok (.iload_n 3, 1) := by decide +kernel
theorem dL_law_216 : decode cL_law 216 = .ok (.iconst 2, 1) := by decide +kernel
theorem dL_law_217 : decode cL_law 217 = .ok (.iadd, 1) := by decide +kernel
theorem dL_law_218 : decode cL_law 218 = .ok (.iaload, 1) := by decide +kernel
theorem dL_law_219 : decode cL_law 219 = .ok (.aload_n 0, 1) := by decide +kernel
theorem dL_law_220 : decode cL_law 220 = .ok (.iload_n 3, 1) := by decide +kernel
theorem dL_law_221 : decode cL_law 221 = .ok (.iconst 3, 1) := by decide +kernel
theorem dL_law_222 : decode cL_law 222 = .ok (.iadd, 1) := by decide +kernel
theorem dL_law_223 : decode cL_law 223 = .ok (.iaload, 1) := by decide +kernel
theorem dL_law_224 : decode cL_law 224 = .ok (.invokevirtual 22, 3) := by decide +kernel
theorem dL_law_227 : decode cL_law 227 = .ok (.if_icmp .eq 680, 3) := by decide +kernel
theorem dL_law_230 : decode cL_law 230 = .ok (.iconst 0, 1) := by decide +kernel
theorem dL_law_231 : decode cL_law 231 = .ok (.ireturn, 1) := by decide +kernel
theorem dL_law_232 : decode cL_law 232 = .ok (.aload_n 1, 1) := by decide +kernel
theorem dL_law_233 : decode cL_law 233 = .ok (.aload_n 0, 1) := by decide +kernel
theorem dL_law_234 : decode cL_law 234 = .ok (.iload_n 3, 1) := by decide +kernel
theorem dL_law_235 : decode cL_law 235 = .ok (.iconst 1, 1) := by decide +kernel
theorem dL_law_236 : decode cL_law 236 = .ok (.iadd, 1) := by decide +kernel
theorem dL_law_237 : decode cL_law 237 = .ok (.iaload, 1) := by decide +kernel
theorem dL_law_238 : decode cL_law 238 = .ok (.aload_n 0, 1) := by decide +kernel
theorem dL_law_239 : decode cL_law 239 = .ok (.iload_n 3, 1) := by decide +kernel
theorem dL_law_240 : decode cL_law 240 = .ok (.iconst 2, 1) := by decide +kernel
theorem dL_law_241 : decode cL_law 241 = .ok (.iadd, 1) := by decide +kernel
theorem dL_law_242 : decode cL_law 242 = .ok (.iaload, 1) := by decide +kernel
theorem dL_law_243 : decode cL_law 243 = .ok (.aload_n 0, 1) := by decide +kernel
theorem dL_law_244 : decode cL_law 244 = .ok (.iload_n 3, 1) := by decide +kernel
theorem dL_law_245 : decode cL_law 245 = .ok (.iconst 3, 1) := by decide +kernel
theorem dL_law_246 : decode cL_law 246 = .ok (.iadd, 1) := by decide +kernel
theorem dL_law_247 : decode cL_law 247 = .ok (.iaload, 1) := by decide +kernel
theorem dL_law_248 : decode cL_law 248 = .ok (.aload_n 0, 1) := by decide +kernel
theorem dL_law_249 : decode cL_law 249 = .ok (.iload_n 3, 1) := by decide +kernel
theorem dL_law_250 : decode cL_law 250 = .ok (.iconst 4, 1) := by decide +kernel
theorem dL_law_251 : decode cL_law 251 = .ok (.iadd, 1) := by decide +kernel
theorem dL_law_252 : decode cL_law 252 = .ok (.iaload, 1) := by decide +kernel
theorem dL_law_253 : decode cL_law 253 = .ok (.invokevirtual 23, 3) := by decide +kernel
theorem dL_law_256 : decode cL_law 256 = .ok (.aload_n 2, 1) := by decide +kernel
theorem dL_law_257 : decode cL_law 257 = .ok (.aload_n 0, 1) := by decide +kernel
theorem dL_law_258 : decode cL_law 258 = .ok (.iload_n 3, 1) := by decide +kernel
theorem dL_law_259 : decode cL_law 259 = .ok (.iconst 1, 1) := by decide +kernel
theorem dL_law_260 : decode cL_law 260 = .ok (.iadd, 1) := by decide +kernel
theorem dL_law_261 : decode cL_law 261 = .ok (.iaload, 1) := by decide +kernel
theorem dL_law_262 : decode cL_law 262 = .ok (.aload_n 0, 1) := by decide +kernel
theorem dL_law_263 : decode cL_law 263 = .ok (.iload_n 3, 1) := by decide +kernel
theorem dL_law_264 : decode cL_law 264 = .ok (.iconst 2, 1) := by decide +kernel
theorem dL_law_265 : decode cL_law 265 = .ok (.iadd, 1) := by decide +kernel
theorem dL_law_266 : decode cL_law 266 = .ok (.iaload, 1) := by decide +kernel
theorem dL_law_267 : decode cL_law 267 = .ok (.aload_n 0, 1) := by decide +kernel
theorem dL_law_268 : decode cL_law 268 = .ok (.iload_n 3, 1) := by decide +kernel
theorem dL_law_269 : decode cL_law 269 = .ok (.iconst 3, 1) := by decide +kernel
theorem dL_law_270 : decode cL_law 270 = .ok (.iadd, 1) := by decide +kernel
theorem dL_law_271 : decode cL_law 271 = .ok (.iaload, 1) := by decide +kernel
theorem dL_law_272 : decode cL_law 272 = .ok (.aload_n 0, 1) := by decide +kernel
theorem dL_law_273 : decode cL_law 273 = .ok (.iload_n 3, 1) := by decide +kernel
theorem dL_law_274 : decode cL_law 274 = .ok (.iconst 4, 1) := by decide +kernel
theorem dL_law_275 : decode cL_law 275 = .ok (.iadd, 1) := by decide +kernel
theorem dL_law_276 : decode cL_law 276 = .ok (.iaload, 1) := by decide +kernel
theorem dL_law_277 : decode cL_law 277 = .ok (.invokevirtual 27, 3) := by decide +kernel
theorem dL_law_280 : decode cL_law 280 = .ok (.if_icmp .eq 627, 3) := by decide +kernel
theorem dL_law_283 : decode cL_law 283 = .ok (.iconst 0, 1) := by decide +kernel
theorem dL_law_284 : decode cL_law 284 = .ok (.ireturn, 1) := by decide +kernel
theorem dL_law_285 : decode cL_law 285 = .ok (.aload_n 1, 1) := by decide +kernel
theorem dL_law_286 : decode cL_law 286 = .ok (.aload_n 0, 1) := by decide +kernel
theorem dL_law_287 : decode cL_law 287 = .ok (.iload_n 3, 1) := by decide +kernel
theorem dL_law_288 : decode cL_law 288 = .ok (.iconst 1, 1) := by decide +kernel
theorem dL_law_289 : decode cL_law 289 = .ok (.iadd, 1) := by decide +kernel
theorem dL_law_290 : decode cL_law 290 = .ok (.iaload, 1) := by decide +kernel
theorem dL_law_291 : decode cL_law 291 = .ok (.invokevirtual 28, 3) := by decide +kernel
theorem dL_law_294 : decode cL_law 294 = .ok (.aload_n 2, 1) := by decide +kernel
theorem dL_law_295 : decode cL_law 295 = .ok (.aload_n 0, 1) := by decide +kernel
theorem dL_law_296 : decode cL_law 296 = .ok (.iload_n 3, 1) := by decide +kernel
theorem dL_law_297 : decode cL_law 297 = .ok (.iconst 1, 1) := by decide +kernel
theorem dL_law_298 : decode cL_law 298 = .ok (.iadd, 1) := by decide +kernel
theorem dL_law_299 : decode cL_law 299 = .ok (.iaload, 1) := by decide +kernel
theorem dL_law_300 : decode cL_law 300 = .ok (.invokevirtual 32, 3) := by decide +kernel
theorem dL_law_303 : decode cL_law 303 = .ok (.if_icmp .eq 604, 3) := by decide +kernel
theorem dL_law_306 : decode cL_law 306 = .ok (.iconst 0, 1) := by decide +kernel
theorem dL_law_307 : decode cL_law 307 = .ok (.ireturn, 1) := by decide +kernel
theorem dL_law_308 : decode cL_law 308 = .ok (.aload_n 1, 1) := by decide +kernel
theorem dL_law_309 : decode cL_law 309 = .ok (.aload_n 0, 1) := by decide +kernel
theorem dL_law_310 : decode cL_law 310 = .ok (.iload_n 3, 1) := by decide +kernel
theorem dL_law_311 : decode cL_law 311 = .ok (.iconst 1, 1) := by decide +kernel
theorem dL_law_312 : decode cL_law 312 = .ok (.iadd, 1) := by decide +kernel
theorem dL_law_313 : decode cL_law 313 = .ok (.iaload, 1) := by decide +kernel
theorem dL_law_314 : decode cL_law 314 = .ok (.aload_n 0, 1) := by decide +kernel
theorem dL_law_315 : decode cL_law 315 = .ok (.iload_n 3, 1) := by decide +kernel
theorem dL_law_316 : decode cL_law 316 = .ok (.iconst 2, 1) := by decide +kernel
theorem dL_law_317 : decode cL_law 317 = .ok (.iadd, 1) := by decide +kernel
theorem dL_law_318 : decode cL_law 318 = .ok (.iaload, 1) := by decide +kernel
theorem dL_law_319 : decode cL_law 319 = .ok (.invokevirtual 33, 3) := by decide +kernel
theorem dL_law_322 : decode cL_law 322 = .ok (.aload_n 2, 1) := by decide +kernel
theorem dL_law_323 : decode cL_law 323 = .ok (.aload_n 0, 1) := by decide +kernel
theorem dL_law_324 : decode cL_law 324 = .ok (.iload_n 3, 1) := by decide +kernel
theorem dL_law_325 : decode cL_law 325 = .ok (.iconst 1, 1) := by decide +kernel
theorem dL_law_326 : decode cL_law 326 = .ok (.iadd, 1) := by decide +kernel
theorem dL_law_327 : decode cL_law 327 = .ok (.iaload, 1) := by decide +kernel
theorem dL_law_328 : decode cL_law 328 = .ok (.aload_n 0, 1) := by decide +kernel
theorem dL_law_329 : decode cL_law 329 = .ok (.iload_n 3, 1) := by decide +kernel
theorem dL_law_330 : decode cL_law 330 = .ok (.iconst 2, 1) := by decide +kernel
theorem dL_law_331 : decode cL_law 331 = .ok (.iadd, 1) := by decide +kernel
theorem dL_law_332 : decode cL_law 332 = .ok (.iaload, 1) := by decide +kernel
theorem dL_law_333 : decode cL_law 333 = .ok (.invokevirtual 36, 3) := by decide +kernel
theorem dL_law_336 : decode cL_law 336 = .ok (.if_icmp .eq 571, 3) := by decide +kernel
theorem dL_law_339 : decode cL_law 339 = .ok (.iconst 0, 1) := by decide +kernel
theorem dL_law_340 : decode cL_law 340 = .ok (.ireturn, 1) := by decide +kernel
theorem dL_law_341 : decode cL_law 341 = .ok (.aload_n 1, 1) := by decide +kernel
theorem dL_law_342 : decode cL_law 342 = .ok (.aload_n 0, 1) := by decide +kernel
theorem dL_law_343 : decode cL_law 343 = .ok (.iload_n 3, 1) := by decide +kernel
theorem dL_law_344 : decode cL_law 344 = .ok (.iconst 1, 1) := by decide +kernel
theorem dL_law_345 : decode cL_law 345 = .ok (.iadd, 1) := by decide +kernel
theorem dL_law_346 : decode cL_law 346 = .ok (.iaload, 1) := by decide +kernel
theorem dL_law_347 : decode cL_law 347 = .ok (.aload_n 0, 1) := by decide +kernel
theorem dL_law_348 : decode cL_law 348 = .ok (.iload_n 3, 1) := by decide +kernel
theorem dL_law_349 : decode cL_law 349 = .ok (.iconst 2, 1) := by decide +kernel
theorem dL_law_350 : decode cL_law 350 = .ok (.iadd, 1) := by decide +kernel
theorem dL_law_351 : decode cL_law 351 = .ok (.iaload, 1) := by decide +kernel
theorem dL_law_352 : decode cL_law 352 = .ok (.invokevirtual 37, 3) := by decide +kernel
theorem dL_law_355 : decode cL_law 355 = .ok (.aload_n 2, 1) := by decide +kernel
theorem dL_law_356 : decode cL_law 356 = .ok (.aload_n 0, 1) := by decide +kernel
theorem dL_law_357 : decode cL_law 357 = .ok (.iload_n 3, 1) := by decide +kernel
theorem dL_law_358 : decode cL_law 358 = .ok (.iconst 1, 1) := by decide +kernel
theorem dL_law_359 : decode cL_law 359 = .ok (.iadd, 1) := by decide +kernel
theorem dL_law_360 : decode cL_law 360 = .ok (.iaload, 1) := by decide +kernel
theorem dL_law_361 : decode cL_law 361 = .ok (.aload_n 0, 1) := by decide +kernel
theorem dL_law_362 : decode cL_law 362 = .ok (.iload_n 3, 1) := by decide +kernel
theorem dL_law_363 : decode cL_law 363 = .ok (.iconst 2, 1) := by decide +kernel
theorem dL_law_364 : decode cL_law 364 = .ok (.iadd, 1) := by decide +kernel
theorem dL_law_365 : decode cL_law 365 = .ok (.iaload, 1) := by decide +kernel
theorem dL_law_366 : decode cL_law 366 = .ok (.invokevirtual 40, 3) := by decide +kernel
theorem dL_law_369 : decode cL_law 369 = .ok (.if_icmp .eq 538, 3) := by decide +kernel
theorem dL_law_372 : decode cL_law 372 = .ok (.iconst 0, 1) := by decide +kernel
theorem dL_law_373 : decode cL_law 373 = .ok (.ireturn, 1) := by decide +kernel
theorem dL_law_374 : decode cL_law 374 = .ok (.aload_n 1, 1) := by decide +kernel
theorem dL_law_375 : decode cL_law 375 = .ok (.invokevirtual 41, 3) := by decide +kernel
theorem dL_law_378 : decode cL_law 378 = .ok (.aload_n 2, 1) := by decide +kernel
theorem dL_law_379 : decode cL_law 379 = .ok (.invokevirtual 45, 3) := by decide +kernel
theorem dL_law_382 : decode cL_law 382 = .ok (.if_icmp .eq 525, 3) := by decide +kernel
theorem dL_law_385 : decode cL_law 385 = .ok (.iconst 0, 1) := by decide +kernel
theorem dL_law_386 : decode cL_law 386 = .ok (.ireturn, 1) := by decide +kernel
theorem dL_law_387 : decode cL_law 387 = .ok (.aload_n 1, 1) := by decide +kernel
theorem dL_law_388 : decode cL_law 388 = .ok (.aload_n 0, 1) := by decide +kernel
theorem dL_law_389 : decode cL_law 389 = .ok (.iload_n 3, 1) := by decide +kernel
theorem dL_law_390 : decode cL_law 390 = .ok (.iconst 1, 1) := by decide +kernel
theorem dL_law_391 : decode cL_law 391 = .ok (.iadd, 1) := by decide +kernel
theorem dL_law_392 : decode cL_law 392 = .ok (.iaload, 1) := by decide +kernel
theorem dL_law_393 : decode cL_law 393 = .ok (.invokevirtual 46, 3) := by decide +kernel
theorem dL_law_396 : decode cL_law 396 = .ok (.aload_n 2, 1) := by decide +kernel
theorem dL_law_397 : decode cL_law 397 = .ok (.aload_n 0, 1) := by decide +kernel
theorem dL_law_398 : decode cL_law 398 = .ok (.iload_n 3, 1) := by decide +kernel
theorem dL_law_399 : decode cL_law 399 = .ok (.iconst 1, 1) := by decide +kernel
theorem dL_law_400 : decode cL_law 400 = .ok (.iadd, 1) := by decide +kernel
theorem dL_law_401 : decode cL_law 401 = .ok (.iaload, 1) := by decide +kernel
theorem dL_law_402 : decode cL_law 402 = .ok (.invokevirtual 49, 3) := by decide +kernel
theorem dL_law_405 : decode cL_law 405 = .ok (.if_icmp .eq 502, 3) := by decide +kernel
theorem dL_law_408 : decode cL_law 408 = .ok (.iconst 0, 1) := by decide +kernel
theorem dL_law_409 : decode cL_law 409 = .ok (.ireturn, 1) := by decide +kernel
theorem dL_law_410 : decode cL_law 410 = .ok (.aload_n 1, 1) := by decide +kernel
theorem dL_law_411 : decode cL_law 411 = .ok (.aload_n 0, 1) := by decide +kernel
theorem dL_law_412 : decode cL_law 412 = .ok (.iload_n 3, 1) := by decide +kernel
theorem dL_law_413 : decode cL_law 413 = .ok (.iconst 1, 1) := by decide +kernel
theorem dL_law_414 : decode cL_law 414 = .ok (.iadd, 1) := by decide +kernel
theorem dL_law_415 : decode cL_law 415 = .ok (.iaload, 1) := by decide +kernel
theorem dL_law_416 : decode cL_law 416 = .ok (.aload_n 0, 1) := by decide +kernel
theorem dL_law_417 : decode cL_law 417 = .ok (.iload_n 3, 1) := by decide +kernel
theorem dL_law_418 : decode cL_law 418 = .ok (.iconst 2, 1) := by decide +kernel
theorem dL_law_419 : decode cL_law 419 = .ok (.iadd, 1) := by decide +kernel
theorem dL_law_420 : decode cL_law 420 = .ok (.iaload, 1) := by decide +kernel
theorem dL_law_421 : decode cL_law 421 = .ok (.invokevirtual 50, 3) := by decide +kernel
theorem dL_law_424 : decode cL_law 424 = .ok (.aload_n 2, 1) := by decide +kernel
theorem dL_law_425 : decode cL_law 425 = .ok (.aload_n 0, 1) := by decide +kernel
theorem dL_law_426 : decode cL_law 426 = .ok (.iload_n 3, 1) := by decide +kernel
theorem dL_law_427 : decode cL_law 427 = .ok (.iconst 1, 1) := by decide +kernel
theorem dL_law_428 : decode cL_law 428 = .ok (.iadd, 1) := by decide +kernel
theorem dL_law_429 : decode cL_law 429 = .ok (.iaload, 1) := by decide +kernel
theorem dL_law_430 : decode cL_law 430 = .ok (.aload_n 0, 1) := by decide +kernel
theorem dL_law_431 : decode cL_law 431 = .ok (.iload_n 3, 1) := by decide +kernel
theorem dL_law_432 : decode cL_law 432 = .ok (.iconst 2, 1) := by decide +kernel
theorem dL_law_433 : decode cL_law 433 = .ok (.iadd, 1) := by decide +kernel
theorem dL_law_434 : decode cL_law 434 = .ok (.iaload, 1) := by decide +kernel
theorem dL_law_435 : decode cL_law 435 = .ok (.invokevirtual 53, 3) := by decide +kernel
theorem dL_law_438 : decode cL_law 438 = .ok (.if_icmp .eq 469, 3) := by decide +kernel
theorem dL_law_441 : decode cL_law 441 = .ok (.iconst 0, 1) := by decide +kernel
theorem dL_law_442 : decode cL_law 442 = .ok (.ireturn, 1) := by decide +kernel
theorem dL_law_443 : decode cL_law 443 = .ok (.aload_n 1, 1) := by decide +kernel
theorem dL_law_444 : decode cL_law 444 = .ok (.aload_n 0, 1) := by decide +kernel
theorem dL_law_445 : decode cL_law 445 = .ok (.iload_n 3, 1) := by decide +kernel
theorem dL_law_446 : decode cL_law 446 = .ok (.iconst 1, 1) := by decide +kernel
theorem dL_law_447 : decode cL_law 447 = .ok (.iadd, 1) := by decide +kernel
theorem dL_law_448 : decode cL_law 448 = .ok (.iaload, 1) := by decide +kernel
theorem dL_law_449 : decode cL_law 449 = .ok (.aload_n 0, 1) := by decide +kernel
theorem dL_law_450 : decode cL_law 450 = .ok (.iload_n 3, 1) := by decide +kernel
theorem dL_law_451 : decode cL_law 451 = .ok (.iconst 2, 1) := by decide +kernel
theorem dL_law_452 : decode cL_law 452 = .ok (.iadd, 1) := by decide +kernel
theorem dL_law_453 : decode cL_law 453 = .ok (.iaload, 1) := by decide +kernel
theorem dL_law_454 : decode cL_law 454 = .ok (.invokevirtual 54, 3) := by decide +kernel
theorem dL_law_457 : decode cL_law 457 = .ok (.aload_n 2, 1) := by decide +kernel
theorem dL_law_458 : decode cL_law 458 = .ok (.aload_n 0, 1) := by decide +kernel
theorem dL_law_459 : decode cL_law 459 = .ok (.iload_n 3, 1) := by decide +kernel
theorem dL_law_460 : decode cL_law 460 = .ok (.iconst 1, 1) := by decide +kernel
theorem dL_law_461 : decode cL_law 461 = .ok (.iadd, 1) := by decide +kernel
theorem dL_law_462 : decode cL_law 462 = .ok (.iaload, 1) := by decide +kernel
theorem dL_law_463 : decode cL_law 463 = .ok (.aload_n 0, 1) := by decide +kernel
theorem dL_law_464 : decode cL_law 464 = .ok (.iload_n 3, 1) := by decide +kernel
theorem dL_law_465 : decode cL_law 465 = .ok (.iconst 2, 1) := by decide +kernel
theorem dL_law_466 : decode cL_law 466 = .ok (.iadd, 1) := by decide +kernel
theorem dL_law_467 : decode cL_law 467 = .ok (.iaload, 1) := by decide +kernel
theorem dL_law_468 : decode cL_law 468 = .ok (.invokevirtual 57, 3) := by decide +kernel
theorem dL_law_471 : decode cL_law 471 = .ok (.if_icmp .eq 436, 3) := by decide +kernel
theorem dL_law_474 : decode cL_law 474 = .ok (.iconst 0, 1) := by decide +kernel
theorem dL_law_475 : decode cL_law 475 = .ok (.ireturn, 1) := by decide +kernel
theorem dL_law_476 : decode cL_law 476 = .ok (.aload_n 1, 1) := by decide +kernel
theorem dL_law_477 : decode cL_law 477 = .ok (.aload_n 0, 1) := by decide +kernel
theorem dL_law_478 : decode cL_law 478 = .ok (.iload_n 3, 1) := by decide +kernel
theorem dL_law_479 : decode cL_law 479 = .ok (.iconst 1, 1) := by decide +kernel
theorem dL_law_480 : decode cL_law 480 = .ok (.iadd, 1) := by decide +kernel
theorem dL_law_481 : decode cL_law 481 = .ok (.iaload, 1) := by decide +kernel
theorem dL_law_482 : decode cL_law 482 = .ok (.aload_n 0, 1) := by decide +kernel
theorem dL_law_483 : decode cL_law 483 = .ok (.iload_n 3, 1) := by decide +kernel
theorem dL_law_484 : decode cL_law 484 = .ok (.iconst 2, 1) := by decide +kernel
theorem dL_law_485 : decode cL_law 485 = .ok (.iadd, 1) := by decide +kernel
theorem dL_law_486 : decode cL_law 486 = .ok (.iaload, 1) := by decide +kernel
theorem dL_law_487 : decode cL_law 487 = .ok (.aload_n 0, 1) := by decide +kernel
theorem dL_law_488 : decode cL_law 488 = .ok (.iload_n 3, 1) := by decide +kernel
theorem dL_law_489 : decode cL_law 489 = .ok (.iconst 3, 1) := by decide +kernel
theorem dL_law_490 : decode cL_law 490 = .ok (.iadd, 1) := by decide +kernel
theorem dL_law_491 : decode cL_law 491 = .ok (.iaload, 1) := by decide +kernel
theorem dL_law_492 : decode cL_law 492 = .ok (.invokevirtual 58, 3) := by decide +kernel
theorem dL_law_495 : decode cL_law 495 = .ok (.aload_n 2, 1) := by decide +kernel
theorem dL_law_496 : decode cL_law 496 = .ok (.aload_n 0, 1) := by decide +kernel
theorem dL_law_497 : decode cL_law 497 = .ok (.iload_n 3, 1) := by decide +kernel
theorem dL_law_498 : decode cL_law 498 = .ok (.iconst 1, 1) := by decide +kernel
theorem dL_law_499 : decode cL_law 499 = .ok (.iadd, 1) := by decide +kernel
theorem dL_law_500 : decode cL_law 500 = .ok (.iaload, 1) := by decide +kernel
theorem dL_law_501 : decode cL_law 501 = .ok (.aload_n 0, 1) := by decide +kernel
theorem dL_law_502 : decode cL_law 502 = .ok (.iload_n 3, 1) := by decide +kernel
theorem dL_law_503 : decode cL_law 503 = .ok (.iconst 2, 1) := by decide +kernel
theorem dL_law_504 : decode cL_law 504 = .ok (.iadd, 1) := by decide +kernel
theorem dL_law_505 : decode cL_law 505 = .ok (.iaload, 1) := by decide +kernel
theorem dL_law_506 : decode cL_law 506 = .ok (.aload_n 0, 1) := by decide +kernel
theorem dL_law_507 : decode cL_law 507 = .ok (.iload_n 3, 1) := by decide +kernel
theorem dL_law_508 : decode cL_law 508 = .ok (.iconst 3, 1) := by decide +kernel
theorem dL_law_509 : decode cL_law 509 = .ok (.iadd, 1) := by decide +kernel
theorem dL_law_510 : decode cL_law 510 = .ok (.iaload, 1) := by decide +kernel
theorem dL_law_511 : decode cL_law 511 = .ok (.invokevirtual 61, 3) := by decide +kernel
theorem dL_law_514 : decode cL_law 514 = .ok (.if_icmp .eq 393, 3) := by decide +kernel
theorem dL_law_517 : decode cL_law 517 = .ok (.iconst 0, 1) := by decide +kernel
theorem dL_law_518 : decode cL_law 518 = .ok (.ireturn, 1) := by decide +kernel
theorem dL_law_519 : decode cL_law 519 = .ok (.aload_n 1, 1) := by decide +kernel
theorem dL_law_520 : decode cL_law 520 = .ok (.aload_n 0, 1) := by decide +kernel
theorem dL_law_521 : decode cL_law 521 = .ok (.iload_n 3, 1) := by decide +kernel
theorem dL_law_522 : decode cL_law 522 = .ok (.iconst 1, 1) := by decide +kernel
theorem dL_law_523 : decode cL_law 523 = .ok (.iadd, 1) := by decide +kernel
theorem dL_law_524 : decode cL_law 524 = .ok (.iaload, 1) := by decide +kernel
theorem dL_law_525 : decode cL_law 525 = .ok (.aload_n 0, 1) := by decide +kernel
theorem dL_law_526 : decode cL_law 526 = .ok (.iload_n 3, 1) := by decide +kernel
theorem dL_law_527 : decode cL_law 527 = .ok (.iconst 2, 1) := by decide +kernel
theorem dL_law_528 : decode cL_law 528 = .ok (.iadd, 1) := by decide +kernel
theorem dL_law_529 : decode cL_law 529 = .ok (.iaload, 1) := by decide +kernel
theorem dL_law_530 : decode cL_law 530 = .ok (.invokevirtual 62, 3) := by decide +kernel
theorem dL_law_533 : decode cL_law 533 = .ok (.aload_n 2, 1) := by decide +kernel
theorem dL_law_534 : decode cL_law 534 = .ok (.aload_n 0, 1) := by decide +kernel
theorem dL_law_535 : decode cL_law 535 = .ok (.iload_n 3, 1) := by decide +kernel
theorem dL_law_536 : decode cL_law 536 = .ok (.iconst 1, 1) := by decide +kernel
theorem dL_law_537 : decode cL_law 537 = .ok (.iadd, 1) := by decide +kernel
theorem dL_law_538 : decode cL_law 538 = .ok (.iaload, 1) := by decide +kernel
theorem dL_law_539 : decode cL_law 539 = .ok (.aload_n 0, 1) := by decide +kernel
theorem dL_law_540 : decode cL_law 540 = .ok (.iload_n 3, 1) := by decide +kernel
theorem dL_law_541 : decode cL_law 541 = .ok (.iconst 2, 1) := by decide +kernel
theorem dL_law_542 : decode cL_law 542 = .ok (.iadd, 1) := by decide +kernel
theorem dL_law_543 : decode cL_law 543 = .ok (.iaload, 1) := by decide +kernel
theorem dL_law_544 : decode cL_law 544 = .ok (.invokevirtual 65, 3) := by decide +kernel
theorem dL_law_547 : decode cL_law 547 = .ok (.if_icmp .eq 360, 3) := by decide +kernel
theorem dL_law_550 : decode cL_law 550 = .ok (.iconst 0, 1) := by decide +kernel
theorem dL_law_551 : decode cL_law 551 = .ok (.ireturn, 1) := by decide +kernel
theorem dL_law_552 : decode cL_law 552 = .ok (.aload_n 1, 1) := by decide +kernel
theorem dL_law_553 : decode cL_law 553 = .ok (.aload_n 0, 1) := by decide +kernel
theorem dL_law_554 : decode cL_law 554 = .ok (.iload_n 3, 1) := by decide +kernel
theorem dL_law_555 : decode cL_law 555 = .ok (.iconst 1, 1) := by decide +kernel
theorem dL_law_556 : decode cL_law 556 = .ok (.iadd, 1) := by decide +kernel
theorem dL_law_557 : decode cL_law 557 = .ok (.iaload, 1) := by decide +kernel
theorem dL_law_558 : decode cL_law 558 = .ok (.aload_n 0, 1) := by decide +kernel
theorem dL_law_559 : decode cL_law 559 = .ok (.iload_n 3, 1) := by decide +kernel
theorem dL_law_560 : decode cL_law 560 = .ok (.iconst 2, 1) := by decide +kernel
theorem dL_law_561 : decode cL_law 561 = .ok (.iadd, 1) := by decide +kernel
theorem dL_law_562 : decode cL_law 562 = .ok (.iaload, 1) := by decide +kernel
theorem dL_law_563 : decode cL_law 563 = .ok (.invokevirtual 66, 3) := by decide +kernel
theorem dL_law_566 : decode cL_law 566 = .ok (.aload_n 2, 1) := by decide +kernel
theorem dL_law_567 : decode cL_law 567 = .ok (.aload_n 0, 1) := by decide +kernel
theorem dL_law_568 : decode cL_law 568 = .ok (.iload_n 3, 1) := by decide +kernel
theorem dL_law_569 : decode cL_law 569 = .ok (.iconst 1, 1) := by decide +kernel
theorem dL_law_570 : decode cL_law 570 = .ok (.iadd, 1) := by decide +kernel
theorem dL_law_571 : decode cL_law 571 = .ok (.iaload, 1) := by decide +kernel
theorem dL_law_572 : decode cL_law 572 = .ok (.aload_n 0, 1) := by decide +kernel
theorem dL_law_573 : decode cL_law 573 = .ok (.iload_n 3, 1) := by decide +kernel
theorem dL_law_574 : decode cL_law 574 = .ok (.iconst 2, 1) := by decide +kernel
theorem dL_law_575 : decode cL_law 575 = .ok (.iadd, 1) := by decide +kernel
theorem dL_law_576 : decode cL_law 576 = .ok (.iaload, 1) := by decide +kernel
theorem dL_law_577 : decode cL_law 577 = .ok (.invokevirtual 69, 3) := by decide +kernel
theorem dL_law_580 : decode cL_law 580 = .ok (.if_icmp .eq 327, 3) := by decide +kernel
theorem dL_law_583 : decode cL_law 583 = .ok (.iconst 0, 1) := by decide +kernel
theorem dL_law_584 : decode cL_law 584 = .ok (.ireturn, 1) := by decide +kernel
theorem dL_law_585 : decode cL_law 585 = .ok (.aload_n 1, 1) := by decide +kernel
theorem dL_law_586 : decode cL_law 586 = .ok (.aload_n 0, 1) := by decide +kernel
theorem dL_law_587 : decode cL_law 587 = .ok (.iload_n 3, 1) := by decide +kernel
theorem dL_law_588 : decode cL_law 588 = .ok (.iconst 1, 1) := by decide +kernel
theorem dL_law_589 : decode cL_law 589 = .ok (.iadd, 1) := by decide +kernel
theorem dL_law_590 : decode cL_law 590 = .ok (.iaload, 1) := by decide +kernel
theorem dL_law_591 : decode cL_law 591 = .ok (.invokevirtual 70, 3) := by decide +kernel
theorem dL_law_594 : decode cL_law 594 = .ok (.aload_n 2, 1) := by decide +kernel
theorem dL_law_595 : decode cL_law 595 = .ok (.aload_n 0, 1) := by decide +kernel
theorem dL_law_596 : decode cL_law 596 = .ok (.iload_n 3, 1) := by decide +kernel
theorem dL_law_597 : decode cL_law 597 = .ok (.iconst 1, 1) := by decide +kernel
theorem dL_law_598 : decode cL_law 598 = .ok (.iadd, 1) := by decide +kernel
theorem dL_law_599 : decode cL_law 599 = .ok (.iaload, 1) := by decide +kernel
theorem dL_law_600 : decode cL_law 600 = .ok (.invokevirtual 73, 3) := by decide +kernel
theorem dL_law_603 : decode cL_law 603 = .ok (.if_icmp .eq 304, 3) := by decide +kernel
theorem dL_law_606 : decode cL_law 606 = .ok (.iconst 0, 1) := by decide +kernel
theorem dL_law_607 : decode cL_law 607 = .ok (.ireturn, 1) := by decide +kernel
theorem dL_law_608 : decode cL_law 608 = .ok (.aload_n 1, 1) := by decide +kernel
theorem dL_law_609 : decode cL_law 609 = .ok (.aload_n 0, 1) := by decide +kernel
theorem dL_law_610 : decode cL_law 610 = .ok (.iload_n 3, 1) := by decide +kernel
theorem dL_law_611 : decode cL_law 611 = .ok (.iconst 1, 1) := by decide +kernel
theorem dL_law_612 : decode cL_law 612 = .ok (.iadd, 1) := by decide +kernel
theorem dL_law_613 : decode cL_law 613 = .ok (.iaload, 1) := by decide +kernel
theorem dL_law_614 : decode cL_law 614 = .ok (.invokevirtual 74, 3) := by decide +kernel
theorem dL_law_617 : decode cL_law 617 = .ok (.aload_n 2, 1) := by decide +kernel
theorem dL_law_618 : decode cL_law 618 = .ok (.aload_n 0, 1) := by decide +kernel
theorem dL_law_619 : decode cL_law 619 = .ok (.iload_n 3, 1) := by decide +kernel
theorem dL_law_620 : decode cL_law 620 = .ok (.iconst 1, 1) := by decide +kernel
theorem dL_law_621 : decode cL_law 621 = .ok (.iadd, 1) := by decide +kernel
theorem dL_law_622 : decode cL_law 622 = .ok (.iaload, 1) := by decide +kernel
theorem dL_law_623 : decode cL_law 623 = .ok (.invokevirtual 77, 3) := by decide +kernel
theorem dL_law_626 : decode cL_law 626 = .ok (.if_icmp .eq 281, 3) := by decide +kernel
theorem dL_law_629 : decode cL_law 629 = .ok (.iconst 0, 1) := by decide +kernel
theorem dL_law_630 : decode cL_law 630 = .ok (.ireturn, 1) := by decide +kernel
theorem dL_law_631 : decode cL_law 631 = .ok (.aload_n 1, 1) := by decide +kernel
theorem dL_law_632 : decode cL_law 632 = .ok (.aload_n 0, 1) := by decide +kernel
theorem dL_law_633 : decode cL_law 633 = .ok (.iload_n 3, 1) := by decide +kernel
theorem dL_law_634 : decode cL_law 634 = .ok (.iconst 1, 1) := by decide +kernel
theorem dL_law_635 : decode cL_law 635 = .ok (.iadd, 1) := by decide +kernel
theorem dL_law_636 : decode cL_law 636 = .ok (.iaload, 1) := by decide +kernel
theorem dL_law_637 : decode cL_law 637 = .ok (.invokevirtual 78, 3) := by decide +kernel
theorem dL_law_640 : decode cL_law 640 = .ok (.aload_n 2, 1) := by decide +kernel
theorem dL_law_641 : decode cL_law 641 = .ok (.aload_n 0, 1) := by decide +kernel
theorem dL_law_642 : decode cL_law 642 = .ok (.iload_n 3, 1) := by decide +kernel
theorem dL_law_643 : decode cL_law 643 = .ok (.iconst 1, 1) := by decide +kernel
theorem dL_law_644 : decode cL_law 644 = .ok (.iadd, 1) := by decide +kernel
theorem dL_law_645 : decode cL_law 645 = .ok (.iaload, 1) := by decide +kernel
theorem dL_law_646 : decode cL_law 646 = .ok (.invokevirtual 81, 3) := by decide +kernel
theorem dL_law_649 : decode cL_law 649 = .ok (.if_icmp .eq 258, 3) := by decide +kernel
theorem dL_law_652 : decode cL_law 652 = .ok (.iconst 0, 1) := by decide +kernel
theorem dL_law_653 : decode cL_law 653 = .ok (.ireturn, 1) := by decide +kernel
theorem dL_law_654 : decode cL_law 654 = .ok (.aload_n 1, 1) := by decide +kernel
theorem dL_law_655 : decode cL_law 655 = .ok (.aload_n 0, 1) := by decide +kernel
theorem dL_law_656 : decode cL_law 656 = .ok (.iload_n 3, 1) := by decide +kernel
theorem dL_law_657 : decode cL_law 657 = .ok (.iconst 1, 1) := by decide +kernel
theorem dL_law_658 : decode cL_law 658 = .ok (.iadd, 1) := by decide +kernel
theorem dL_law_659 : decode cL_law 659 = .ok (.iaload, 1) := by decide +kernel
theorem dL_law_660 : decode cL_law 660 = .ok (.invokevirtual 82, 3) := by decide +kernel
theorem dL_law_663 : decode cL_law 663 = .ok (.aload_n 2, 1) := by decide +kernel
theorem dL_law_664 : decode cL_law 664 = .ok (.aload_n 0, 1) := by decide +kernel
theorem dL_law_665 : decode cL_law 665 = .ok (.iload_n 3, 1) := by decide +kernel
theorem dL_law_666 : decode cL_law 666 = .ok (.iconst 1, 1) := by decide +kernel
theorem dL_law_667 : decode cL_law 667 = .ok (.iadd, 1) := by decide +kernel
theorem dL_law_668 : decode cL_law 668 = .ok (.iaload, 1) := by decide +kernel
theorem dL_law_669 : decode cL_law 669 = .ok (.invokevirtual 85, 3) := by decide +kernel
theorem dL_law_672 : decode cL_law 672 = .ok (.if_icmp .eq 235, 3) := by decide +kernel
theorem dL_law_675 : decode cL_law 675 = .ok (.iconst 0, 1) := by decide +kernel
theorem dL_law_676 : decode cL_law 676 = .ok (.ireturn, 1) := by decide +kernel
theorem dL_law_677 : decode cL_law 677 = .ok (.aload_n 1, 1) := by decide +kernel
theorem dL_law_678 : decode cL_law 678 = .ok (.invokevirtual 86, 3) := by decide +kernel
theorem dL_law_681 : decode cL_law 681 = .ok (.aload_n 2, 1) := by decide +kernel
theorem dL_law_682 : decode cL_law 682 = .ok (.invokevirtual 89, 3) := by decide +kernel
theorem dL_law_685 : decode cL_law 685 = .ok (.if_icmp .eq 222, 3) := by decide +kernel
theorem dL_law_688 : decode cL_law 688 = .ok (.iconst 0, 1) := by decide +kernel
theorem dL_law_689 : decode cL_law 689 = .ok (.ireturn, 1) := by decide +kernel
theorem dL_law_690 : decode cL_law 690 = .ok (.aload_n 1, 1) := by decide +kernel
theorem dL_law_691 : decode cL_law 691 = .ok (.aload_n 0, 1) := by decide +kernel
theorem dL_law_692 : decode cL_law 692 = .ok (.iload_n 3, 1) := by decide +kernel
theorem dL_law_693 : decode cL_law 693 = .ok (.iconst 1, 1) := by decide +kernel
theorem dL_law_694 : decode cL_law 694 = .ok (.iadd, 1) := by decide +kernel
theorem dL_law_695 : decode cL_law 695 = .ok (.iaload, 1) := by decide +kernel
theorem dL_law_696 : decode cL_law 696 = .ok (.aload_n 0, 1) := by decide +kernel
theorem dL_law_697 : decode cL_law 697 = .ok (.iload_n 3, 1) := by decide +kernel
theorem dL_law_698 : decode cL_law 698 = .ok (.iconst 2, 1) := by decide +kernel
theorem dL_law_699 : decode cL_law 699 = .ok (.iadd, 1) := by decide +kernel
theorem dL_law_700 : decode cL_law 700 = .ok (.iaload, 1) := by decide +kernel
theorem dL_law_701 : decode cL_law 701 = .ok (.invokevirtual 90, 3) := by decide +kernel
theorem dL_law_704 : decode cL_law 704 = .ok (.aload_n 2, 1) := by decide +kernel
theorem dL_law_705 : decode cL_law 705 = .ok (.aload_n 0, 1) := by decide +kernel
theorem dL_law_706 : decode cL_law 706 = .ok (.iload_n 3, 1) := by decide +kernel
theorem dL_law_707 : decode cL_law 707 = .ok (.iconst 1, 1) := by decide +kernel
theorem dL_law_708 : decode cL_law 708 = .ok (.iadd, 1) := by decide +kernel
theorem dL_law_709 : decode cL_law 709 = .ok (.iaload, 1) := by decide +kernel
theorem dL_law_710 : decode cL_law 710 = .ok (.aload_n 0, 1) := by decide +kernel
theorem dL_law_711 : decode cL_law 711 = .ok (.iload_n 3, 1) := by decide +kernel
theorem dL_law_712 : decode cL_law 712 = .ok (.iconst 2, 1) := by decide +kernel
theorem dL_law_713 : decode cL_law 713 = .ok (.iadd, 1) := by decide +kernel
theorem dL_law_714 : decode cL_law 714 = .ok (.iaload, 1) := by decide +kernel
theorem dL_law_715 : decode cL_law 715 = .ok (.invokevirtual 93, 3) := by decide +kernel
theorem dL_law_718 : decode cL_law 718 = .ok (.if_icmp .eq 189, 3) := by decide +kernel
theorem dL_law_721 : decode cL_law 721 = .ok (.iconst 0, 1) := by decide +kernel
theorem dL_law_722 : decode cL_law 722 = .ok (.ireturn, 1) := by decide +kernel
theorem dL_law_723 : decode cL_law 723 = .ok (.aload_n 1, 1) := by decide +kernel
theorem dL_law_724 : decode cL_law 724 = .ok (.aload_n 0, 1) := by decide +kernel
theorem dL_law_725 : decode cL_law 725 = .ok (.iload_n 3, 1) := by decide +kernel
theorem dL_law_726 : decode cL_law 726 = .ok (.iconst 1, 1) := by decide +kernel
theorem dL_law_727 : decode cL_law 727 = .ok (.iadd, 1) := by decide +kernel
theorem dL_law_728 : decode cL_law 728 = .ok (.iaload, 1) := by decide +kernel
theorem dL_law_729 : decode cL_law 729 = .ok (.aload_n 0, 1) := by decide +kernel
theorem dL_law_730 : decode cL_law 730 = .ok (.iload_n 3, 1) := by decide +kernel
theorem dL_law_731 : decode cL_law 731 = .ok (.iconst 2, 1) := by decide +kernel
theorem dL_law_732 : decode cL_law 732 = .ok (.iadd, 1) := by decide +kernel
theorem dL_law_733 : decode cL_law 733 = .ok (.iaload, 1) := by decide +kernel
theorem dL_law_734 : decode cL_law 734 = .ok (.invokevirtual 94, 3) := by decide +kernel
theorem dL_law_737 : decode cL_law 737 = .ok (.aload_n 2, 1) := by decide +kernel
theorem dL_law_738 : decode cL_law 738 = .ok (.aload_n 0, 1) := by decide +kernel
theorem dL_law_739 : decode cL_law 739 = .ok (.iload_n 3, 1) := by decide +kernel
theorem dL_law_740 : decode cL_law 740 = .ok (.iconst 1, 1) := by decide +kernel
theorem dL_law_741 : decode cL_law 741 = .ok (.iadd, 1) := by decide +kernel
theorem dL_law_742 : decode cL_law 742 = .ok (.iaload, 1) := by decide +kernel
theorem dL_law_743 : decode cL_law 743 = .ok (.aload_n 0, 1) := by decide +kernel
theorem dL_law_744 : decode cL_law 744 = .ok (.iload_n 3, 1) := by decide +kernel
theorem dL_law_745 : decode cL_law 745 = .ok (.iconst 2, 1) := by decide +kernel
theorem dL_law_746 : decode cL_law 746 = .ok (.iadd, 1) := by decide +kernel
theorem dL_law_747 : decode cL_law 747 = .ok (.iaload, 1) := by decide +kernel
theorem dL_law_748 : decode cL_law 748 = .ok (.invokevirtual 97, 3) := by decide +kernel
theorem dL_law_751 : decode cL_law 751 = .ok (.if_icmp .eq 156, 3) := by decide +kernel
theorem dL_law_754 : decode cL_law 754 = .ok (.iconst 0, 1) := by decide +kernel
theorem dL_law_755 : decode cL_law 755 = .ok (.ireturn, 1) := by decide +kernel
theorem dL_law_756 : decode cL_law 756 = .ok (.aload_n 1, 1) := by decide +kernel
theorem dL_law_757 : decode cL_law 757 = .ok (.aload_n 0, 1) := by decide +kernel
theorem dL_law_758 : decode cL_law 758 = .ok (.iload_n 3, 1) := by decide +kernel
theorem dL_law_759 : decode cL_law 759 = .ok (.iconst 1, 1) := by decide +kernel
theorem dL_law_760 : decode cL_law 760 = .ok (.iadd, 1) := by decide +kernel
theorem dL_law_761 : decode cL_law 761 = .ok (.iaload, 1) := by decide +kernel
theorem dL_law_762 : decode cL_law 762 = .ok (.i2l, 1) := by decide +kernel
theorem dL_law_763 : decode cL_law 763 = .ok (.bipush 32, 2) := by decide +kernel
theorem dL_law_765 : decode cL_law 765 = .ok (.lshl, 1) := by decide +kernel
theorem dL_law_766 : decode cL_law 766 = .ok (.aload_n 0, 1) := by decide +kernel
theorem dL_law_767 : decode cL_law 767 = .ok (.iload_n 3, 1) := by decide +kernel
theorem dL_law_768 : decode cL_law 768 = .ok (.iconst 2, 1) := by decide +kernel
theorem dL_law_769 : decode cL_law 769 = .ok (.iadd, 1) := by decide +kernel
theorem dL_law_770 : decode cL_law 770 = .ok (.iaload, 1) := by decide +kernel
theorem dL_law_771 : decode cL_law 771 = .ok (.i2l, 1) := by decide +kernel
theorem dL_law_772 : decode cL_law 772 = .ok (.ldc2_w 98, 3) := by decide +kernel
theorem dL_law_775 : decode cL_law 775 = .ok (.land, 1) := by decide +kernel
theorem dL_law_776 : decode cL_law 776 = .ok (.lor, 1) := by decide +kernel
theorem dL_law_777 : decode cL_law 777 = .ok (.invokevirtual 100, 3) := by decide +kernel
theorem dL_law_780 : decode cL_law 780 = .ok (.aload_n 2, 1) := by decide +kernel
theorem dL_law_781 : decode cL_law 781 = .ok (.aload_n 0, 1) := by decide +kernel
theorem dL_law_782 : decode cL_law 782 = .ok (.iload_n 3, 1) := by decide +kernel
theorem dL_law_783 : decode cL_law 783 = .ok (.iconst 1, 1) := by decide +kernel
theorem dL_law_784 : decode cL_law 784 = .ok (.iadd, 1) := by decide +kernel
theorem dL_law_785 : decode cL_law 785 = .ok (.iaload, 1) := by decide +kernel
theorem dL_law_786 : decode cL_law 786 = .ok (.i2l, 1) := by decide +kernel
theorem dL_law_787 : decode cL_law 787 = .ok (.bipush 32, 2) := by decide +kernel
theorem dL_law_789 : decode cL_law 789 = .ok (.lshl, 1) := by decide +kernel
theorem dL_law_790 : decode cL_law 790 = .ok (.aload_n 0, 1) := by decide +kernel
theorem dL_law_791 : decode cL_law 791 = .ok (.iload_n 3, 1) := by decide +kernel
theorem dL_law_792 : decode cL_law 792 = .ok (.iconst 2, 1) := by decide +kernel
theorem dL_law_793 : decode cL_law 793 = .ok (.iadd, 1) := by decide +kernel
theorem dL_law_794 : decode cL_law 794 = .ok (.iaload, 1) := by decide +kernel
theorem dL_law_795 : decode cL_law 795 = .ok (.i2l, 1) := by decide +kernel
theorem dL_law_796 : decode cL_law 796 = .ok (.ldc2_w 98, 3) := by decide +kernel
theorem dL_law_799 : decode cL_law 799 = .ok (.land, 1) := by decide +kernel
theorem dL_law_800 : decode cL_law 800 = .ok (.lor, 1) := by decide +kernel
theorem dL_law_801 : decode cL_law 801 = .ok (.invokevirtual 104, 3) := by decide +kernel
theorem dL_law_804 : decode cL_law 804 = .ok (.if_icmp .eq 103, 3) := by decide +kernel
theorem dL_law_807 : decode cL_law 807 = .ok (.iconst 0, 1) := by decide +kernel
theorem dL_law_808 : decode cL_law 808 = .ok (.ireturn, 1) := by decide +kernel
theorem dL_law_809 : decode cL_law 809 = .ok (.aload_n 1, 1) := by decide +kernel
theorem dL_law_810 : decode cL_law 810 = .ok (.invokevirtual 105, 3) := by decide +kernel
theorem dL_law_813 : decode cL_law 813 = .ok (.aload_n 2, 1) := by decide +kernel
theorem dL_law_814 : decode cL_law 814 = .ok (.invokevirtual 108, 3) := by decide +kernel
theorem dL_law_817 : decode cL_law 817 = .ok (.if_icmp .eq 90, 3) := by decide +kernel
theorem dL_law_820 : decode cL_law 820 = .ok (.iconst 0, 1) := by decide +kernel
theorem dL_law_821 : decode cL_law 821 = .ok (.ireturn, 1) := by decide +kernel
theorem dL_law_822 : decode cL_law 822 = .ok (.aload_n 1, 1) := by decide +kernel
theorem dL_law_823 : decode cL_law 823 = .ok (.invokevirtual 109, 3) := by decide +kernel
theorem dL_law_826 : decode cL_law 826 = .ok (.aload_n 2, 1) := by decide +kernel
theorem dL_law_827 : decode cL_law 827 = .ok (.invokevirtual 112, 3) := by decide +kernel
theorem dL_law_830 : decode cL_law 830 = .ok (.if_icmp .eq 77, 3) := by decide +kernel
theorem dL_law_833 : decode cL_law 833 = .ok (.iconst 0, 1) := by decide +kernel
theorem dL_law_834 : decode cL_law 834 = .ok (.ireturn, 1) := by decide +kernel
theorem dL_law_835 : decode cL_law 835 = .ok (.aload_n 1, 1) := by decide +kernel
theorem dL_law_836 : decode cL_law 836 = .ok (.invokevirtual 113, 3) := by decide +kernel
theorem dL_law_839 : decode cL_law 839 = .ok (.aload_n 2, 1) := by decide +kernel
theorem dL_law_840 : decode cL_law 840 = .ok (.invokevirtual 116, 3) := by decide +kernel
theorem dL_law_843 : decode cL_law 843 = .ok (.if_icmp .eq 64, 3) := by decide +kernel
theorem dL_law_846 : decode cL_law 846 = .ok (.iconst 0, 1) := by decide +kernel
theorem dL_law_847 : decode cL_law 847 = .ok (.ireturn, 1) := by decide +kernel
theorem dL_law_848 : decode cL_law 848 = .ok (.aload_n 1, 1) := by decide +kernel
theorem dL_law_849 : decode cL_law 849 = .ok (.invokevirtual 117, 3) := by decide +kernel
theorem dL_law_852 : decode cL_law 852 = .ok (.aload_n 2, 1) := by decide +kernel
theorem dL_law_853 : decode cL_law 853 = .ok (.invokevirtual 120, 3) := by decide +kernel
theorem dL_law_856 : decode cL_law 856 = .ok (.if_icmp .eq 51, 3) := by decide +kernel
theorem dL_law_859 : decode cL_law 859 = .ok (.iconst 0, 1) := by decide +kernel
theorem dL_law_860 : decode cL_law 860 = .ok (.ireturn, 1) := by decide +kernel
theorem dL_law_861 : decode cL_law 861 = .ok (.aload_n 1, 1) := by decide +kernel
theorem dL_law_862 : decode cL_law 862 = .ok (.aload_n 0, 1) := by decide +kernel
theorem dL_law_863 : decode cL_law 863 = .ok (.iload_n 3, 1) := by decide +kernel
theorem dL_law_864 : decode cL_law 864 = .ok (.iconst 1, 1) := by decide +kernel
theorem dL_law_865 : decode cL_law 865 = .ok (.iadd, 1) := by decide +kernel
theorem dL_law_866 : decode cL_law 866 = .ok (.iaload, 1) := by decide +kernel
theorem dL_law_867 : decode cL_law 867 = .ok (.invokevirtual 121, 3) := by decide +kernel
theorem dL_law_870 : decode cL_law 870 = .ok (.aload_n 2, 1) := by decide +kernel
theorem dL_law_871 : decode cL_law 871 = .ok (.aload_n 0, 1) := by decide +kernel
theorem dL_law_872 : decode cL_law 872 = .ok (.iload_n 3, 1) := by decide +kernel
theorem dL_law_873 : decode cL_law 873 = .ok (.iconst 1, 1) := by decide +kernel
theorem dL_law_874 : decode cL_law 874 = .ok (.iadd, 1) := by decide +kernel
theorem dL_law_875 : decode cL_law 875 = .ok (.iaload, 1) := by decide +kernel
theorem dL_law_876 : decode cL_law 876 = .ok (.invokevirtual 124, 3) := by decide +kernel
theorem dL_law_879 : decode cL_law 879 = .ok (.if_icmp .eq 28, 3) := by decide +kernel
theorem dL_law_882 : decode cL_law 882 = .ok (.iconst 0, 1) := by decide +kernel
theorem dL_law_883 : decode cL_law 883 = .ok (.ireturn, 1) := by decide +kernel
theorem dL_law_884 : decode cL_law 884 = .ok (.aload_n 1, 1) := by decide +kernel
theorem dL_law_885 : decode cL_law 885 = .ok (.aload_n 0, 1) := by decide +kernel
theorem dL_law_886 : decode cL_law 886 = .ok (.iload_n 3, 1) := by decide +kernel
theorem dL_law_887 : decode cL_law 887 = .ok (.iconst 1, 1) := by decide +kernel
theorem dL_law_888 : decode cL_law 888 = .ok (.iadd, 1) := by decide +kernel
theorem dL_law_889 : decode cL_law 889 = .ok (.iaload, 1) := by decide +kernel
theorem dL_law_890 : decode cL_law 890 = .ok (.invokevirtual 125, 3) := by decide +kernel
theorem dL_law_893 : decode cL_law 893 = .ok (.aload_n 2, 1) := by decide +kernel
theorem dL_law_894 : decode cL_law 894 = .ok (.aload_n 0, 1) := by decide +kernel
theorem dL_law_895 : decode cL_law 895 = .ok (.iload_n 3, 1) := by decide +kernel
theorem dL_law_896 : decode cL_law 896 = .ok (.iconst 1, 1) := by decide +kernel
theorem dL_law_897 : decode cL_law 897 = .ok (.iadd, 1) := by decide +kernel
theorem dL_law_898 : decode cL_law 898 = .ok (.iaload, 1) := by decide +kernel
theorem dL_law_899 : decode cL_law 899 = .ok (.invokevirtual 128, 3) := by decide +kernel
theorem dL_law_902 : decode cL_law 902 = .ok (.if_icmp .eq 5, 3) := by decide +kernel
theorem dL_law_905 : decode cL_law 905 = .ok (.iconst 0, 1) := by decide +kernel
theorem dL_law_906 : decode cL_law 906 = .ok (.ireturn, 1) := by decide +kernel
theorem dL_law_907 : decode cL_law 907 = .ok (.iinc 3 5, 3) := by decide +kernel
theorem dL_law_910 : decode cL_law 910 = .ok (.goto (-892), 3) := by decide +kernel
theorem dL_law_913 : decode cL_law 913 = .ok (.iconst 1, 1) := by decide +kernel
theorem dL_law_914 : decode cL_law 914 = .ok (.ireturn, 1) := by decide +kernel
end
section
/-! the good words of the tables, and each that is used -/
def GT : List Cond := lw_tbl.filter goodWord
theorem gt_in {w : Cond} (h : w ∈ lw_tbl) (hg : goodWord w = true) : w ∈ GT := List.mem_filter.mpr ⟨h, hg⟩
theorem gt_tbl {w : Cond} (h : w ∈ GT) : w ∈ lw_tbl := (List.mem_filter.mp h).1
theorem gt_good {w : Cond} (h : w ∈ GT) : goodWord w = true := (List.mem_filter.mp h).2
theorem gt_GoodIn : GoodIn GT GT := fun w h => ⟨h, good_of_word (gt_good h)⟩
theorem gt_GoodInL : GoodIn lw_tbl GT := fun w h => ⟨gt_tbl h, good_of_word (gt_good h)⟩
theorem wd0 : Cond.code yX0_init cX0_init 1 none ∈ GT := gt_in (by decide +kernel) (by decide +kernel)
theorem wd1 : Cond.code yX8_nearer cX8_nearer 3 (some .int) ∈ GT := gt_in (by decide +kernel) (by decide +kernel)
theorem wd2 : Cond.code yX0_fade cX0_fade 2 none ∈ GT := gt_in (by decide +kernel) (by decide +kernel)
theorem wd3 : Cond.code yX1_init cX1_init 1 none ∈ GT := gt_in (by decide +kernel) (by decide +kernel)
theorem wd4 : Cond.code yX1_copyFrom cX1_copyFrom 2 none ∈ GT := gt_in (by decide +kernel) (by decide +kernel)
theorem wd5 : Cond.code yX2_init cX2_init 1 none ∈ GT := gt_in (by decide +kernel) (by decide +kernel)
theorem wd6 : Cond.code yX2_copyFrom cX2_copyFrom 2 none ∈ GT := gt_in (by decide +kernel) (by decide +kernel)
theorem wd7 : Cond.code yX2_slam cX2_slam 4 none ∈ GT := gt_in (by decide +kernel) (by decide +kernel)
theorem wd8 : Cond.code yX2_hearSecond cX2_hearSecond 3 none ∈ GT := gt_in (by decide +kernel) (by decide +kernel)
theorem wd9 : Cond.code yX2_countOn cX2_countOn 4 (some .int) ∈ GT := gt_in (by decide +kernel) (by decide +kernel)
theorem wd10 : Cond.code yX3_init cX3_init 1 none ∈ GT := gt_in (by decide +kernel) (by decide +kernel)
theorem wd11 : Cond.code yX3_countCharacters cX3_countCharacters 7 (some .int) ∈ GT := gt_in (by decide +kernel) (by decide +kernel)
theorem wd12 : Cond.code yX3_append cX3_append 5 (some .int) ∈ GT := gt_in (by decide +kernel) (by decide +kernel)
theorem wd13 : Cond.code yX3_characterAt cX3_characterAt 2 (some .char) ∈ GT := gt_in (by decide +kernel) (by decide +kernel)
theorem wd14 : Cond.code yX3_shapeOf cX3_shapeOf 1 (some (.object "java/lang/String")) ∈ GT := gt_in (by decide +kernel) (by decide +kernel)
theorem wd15 : Cond.code yJ0_isEmpty_aae02 cJ0_isEmpty_aae02 1 (some .boolean) ∈ GT := gt_in (by decide +kernel) (by decide +kernel)
theorem wd16 : Cond.code yJ0_coder_7d493 cJ0_coder_7d493 1 (some .byte) ∈ GT := gt_in (by decide +kernel) (by decide +kernel)
theorem wd17 : Cond.code yJ0_length_8abf5 cJ0_length_8abf5 1 (some .int) ∈ GT := gt_in (by decide +kernel) (by decide +kernel)
theorem wd18 : Cond.code yJ0_isLatin1_aae02 cJ0_isLatin1_aae02 1 (some .boolean) ∈ GT := gt_in (by decide +kernel) (by decide +kernel)
theorem wd19 : Cond.code yJ3_checkIndex_8e157 cJ3_checkIndex_8e157 3 (some .int) ∈ GT := gt_in (by decide +kernel) (by decide +kernel)
theorem wd20 : Cond.code yJ0_checkIndex_df160 cJ0_checkIndex_df160 2 none ∈ GT := gt_in (by decide +kernel) (by decide +kernel)
theorem wd21 : Cond.code yJ1_charAt_3b067 cJ1_charAt_3b067 2 (some .char) ∈ GT := gt_in (by decide +kernel) (by decide +kernel)
theorem wd22 : Cond.code yJ2_length_9d52b cJ2_length_9d52b 1 (some .int) ∈ GT := gt_in (by decide +kernel) (by decide +kernel)
theorem wd23 : Cond.code yJ2_checkIndex_2214a cJ2_checkIndex_2214a 2 none ∈ GT := gt_in (by decide +kernel) (by decide +kernel)
theorem wd24 : Cond.code yJ2_getChar_3b067 cJ2_getChar_3b067 2 (some .char) ∈ GT := gt_in (by decide +kernel) (by decide +kernel)
theorem wd25 : Cond.code yJ2_charAt_3b067 cJ2_charAt_3b067 2 (some .char) ∈ GT := gt_in (by decide +kernel) (by decide +kernel)
theorem wd26 : Cond.code yJ0_charAt_5068e cJ0_charAt_5068e 2 (some .char) ∈ GT := gt_in (by decide +kernel) (by decide +kernel)
theorem wd27 : Cond.code yX3_digitAt cX3_digitAt 3 (some .int) ∈ GT := gt_in (by decide +kernel) (by decide +kernel)
theorem wd28 : Cond.code yX3_readNumber cX3_readNumber 4 (some .boolean) ∈ GT := gt_in (by decide +kernel) (by decide +kernel)
theorem wd29 : Cond.code yX3_readPart cX3_readPart 2 (some .boolean) ∈ GT := gt_in (by decide +kernel) (by decide +kernel)
theorem wd30 : Cond.code yX3_readOrder cX3_readOrder 3 (some .boolean) ∈ GT := gt_in (by decide +kernel) (by decide +kernel)
theorem wd31 : Cond.code yX3_findFault cX3_findFault 2 (some .int) ∈ GT := gt_in (by decide +kernel) (by decide +kernel)
theorem wd32 : Cond.code yX6_init cX6_init 2 none ∈ GT := gt_in (by decide +kernel) (by decide +kernel)
theorem wd33 : Cond.code yX7_init cX7_init 1 none ∈ GT := gt_in (by decide +kernel) (by decide +kernel)
theorem wd34 : Cond.code yX5_init cX5_init 2 none ∈ GT := gt_in (by decide +kernel) (by decide +kernel)
theorem wd35 : Cond.code yX4_init cX4_init 2 none ∈ GT := gt_in (by decide +kernel) (by decide +kernel)
theorem wd36 : Cond.code yX6_copyFrom cX6_copyFrom 3 none ∈ GT := gt_in (by decide +kernel) (by decide +kernel)
theorem wd37 : Cond.code yX7_copyFrom cX7_copyFrom 2 none ∈ GT := gt_in (by decide +kernel) (by decide +kernel)
theorem wd38 : Cond.code yX5_copyFrom cX5_copyFrom 3 none ∈ GT := gt_in (by decide +kernel) (by decide +kernel)
theorem wd39 : Cond.code yX4_secondsHeard cX4_secondsHeard 1 (some .int) ∈ GT := gt_in (by decide +kernel) (by decide +kernel)
theorem wd40 : Cond.code yX4_copyFrom cX4_copyFrom 3 none ∈ GT := gt_in (by decide +kernel) (by decide +kernel)
theorem wd41 : Cond.code yX8_within cX8_within 3 (some .boolean) ∈ GT := gt_in (by decide +kernel) (by decide +kernel)
theorem wd42 : Cond.code yX4_changeSetting cX4_changeSetting 4 (some .int) ∈ GT := gt_in (by decide +kernel) (by decide +kernel)
theorem wd43 : Cond.code yX4_reelAt cX4_reelAt 2 (some (.object "RadioCues$Reel")) ∈ GT := gt_in (by decide +kernel) (by decide +kernel)
theorem wd44 : Cond.code yX5_soundNumbered cX5_soundNumbered 2 (some (.object "RadioCues$Sound")) ∈ GT := gt_in (by decide +kernel) (by decide +kernel)
theorem wd45 : Cond.code yX5_tapeLength cX5_tapeLength 2 (some .int) ∈ GT := gt_in (by decide +kernel) (by decide +kernel)
theorem wd46 : Cond.code yX5_appendSound cX5_appendSound 4 (some .int) ∈ GT := gt_in (by decide +kernel) (by decide +kernel)
theorem wd47 : Cond.code yX4_addSound cX4_addSound 5 (some .int) ∈ GT := gt_in (by decide +kernel) (by decide +kernel)
theorem wd48 : Cond.code yX4_soundAt cX4_soundAt 4 (some (.object "RadioCues$Sound")) ∈ GT := gt_in (by decide +kernel) (by decide +kernel)
theorem wd49 : Cond.code yX6_cueAt cX6_cueAt 2 (some (.object "RadioCues$Cue")) ∈ GT := gt_in (by decide +kernel) (by decide +kernel)
theorem wd50 : Cond.code yX6_sortLast cX6_sortLast 3 (some .int) ∈ GT := gt_in (by decide +kernel) (by decide +kernel)
theorem wd51 : Cond.code yX6_insertCue cX6_insertCue 6 (some .int) ∈ GT := gt_in (by decide +kernel) (by decide +kernel)
theorem wd52 : Cond.code yX4_addCue cX4_addCue 5 (some .int) ∈ GT := gt_in (by decide +kernel) (by decide +kernel)
theorem wd53 : Cond.code yX6_makeLast cX6_makeLast 4 none ∈ GT := gt_in (by decide +kernel) (by decide +kernel)
theorem wd54 : Cond.code yX4_moveCue cX4_moveCue 4 (some .int) ∈ GT := gt_in (by decide +kernel) (by decide +kernel)
theorem wd55 : Cond.code yX4_channelAt cX4_channelAt 2 (some (.object "RadioCues$Channel")) ∈ GT := gt_in (by decide +kernel) (by decide +kernel)
theorem wd56 : Cond.code yX4_putGoal cX4_putGoal 5 (some .int) ∈ GT := gt_in (by decide +kernel) (by decide +kernel)
theorem wd57 : Cond.code yX6_letAllCome cX6_letAllCome 2 none ∈ GT := gt_in (by decide +kernel) (by decide +kernel)
theorem wd58 : Cond.code yX5_rewind cX5_rewind 2 none ∈ GT := gt_in (by decide +kernel) (by decide +kernel)
theorem wd59 : Cond.code yX4_beginAnew cX4_beginAnew 3 (some .int) ∈ GT := gt_in (by decide +kernel) (by decide +kernel)
theorem wd60 : Cond.code yX6_countOf cX6_countOf 4 (some .int) ∈ GT := gt_in (by decide +kernel) (by decide +kernel)
theorem wd61 : Cond.code yX6_missedCues cX6_missedCues 1 (some .int) ∈ GT := gt_in (by decide +kernel) (by decide +kernel)
theorem wd62 : Cond.code yX4_callSound cX4_callSound 5 (some .int) ∈ GT := gt_in (by decide +kernel) (by decide +kernel)
theorem wd63 : Cond.code yX4_letCuesCome cX4_letCuesCome 3 none ∈ GT := gt_in (by decide +kernel) (by decide +kernel)
theorem wd64 : Cond.code yX4_heardOn cX4_heardOn 4 (some .int) ∈ GT := gt_in (by decide +kernel) (by decide +kernel)
theorem wd65 : Cond.code yX4_loudnessOfReels cX4_loudnessOfReels 4 (some .int) ∈ GT := gt_in (by decide +kernel) (by decide +kernel)
theorem wd66 : Cond.code yX4_loudnessOfDoors cX4_loudnessOfDoors 3 (some .int) ∈ GT := gt_in (by decide +kernel) (by decide +kernel)
theorem wd67 : Cond.code yX5_playSecond cX5_playSecond 1 none ∈ GT := gt_in (by decide +kernel) (by decide +kernel)
theorem wd68 : Cond.code yX6_nextFor cX6_nextFor 3 (some .int) ∈ GT := gt_in (by decide +kernel) (by decide +kernel)
theorem wd69 : Cond.code yX4_windReels cX4_windReels 4 none ∈ GT := gt_in (by decide +kernel) (by decide +kernel)
theorem wd70 : Cond.code yX4_runSecond cX4_runSecond 3 (some .int) ∈ GT := gt_in (by decide +kernel) (by decide +kernel)
theorem wd71 : Cond.code yX4_runSeconds cX4_runSeconds 4 (some .int) ∈ GT := gt_in (by decide +kernel) (by decide +kernel)
theorem wd72 : Cond.code yX6_anyToCome cX6_anyToCome 1 (some .boolean) ∈ GT := gt_in (by decide +kernel) (by decide +kernel)
theorem wd73 : Cond.code yX4_playingReels cX4_playingReels 3 (some .int) ∈ GT := gt_in (by decide +kernel) (by decide +kernel)
theorem wd74 : Cond.code yX4_goesOn cX4_goesOn 1 (some .boolean) ∈ GT := gt_in (by decide +kernel) (by decide +kernel)
theorem wd75 : Cond.code yX4_loudestSecond cX4_loudestSecond 4 (some .int) ∈ GT := gt_in (by decide +kernel) (by decide +kernel)
theorem wd76 : Cond.code yX4_tooLoudSeconds cX4_tooLoudSeconds 3 (some .int) ∈ GT := gt_in (by decide +kernel) (by decide +kernel)
theorem wd77 : Cond.code yX6_removeCue cX6_removeCue 3 (some .int) ∈ GT := gt_in (by decide +kernel) (by decide +kernel)
theorem wd78 : Cond.code yX8_init cX8_init 2 none ∈ GT := gt_in (by decide +kernel) (by decide +kernel)
theorem wd79 : Cond.code yX8_holdState cX8_holdState 1 none ∈ GT := gt_in (by decide +kernel) (by decide +kernel)
theorem wd80 : Cond.code yX8_dropOldestState cX8_dropOldestState 3 none ∈ GT := gt_in (by decide +kernel) (by decide +kernel)
theorem wd81 : Cond.code yX8_recorded cX8_recorded 2 (some .int) ∈ GT := gt_in (by decide +kernel) (by decide +kernel)
theorem wd82 : Cond.code yX8_set cX8_set 3 (some .int) ∈ GT := gt_in (by decide +kernel) (by decide +kernel)
theorem wd83 : Cond.code yX8_sound cX8_sound 4 (some .int) ∈ GT := gt_in (by decide +kernel) (by decide +kernel)
theorem wd84 : Cond.code yX8_cue cX8_cue 5 (some .int) ∈ GT := gt_in (by decide +kernel) (by decide +kernel)
theorem wd85 : Cond.code yX8_takeOut cX8_takeOut 2 (some .int) ∈ GT := gt_in (by decide +kernel) (by decide +kernel)
theorem wd86 : Cond.code yX8_move cX8_move 3 (some .int) ∈ GT := gt_in (by decide +kernel) (by decide +kernel)
theorem wd87 : Cond.code yX8_goal cX8_goal 3 (some .int) ∈ GT := gt_in (by decide +kernel) (by decide +kernel)
theorem wd88 : Cond.code yX8_begin cX8_begin 1 (some .int) ∈ GT := gt_in (by decide +kernel) (by decide +kernel)
theorem wd89 : Cond.code yX8_pass cX8_pass 2 (some .int) ∈ GT := gt_in (by decide +kernel) (by decide +kernel)
theorem wd90 : Cond.code yX8_ofCue cX8_ofCue 4 (some .int) ∈ GT := gt_in (by decide +kernel) (by decide +kernel)
theorem wd91 : Cond.code yX8_ofReel cX8_ofReel 4 (some .int) ∈ GT := gt_in (by decide +kernel) (by decide +kernel)
theorem wd92 : Cond.code yX8_ofSound cX8_ofSound 5 (some .int) ∈ GT := gt_in (by decide +kernel) (by decide +kernel)
theorem wd93 : Cond.code yX8_played cX8_played 6 (some .int) ∈ GT := gt_in (by decide +kernel) (by decide +kernel)
theorem wd94 : Cond.code yX8_ofChannel cX8_ofChannel 4 (some .int) ∈ GT := gt_in (by decide +kernel) (by decide +kernel)
theorem wd95 : Cond.code yX8_loud cX8_loud 2 (some .int) ∈ GT := gt_in (by decide +kernel) (by decide +kernel)
theorem wd96 : Cond.code yX8_count cX8_count 2 (some .int) ∈ GT := gt_in (by decide +kernel) (by decide +kernel)
theorem wd97 : Cond.code yX8_rest cX8_rest 9 (some .int) ∈ GT := gt_in (by decide +kernel) (by decide +kernel)
theorem wd98 : Cond.code yX8_missedInTrial cX8_missedInTrial 3 (some .int) ∈ GT := gt_in (by decide +kernel) (by decide +kernel)
theorem wd99 : Cond.code yX8_becomes cX8_becomes 3 (some .int) ∈ GT := gt_in (by decide +kernel) (by decide +kernel)
theorem wd100 : Cond.code yX8_missesWith cX8_missesWith 2 (some .boolean) ∈ GT := gt_in (by decide +kernel) (by decide +kernel)
theorem wd101 : Cond.code yX8_leastWind cX8_leastWind 4 (some .int) ∈ GT := gt_in (by decide +kernel) (by decide +kernel)
theorem wd102 : Cond.code yX8_ifMoved cX8_ifMoved 4 (some .int) ∈ GT := gt_in (by decide +kernel) (by decide +kernel)
theorem wd103 : Cond.code yX8_readyIn cX8_readyIn 8 (some .int) ∈ GT := gt_in (by decide +kernel) (by decide +kernel)
theorem wd104 : Cond.code yX8_put cX8_put 4 (some .int) ∈ GT := gt_in (by decide +kernel) (by decide +kernel)
theorem wd105 : Cond.code yX8_wipe cX8_wipe 2 (some .int) ∈ GT := gt_in (by decide +kernel) (by decide +kernel)
theorem wd106 : Cond.code yX8_fault cX8_fault 1 (some .int) ∈ GT := gt_in (by decide +kernel) (by decide +kernel)
theorem wd107 : Cond.code yX8_answerOfOrder cX8_answerOfOrder 2 (some .int) ∈ GT := gt_in (by decide +kernel) (by decide +kernel)
theorem wd108 : Cond.code yX8_carryOut cX8_carryOut 2 (some .int) ∈ GT := gt_in (by decide +kernel) (by decide +kernel)
theorem wd109 : Cond.code yX8_undo cX8_undo 2 (some .int) ∈ GT := gt_in (by decide +kernel) (by decide +kernel)
theorem wd110 : Cond.code yX8_save cX8_save 2 (some .int) ∈ GT := gt_in (by decide +kernel) (by decide +kernel)
theorem wd111 : Cond.code yX8_restore cX8_restore 2 (some .int) ∈ GT := gt_in (by decide +kernel) (by decide +kernel)
theorem wd112 : Cond.code yX9_init cX9_init 2 none ∈ GT := gt_in (by decide +kernel) (by decide +kernel)
theorem wd113 : Cond.code yX9_in cX9_in 3 (some .boolean) ∈ GT := gt_in (by decide +kernel) (by decide +kernel)
theorem wd114 : Cond.code yX9_changes cX9_changes 2 none ∈ GT := gt_in (by decide +kernel) (by decide +kernel)
theorem wd115 : Cond.code yX9_putsAside cX9_putsAside 2 none ∈ GT := gt_in (by decide +kernel) (by decide +kernel)
theorem wd116 : Cond.code yX9_putsBack cX9_putsBack 2 none ∈ GT := gt_in (by decide +kernel) (by decide +kernel)
theorem wd117 : Cond.code yX9_of cX9_of 3 (some .int) ∈ GT := gt_in (by decide +kernel) (by decide +kernel)
theorem wd118 : Cond.code yX9_lay cX9_lay 4 none ∈ GT := gt_in (by decide +kernel) (by decide +kernel)
theorem wd119 : Cond.code yX9_reel cX9_reel 3 (some .int) ∈ GT := gt_in (by decide +kernel) (by decide +kernel)
theorem wd120 : Cond.code yX9_turn cX9_turn 4 none ∈ GT := gt_in (by decide +kernel) (by decide +kernel)
theorem wd121 : Cond.code yX9_soundAt cX9_soundAt 2 (some .int) ∈ GT := gt_in (by decide +kernel) (by decide +kernel)
theorem wd122 : Cond.code yX9_isCue cX9_isCue 2 (some .boolean) ∈ GT := gt_in (by decide +kernel) (by decide +kernel)
theorem wd123 : Cond.code yX9_isReel cX9_isReel 1 (some .boolean) ∈ GT := gt_in (by decide +kernel) (by decide +kernel)
theorem wd124 : Cond.code yX9_isSound cX9_isSound 3 (some .boolean) ∈ GT := gt_in (by decide +kernel) (by decide +kernel)
theorem wd125 : Cond.code yX9_beginning cX9_beginning 5 (some .int) ∈ GT := gt_in (by decide +kernel) (by decide +kernel)
theorem wd126 : Cond.code yX9_starts cX9_starts 4 none ∈ GT := gt_in (by decide +kernel) (by decide +kernel)
theorem wd127 : Cond.code yX9_comes cX9_comes 5 (some .int) ∈ GT := gt_in (by decide +kernel) (by decide +kernel)
theorem wd128 : Cond.code yX9_nearer cX9_nearer 3 (some .int) ∈ GT := gt_in (by decide +kernel) (by decide +kernel)
theorem wd129 : Cond.code yX9_gives cX9_gives 3 (some .int) ∈ GT := gt_in (by decide +kernel) (by decide +kernel)
theorem wd130 : Cond.code yX9_heard cX9_heard 3 (some .int) ∈ GT := gt_in (by decide +kernel) (by decide +kernel)
theorem wd131 : Cond.code yX9_goesOn cX9_goesOn 2 none ∈ GT := gt_in (by decide +kernel) (by decide +kernel)
theorem wd132 : Cond.code yX9_fall cX9_fall 3 none ∈ GT := gt_in (by decide +kernel) (by decide +kernel)
theorem wd133 : Cond.code yX9_next cX9_next 3 (some .int) ∈ GT := gt_in (by decide +kernel) (by decide +kernel)
theorem wd134 : Cond.code yX9_winds cX9_winds 3 none ∈ GT := gt_in (by decide +kernel) (by decide +kernel)
theorem wd135 : Cond.code yX9_passes cX9_passes 4 (some .int) ∈ GT := gt_in (by decide +kernel) (by decide +kernel)
theorem wd136 : Cond.code yX9_least cX9_least 1 (some .int) ∈ GT := gt_in (by decide +kernel) (by decide +kernel)
theorem wd137 : Cond.code yX9_most cX9_most 1 (some .int) ∈ GT := gt_in (by decide +kernel) (by decide +kernel)
theorem wd138 : Cond.code yX9_set cX9_set 4 (some .int) ∈ GT := gt_in (by decide +kernel) (by decide +kernel)
theorem wd139 : Cond.code yX9_sound cX9_sound 6 (some .int) ∈ GT := gt_in (by decide +kernel) (by decide +kernel)
theorem wd140 : Cond.code yX9_opens cX9_opens 4 (some .int) ∈ GT := gt_in (by decide +kernel) (by decide +kernel)
theorem wd141 : Cond.code yX9_closes cX9_closes 3 none ∈ GT := gt_in (by decide +kernel) (by decide +kernel)
theorem wd142 : Cond.code yX9_cue cX9_cue 6 (some .int) ∈ GT := gt_in (by decide +kernel) (by decide +kernel)
theorem wd143 : Cond.code yX9_takeOut cX9_takeOut 2 (some .int) ∈ GT := gt_in (by decide +kernel) (by decide +kernel)
theorem wd144 : Cond.code yX9_whyNotMoved cX9_whyNotMoved 3 (some .int) ∈ GT := gt_in (by decide +kernel) (by decide +kernel)
theorem wd145 : Cond.code yX9_moves cX9_moves 7 (some .int) ∈ GT := gt_in (by decide +kernel) (by decide +kernel)
theorem wd146 : Cond.code yX9_move cX9_move 4 (some .int) ∈ GT := gt_in (by decide +kernel) (by decide +kernel)
theorem wd147 : Cond.code yX9_goal cX9_goal 4 (some .int) ∈ GT := gt_in (by decide +kernel) (by decide +kernel)
theorem wd148 : Cond.code yX9_begin cX9_begin 3 (some .int) ∈ GT := gt_in (by decide +kernel) (by decide +kernel)
theorem wd149 : Cond.code yX9_pass cX9_pass 4 (some .int) ∈ GT := gt_in (by decide +kernel) (by decide +kernel)
theorem wd150 : Cond.code yX9_ofCue cX9_ofCue 3 (some .int) ∈ GT := gt_in (by decide +kernel) (by decide +kernel)
theorem wd151 : Cond.code yX9_ofReel cX9_ofReel 3 (some .int) ∈ GT := gt_in (by decide +kernel) (by decide +kernel)
theorem wd152 : Cond.code yX9_ofSound cX9_ofSound 4 (some .int) ∈ GT := gt_in (by decide +kernel) (by decide +kernel)
theorem wd153 : Cond.code yX9_played cX9_played 4 (some .int) ∈ GT := gt_in (by decide +kernel) (by decide +kernel)
theorem wd154 : Cond.code yX9_doorsOn cX9_doorsOn 4 (some .int) ∈ GT := gt_in (by decide +kernel) (by decide +kernel)
theorem wd155 : Cond.code yX9_ofChannel cX9_ofChannel 3 (some .int) ∈ GT := gt_in (by decide +kernel) (by decide +kernel)
theorem wd156 : Cond.code yX9_loud cX9_loud 2 (some .int) ∈ GT := gt_in (by decide +kernel) (by decide +kernel)
theorem wd157 : Cond.code yX9_cuesThat cX9_cuesThat 4 (some .int) ∈ GT := gt_in (by decide +kernel) (by decide +kernel)
theorem wd158 : Cond.code yX9_loudest cX9_loudest 4 (some .int) ∈ GT := gt_in (by decide +kernel) (by decide +kernel)
theorem wd159 : Cond.code yX9_tooLoud cX9_tooLoud 4 (some .int) ∈ GT := gt_in (by decide +kernel) (by decide +kernel)
theorem wd160 : Cond.code yX9_playing cX9_playing 3 (some .int) ∈ GT := gt_in (by decide +kernel) (by decide +kernel)
theorem wd161 : Cond.code yX9_count cX9_count 2 (some .int) ∈ GT := gt_in (by decide +kernel) (by decide +kernel)
theorem wd162 : Cond.code yX9_playsRest cX9_playsRest 2 (some .int) ∈ GT := gt_in (by decide +kernel) (by decide +kernel)
theorem wd163 : Cond.code yX9_rest cX9_rest 8 (some .int) ∈ GT := gt_in (by decide +kernel) (by decide +kernel)
theorem wd164 : Cond.code yX9_becomes cX9_becomes 4 (some .int) ∈ GT := gt_in (by decide +kernel) (by decide +kernel)
theorem wd165 : Cond.code yX9_leastWind cX9_leastWind 3 (some .int) ∈ GT := gt_in (by decide +kernel) (by decide +kernel)
theorem wd166 : Cond.code yX9_ifMoved cX9_ifMoved 6 (some .int) ∈ GT := gt_in (by decide +kernel) (by decide +kernel)
theorem wd167 : Cond.code yX9_readyIn cX9_readyIn 5 (some .int) ∈ GT := gt_in (by decide +kernel) (by decide +kernel)
theorem wd168 : Cond.code yX9_put cX9_put 7 (some .int) ∈ GT := gt_in (by decide +kernel) (by decide +kernel)
theorem wd169 : Cond.code yX9_wipe cX9_wipe 2 (some .int) ∈ GT := gt_in (by decide +kernel) (by decide +kernel)
theorem wd170 : Cond.code yX9_isAt cX9_isAt 3 (some .boolean) ∈ GT := gt_in (by decide +kernel) (by decide +kernel)
theorem wd171 : Cond.code yX9_sign cX9_sign 3 (some .boolean) ∈ GT := gt_in (by decide +kernel) (by decide +kernel)
theorem wd172 : Cond.code yX9_digit cX9_digit 2 (some .boolean) ∈ GT := gt_in (by decide +kernel) (by decide +kernel)
theorem wd173 : Cond.code yX9_number cX9_number 3 (some .boolean) ∈ GT := gt_in (by decide +kernel) (by decide +kernel)
theorem wd174 : Cond.code yX9_reads cX9_reads 3 (some .boolean) ∈ GT := gt_in (by decide +kernel) (by decide +kernel)
theorem wd175 : Cond.code yX9_fault cX9_fault 2 (some .int) ∈ GT := gt_in (by decide +kernel) (by decide +kernel)
theorem wd176 : Cond.code yX9_does cX9_does 2 (some .int) ∈ GT := gt_in (by decide +kernel) (by decide +kernel)
theorem wd177 : Cond.code yX9_carryOut cX9_carryOut 2 (some .int) ∈ GT := gt_in (by decide +kernel) (by decide +kernel)
theorem wd178 : Cond.code yX9_undo cX9_undo 2 (some .int) ∈ GT := gt_in (by decide +kernel) (by decide +kernel)
theorem wd179 : Cond.code yX9_save cX9_save 3 (some .int) ∈ GT := gt_in (by decide +kernel) (by decide +kernel)
theorem wd180 : Cond.code yX9_restore cX9_restore 3 (some .int) ∈ GT := gt_in (by decide +kernel) (by decide +kernel)
theorem wd181 : Cond.code yJ9_abs_0f7a4 cJ9_abs_0f7a4 1 (some .int) ∈ GT := gt_in (by decide +kernel) (by decide +kernel)
theorem wd182 : Cond.code yJ9_max_7cf53 cJ9_max_7cf53 2 (some .int) ∈ GT := gt_in (by decide +kernel) (by decide +kernel)
theorem wd183 : Cond.code yJ9_min_7cf53 cJ9_min_7cf53 2 (some .int) ∈ GT := gt_in (by decide +kernel) (by decide +kernel)
theorem wd184 : Cond.methodLink RX0 3 objectInit ∈ GT := gt_in (by decide +kernel) (by decide +kernel)
theorem wd185 : Cond.instanceMethod objectInit ∈ GT := gt_in (by decide +kernel) (by decide +kernel)
theorem wd186 : Cond.code objectInit ⟨#[0xb1]⟩ 1 none ∈ GT := gt_in (by decide +kernel) (by decide +kernel)
theorem wd187 : Cond.fieldLink RX0 9 "RadioCues$Channel" "level" "I" ∈ GT := gt_in (by decide +kernel) (by decide +kernel)
theorem wd188 : Cond.fieldLink RX0 15 "RadioCues$Channel" "goal" "I" ∈ GT := gt_in (by decide +kernel) (by decide +kernel)
theorem wd189 : Cond.methodLink RX8 255 Lib.Math.min.name ∈ GT := gt_in (by decide +kernel) (by decide +kernel)
theorem wd190 : Cond.static Lib.Math.min.name ∈ GT := gt_in (by decide +kernel) (by decide +kernel)
theorem wd191 : Cond.initialized "java/lang/Math" ∈ GT := gt_in (by decide +kernel) (by decide +kernel)
theorem wd192 : Cond.code Lib.Math.min.name Lib.Math.min.code 2 (some .int) ∈ GT := gt_in (by decide +kernel) (by decide +kernel)
theorem wd193 : Cond.methodLink RX8 227 Lib.Math.max.name ∈ GT := gt_in (by decide +kernel) (by decide +kernel)
theorem wd194 : Cond.static Lib.Math.max.name ∈ GT := gt_in (by decide +kernel) (by decide +kernel)
theorem wd195 : Cond.code Lib.Math.max.name Lib.Math.max.code 2 (some .int) ∈ GT := gt_in (by decide +kernel) (by decide +kernel)
theorem wd196 : Cond.static yX8_nearer ∈ GT := gt_in (by decide +kernel) (by decide +kernel)
theorem wd197 : Cond.initialized RX8 ∈ GT := gt_in (by decide +kernel) (by decide +kernel)
theorem wd198 : Cond.methodLink RX1 1 objectInit ∈ GT := gt_in (by decide +kernel) (by decide +kernel)
theorem wd199 : Cond.fieldLink RX1 7 "RadioCues$Cue" "second" "I" ∈ GT := gt_in (by decide +kernel) (by decide +kernel)
theorem wd200 : Cond.fieldLink RX1 13 "RadioCues$Cue" "kind" "I" ∈ GT := gt_in (by decide +kernel) (by decide +kernel)
theorem wd201 : Cond.fieldLink RX1 16 "RadioCues$Cue" "where" "I" ∈ GT := gt_in (by decide +kernel) (by decide +kernel)
theorem wd202 : Cond.fieldLink RX1 19 "RadioCues$Cue" "value" "I" ∈ GT := gt_in (by decide +kernel) (by decide +kernel)
theorem wd203 : Cond.fieldLink RX1 22 "RadioCues$Cue" "fate" "I" ∈ GT := gt_in (by decide +kernel) (by decide +kernel)
theorem wd204 : Cond.methodLink RX2 3 objectInit ∈ GT := gt_in (by decide +kernel) (by decide +kernel)
theorem wd205 : Cond.arrayClass .int ∈ GT := gt_in (by decide +kernel) (by decide +kernel)
theorem wd206 : Cond.fieldLink RX2 9 "RadioCues$Doors" "channel" "[I" ∈ GT := gt_in (by decide +kernel) (by decide +kernel)
theorem wd207 : Cond.fieldLink RX2 15 "RadioCues$Doors" "loudness" "[I" ∈ GT := gt_in (by decide +kernel) (by decide +kernel)
theorem wd208 : Cond.fieldLink RX2 18 "RadioCues$Doors" "left" "[I" ∈ GT := gt_in (by decide +kernel) (by decide +kernel)
theorem wd209 : Cond.fieldLink RX2 21 "RadioCues$Doors" "count" "I" ∈ GT := gt_in (by decide +kernel) (by decide +kernel)
theorem wd210 : Cond.methodLink RX2 25 arraycopyName ∈ GT := gt_in (by decide +kernel) (by decide +kernel)
theorem wd211 : Cond.native arraycopyName ∈ GT := gt_in (by decide +kernel) (by decide +kernel)
theorem wd212 : Cond.static arraycopyName ∈ GT := gt_in (by decide +kernel) (by decide +kernel)
theorem wd213 : Cond.initialized "java/lang/System" ∈ GT := gt_in (by decide +kernel) (by decide +kernel)
theorem wd214 : Cond.methodLink RX3 3 objectInit ∈ GT := gt_in (by decide +kernel) (by decide +kernel)
theorem wd215 : Cond.arrayClass .char ∈ GT := gt_in (by decide +kernel) (by decide +kernel)
theorem wd216 : Cond.fieldLink RX3 9 "RadioCues$Pad" "characters" "[C" ∈ GT := gt_in (by decide +kernel) (by decide +kernel)
theorem wd217 : Cond.fieldLink RX3 15 "RadioCues$Pad" "numbers" "[I" ∈ GT := gt_in (by decide +kernel) (by decide +kernel)
theorem wd218 : Cond.constantLong RX3 19 (255) ∈ GT := gt_in (by decide +kernel) (by decide +kernel)
theorem wd219 : Cond.fieldLink RX3 21 "RadioCues$Pad" "length" "I" ∈ GT := gt_in (by decide +kernel) (by decide +kernel)
theorem wd220 : Cond.fieldLink RJ0 9 "java/lang/String" "value" "[B" ∈ GT := gt_in (by decide +kernel) (by decide +kernel)
theorem wd221 : Cond.fieldLink RJ0 38 "java/lang/String" "COMPACT_STRINGS" "Z" ∈ GT := gt_in (by decide +kernel) (by decide +kernel)
theorem wd222 : Cond.fieldLink RJ0 15 "java/lang/String" "coder" "B" ∈ GT := gt_in (by decide +kernel) (by decide +kernel)
theorem wd223 : Cond.methodLink RJ0 335 yJ0_coder_7d493 ∈ GT := gt_in (by decide +kernel) (by decide +kernel)
theorem wd224 : Cond.instanceMethod yJ0_coder_7d493 ∈ GT := gt_in (by decide +kernel) (by decide +kernel)
theorem wd225 : Cond.selects RJ0 yJ0_coder_7d493 yJ0_coder_7d493 ∈ GT := gt_in (by decide +kernel) (by decide +kernel)
theorem wd226 : Cond.initialized RJ0 ∈ GT := gt_in (by decide +kernel) (by decide +kernel)
theorem wd227 : Cond.fieldLink RJ0 1053 "jdk/internal/util/Preconditions" "SIOOBE_FORMATTER" "Ljava/util/function/BiFunction;" ∈ GT := gt_in (by decide +kernel) (by decide +kernel)
theorem wd228 : Cond.methodLink RJ0 1059 yJ3_checkIndex_8e157 ∈ GT := gt_in (by decide +kernel) (by decide +kernel)
theorem wd229 : Cond.static yJ3_checkIndex_8e157 ∈ GT := gt_in (by decide +kernel) (by decide +kernel)
theorem wd230 : Cond.initialized RJ3 ∈ GT := gt_in (by decide +kernel) (by decide +kernel)
theorem wd231 : Cond.methodLink RJ1 9 yJ0_checkIndex_df160 ∈ GT := gt_in (by decide +kernel) (by decide +kernel)
theorem wd232 : Cond.static yJ0_checkIndex_df160 ∈ GT := gt_in (by decide +kernel) (by decide +kernel)
theorem wd233 : Cond.methodLink RJ2 48 yJ2_length_9d52b ∈ GT := gt_in (by decide +kernel) (by decide +kernel)
theorem wd234 : Cond.static yJ2_length_9d52b ∈ GT := gt_in (by decide +kernel) (by decide +kernel)
theorem wd235 : Cond.initialized RJ2 ∈ GT := gt_in (by decide +kernel) (by decide +kernel)
theorem wd236 : Cond.methodLink RJ2 414 yJ0_checkIndex_df160 ∈ GT := gt_in (by decide +kernel) (by decide +kernel)
theorem wd237 : Cond.fieldLink RJ2 44 "java/lang/StringUTF16" "$assertionsDisabled" "Z" ∈ GT := gt_in (by decide +kernel) (by decide +kernel)
theorem wd238 : Cond.fieldLink RJ2 59 "java/lang/StringUTF16" "HI_BYTE_SHIFT" "I" ∈ GT := gt_in (by decide +kernel) (by decide +kernel)
theorem wd239 : Cond.fieldLink RJ2 63 "java/lang/StringUTF16" "LO_BYTE_SHIFT" "I" ∈ GT := gt_in (by decide +kernel) (by decide +kernel)
theorem wd240 : Cond.methodLink RJ2 67 yJ2_checkIndex_2214a ∈ GT := gt_in (by decide +kernel) (by decide +kernel)
theorem wd241 : Cond.static yJ2_checkIndex_2214a ∈ GT := gt_in (by decide +kernel) (by decide +kernel)
theorem wd242 : Cond.methodLink RJ2 71 yJ2_getChar_3b067 ∈ GT := gt_in (by decide +kernel) (by decide +kernel)
theorem wd243 : Cond.static yJ2_getChar_3b067 ∈ GT := gt_in (by decide +kernel) (by decide +kernel)
theorem wd244 : Cond.methodLink RJ0 492 yJ0_isLatin1_aae02 ∈ GT := gt_in (by decide +kernel) (by decide +kernel)
theorem wd245 : Cond.instanceMethod yJ0_isLatin1_aae02 ∈ GT := gt_in (by decide +kernel) (by decide +kernel)
theorem wd246 : Cond.selects RJ0 yJ0_isLatin1_aae02 yJ0_isLatin1_aae02 ∈ GT := gt_in (by decide +kernel) (by decide +kernel)
theorem wd247 : Cond.methodLink RJ0 495 yJ1_charAt_3b067 ∈ GT := gt_in (by decide +kernel) (by decide +kernel)
theorem wd248 : Cond.static yJ1_charAt_3b067 ∈ GT := gt_in (by decide +kernel) (by decide +kernel)
theorem wd249 : Cond.initialized RJ1 ∈ GT := gt_in (by decide +kernel) (by decide +kernel)
theorem wd250 : Cond.methodLink RJ0 498 yJ2_charAt_3b067 ∈ GT := gt_in (by decide +kernel) (by decide +kernel)
theorem wd251 : Cond.static yJ2_charAt_3b067 ∈ GT := gt_in (by decide +kernel) (by decide +kernel)
theorem wd252 : Cond.methodLink RX3 32 yX3_characterAt ∈ GT := gt_in (by decide +kernel) (by decide +kernel)
theorem wd253 : Cond.instanceMethod yX3_characterAt ∈ GT := gt_in (by decide +kernel) (by decide +kernel)
theorem wd254 : Cond.selects RX3 yX3_characterAt yX3_characterAt ∈ GT := gt_in (by decide +kernel) (by decide +kernel)
theorem wd255 : Cond.initialized RX3 ∈ GT := gt_in (by decide +kernel) (by decide +kernel)
theorem wd256 : Cond.fieldLink RX3 25 "RadioCues$Pad" "at" "I" ∈ GT := gt_in (by decide +kernel) (by decide +kernel)
theorem wd257 : Cond.fieldLink RX3 49 "RadioCues$Pad" "numberCount" "I" ∈ GT := gt_in (by decide +kernel) (by decide +kernel)
theorem wd258 : Cond.methodLink RX3 78 yX3_digitAt ∈ GT := gt_in (by decide +kernel) (by decide +kernel)
theorem wd259 : Cond.instanceMethod yX3_digitAt ∈ GT := gt_in (by decide +kernel) (by decide +kernel)
theorem wd260 : Cond.selects RX3 yX3_digitAt yX3_digitAt ∈ GT := gt_in (by decide +kernel) (by decide +kernel)
theorem wd261 : Cond.methodLink RX3 74 yX3_readNumber ∈ GT := gt_in (by decide +kernel) (by decide +kernel)
theorem wd262 : Cond.instanceMethod yX3_readNumber ∈ GT := gt_in (by decide +kernel) (by decide +kernel)
theorem wd263 : Cond.selects RX3 yX3_readNumber yX3_readNumber ∈ GT := gt_in (by decide +kernel) (by decide +kernel)
theorem wd264 : Cond.fieldLink RX3 36 "RadioCues$Pad" "letter" "C" ∈ GT := gt_in (by decide +kernel) (by decide +kernel)
theorem wd265 : Cond.methodLink RX3 40 yX3_shapeOf ∈ GT := gt_in (by decide +kernel) (by decide +kernel)
theorem wd266 : Cond.static yX3_shapeOf ∈ GT := gt_in (by decide +kernel) (by decide +kernel)
theorem wd267 : Cond.methodLink RX3 44 yJ0_isEmpty_aae02 ∈ GT := gt_in (by decide +kernel) (by decide +kernel)
theorem wd268 : Cond.instanceMethod yJ0_isEmpty_aae02 ∈ GT := gt_in (by decide +kernel) (by decide +kernel)
theorem wd269 : Cond.selects RJ0 yJ0_isEmpty_aae02 yJ0_isEmpty_aae02 ∈ GT := gt_in (by decide +kernel) (by decide +kernel)
theorem wd270 : Cond.methodLink RX3 52 yJ0_length_8abf5 ∈ GT := gt_in (by decide +kernel) (by decide +kernel)
theorem wd271 : Cond.instanceMethod yJ0_length_8abf5 ∈ GT := gt_in (by decide +kernel) (by decide +kernel)
theorem wd272 : Cond.selects RJ0 yJ0_length_8abf5 yJ0_length_8abf5 ∈ GT := gt_in (by decide +kernel) (by decide +kernel)
theorem wd273 : Cond.methodLink RX3 55 yJ0_charAt_5068e ∈ GT := gt_in (by decide +kernel) (by decide +kernel)
theorem wd274 : Cond.instanceMethod yJ0_charAt_5068e ∈ GT := gt_in (by decide +kernel) (by decide +kernel)
theorem wd275 : Cond.selects RJ0 yJ0_charAt_5068e yJ0_charAt_5068e ∈ GT := gt_in (by decide +kernel) (by decide +kernel)
theorem wd276 : Cond.methodLink RX3 58 yX3_readPart ∈ GT := gt_in (by decide +kernel) (by decide +kernel)
theorem wd277 : Cond.instanceMethod yX3_readPart ∈ GT := gt_in (by decide +kernel) (by decide +kernel)
theorem wd278 : Cond.selects RX3 yX3_readPart yX3_readPart ∈ GT := gt_in (by decide +kernel) (by decide +kernel)
theorem wd279 : Cond.methodLink RX3 28 yX3_readOrder ∈ GT := gt_in (by decide +kernel) (by decide +kernel)
theorem wd280 : Cond.instanceMethod yX3_readOrder ∈ GT := gt_in (by decide +kernel) (by decide +kernel)
theorem wd281 : Cond.selects RX3 yX3_readOrder yX3_readOrder ∈ GT := gt_in (by decide +kernel) (by decide +kernel)
theorem wd282 : Cond.methodLink RX6 3 objectInit ∈ GT := gt_in (by decide +kernel) (by decide +kernel)
theorem wd283 : Cond.classLink RX6 9 RX1 ∈ GT := gt_in (by decide +kernel) (by decide +kernel)
theorem wd284 : Cond.fieldLink RX6 11 "RadioCues$Script" "cues" "[LRadioCues$Cue;" ∈ GT := gt_in (by decide +kernel) (by decide +kernel)
theorem wd285 : Cond.instantiable RX1 5 ∈ GT := gt_in (by decide +kernel) (by decide +kernel)
theorem wd286 : Cond.initialized RX1 ∈ GT := gt_in (by decide +kernel) (by decide +kernel)
theorem wd287 : Cond.instanceMethod yX1_init ∈ GT := gt_in (by decide +kernel) (by decide +kernel)
theorem wd288 : Cond.methodLink RX7 1 objectInit ∈ GT := gt_in (by decide +kernel) (by decide +kernel)
theorem wd289 : Cond.methodLink RX5 3 objectInit ∈ GT := gt_in (by decide +kernel) (by decide +kernel)
theorem wd290 : Cond.classLink RX5 9 RX7 ∈ GT := gt_in (by decide +kernel) (by decide +kernel)
theorem wd291 : Cond.fieldLink RX5 11 "RadioCues$Reel" "sounds" "[LRadioCues$Sound;" ∈ GT := gt_in (by decide +kernel) (by decide +kernel)
theorem wd292 : Cond.fieldLink RX5 17 "RadioCues$Reel" "playing" "I" ∈ GT := gt_in (by decide +kernel) (by decide +kernel)
theorem wd293 : Cond.instantiable RX7 4 ∈ GT := gt_in (by decide +kernel) (by decide +kernel)
theorem wd294 : Cond.initialized RX7 ∈ GT := gt_in (by decide +kernel) (by decide +kernel)
theorem wd295 : Cond.instanceMethod yX7_init ∈ GT := gt_in (by decide +kernel) (by decide +kernel)
theorem wd296 : Cond.methodLink RX4 3 objectInit ∈ GT := gt_in (by decide +kernel) (by decide +kernel)
theorem wd297 : Cond.fieldLink RX4 9 "RadioCues$Play" "settings" "[I" ∈ GT := gt_in (by decide +kernel) (by decide +kernel)
theorem wd298 : Cond.classLink RX4 15 RX6 ∈ GT := gt_in (by decide +kernel) (by decide +kernel)
theorem wd299 : Cond.instantiable RX6 3 ∈ GT := gt_in (by decide +kernel) (by decide +kernel)
theorem wd300 : Cond.initialized RX6 ∈ GT := gt_in (by decide +kernel) (by decide +kernel)
theorem wd301 : Cond.fieldLink RX4 18 "RadioCues$Play" "script" "LRadioCues$Script;" ∈ GT := gt_in (by decide +kernel) (by decide +kernel)
theorem wd302 : Cond.classLink RX4 22 RX5 ∈ GT := gt_in (by decide +kernel) (by decide +kernel)
theorem wd303 : Cond.fieldLink RX4 24 "RadioCues$Play" "reels" "[LRadioCues$Reel;" ∈ GT := gt_in (by decide +kernel) (by decide +kernel)
theorem wd304 : Cond.classLink RX4 28 RX0 ∈ GT := gt_in (by decide +kernel) (by decide +kernel)
theorem wd305 : Cond.fieldLink RX4 30 "RadioCues$Play" "channels" "[LRadioCues$Channel;" ∈ GT := gt_in (by decide +kernel) (by decide +kernel)
theorem wd306 : Cond.classLink RX4 34 RX2 ∈ GT := gt_in (by decide +kernel) (by decide +kernel)
theorem wd307 : Cond.instantiable RX2 4 ∈ GT := gt_in (by decide +kernel) (by decide +kernel)
theorem wd308 : Cond.initialized RX2 ∈ GT := gt_in (by decide +kernel) (by decide +kernel)
theorem wd309 : Cond.fieldLink RX4 37 "RadioCues$Play" "doors" "LRadioCues$Doors;" ∈ GT := gt_in (by decide +kernel) (by decide +kernel)
theorem wd310 : Cond.fieldLink RX4 41 "RadioCues$Play" "firsts" "[I" ∈ GT := gt_in (by decide +kernel) (by decide +kernel)
theorem wd311 : Cond.fieldLink RX4 44 "RadioCues$Play" "heard" "[I" ∈ GT := gt_in (by decide +kernel) (by decide +kernel)
theorem wd312 : Cond.instantiable RX5 5 ∈ GT := gt_in (by decide +kernel) (by decide +kernel)
theorem wd313 : Cond.initialized RX5 ∈ GT := gt_in (by decide +kernel) (by decide +kernel)
theorem wd314 : Cond.instantiable RX0 2 ∈ GT := gt_in (by decide +kernel) (by decide +kernel)
theorem wd315 : Cond.initialized RX0 ∈ GT := gt_in (by decide +kernel) (by decide +kernel)
theorem wd316 : Cond.methodLink RX4 17 yX6_init ∈ GT := gt_in (by decide +kernel) (by decide +kernel)
theorem wd317 : Cond.instanceMethod yX6_init ∈ GT := gt_in (by decide +kernel) (by decide +kernel)
theorem wd318 : Cond.instanceMethod yX2_init ∈ GT := gt_in (by decide +kernel) (by decide +kernel)
theorem wd319 : Cond.methodLink RX4 47 yX5_init ∈ GT := gt_in (by decide +kernel) (by decide +kernel)
theorem wd320 : Cond.instanceMethod yX5_init ∈ GT := gt_in (by decide +kernel) (by decide +kernel)
theorem wd321 : Cond.instanceMethod yX0_init ∈ GT := gt_in (by decide +kernel) (by decide +kernel)
theorem wd322 : Cond.fieldLink RX6 18 "RadioCues$Script" "count" "I" ∈ GT := gt_in (by decide +kernel) (by decide +kernel)
theorem wd323 : Cond.fieldLink RX6 22 "RadioCues$Script" "came" "I" ∈ GT := gt_in (by decide +kernel) (by decide +kernel)
theorem wd324 : Cond.methodLink RX6 25 yX1_copyFrom ∈ GT := gt_in (by decide +kernel) (by decide +kernel)
theorem wd325 : Cond.instanceMethod yX1_copyFrom ∈ GT := gt_in (by decide +kernel) (by decide +kernel)
theorem wd326 : Cond.selects RX1 yX1_copyFrom yX1_copyFrom ∈ GT := gt_in (by decide +kernel) (by decide +kernel)
theorem wd327 : Cond.fieldLink RX7 7 "RadioCues$Sound" "seconds" "I" ∈ GT := gt_in (by decide +kernel) (by decide +kernel)
theorem wd328 : Cond.fieldLink RX7 13 "RadioCues$Sound" "loudness" "I" ∈ GT := gt_in (by decide +kernel) (by decide +kernel)
theorem wd329 : Cond.fieldLink RX7 16 "RadioCues$Sound" "begins" "I" ∈ GT := gt_in (by decide +kernel) (by decide +kernel)
theorem wd330 : Cond.fieldLink RX7 19 "RadioCues$Sound" "times" "I" ∈ GT := gt_in (by decide +kernel) (by decide +kernel)
theorem wd331 : Cond.fieldLink RX5 22 "RadioCues$Reel" "count" "I" ∈ GT := gt_in (by decide +kernel) (by decide +kernel)
theorem wd332 : Cond.fieldLink RX5 25 "RadioCues$Reel" "place" "I" ∈ GT := gt_in (by decide +kernel) (by decide +kernel)
theorem wd333 : Cond.fieldLink RX5 28 "RadioCues$Reel" "left" "I" ∈ GT := gt_in (by decide +kernel) (by decide +kernel)
theorem wd334 : Cond.methodLink RX5 31 yX7_copyFrom ∈ GT := gt_in (by decide +kernel) (by decide +kernel)
theorem wd335 : Cond.instanceMethod yX7_copyFrom ∈ GT := gt_in (by decide +kernel) (by decide +kernel)
theorem wd336 : Cond.selects RX7 yX7_copyFrom yX7_copyFrom ∈ GT := gt_in (by decide +kernel) (by decide +kernel)
theorem wd337 : Cond.fieldLink RX4 79 "RadioCues$Play" "now" "I" ∈ GT := gt_in (by decide +kernel) (by decide +kernel)
theorem wd338 : Cond.methodLink RX4 240 Lib.Math.min.name ∈ GT := gt_in (by decide +kernel) (by decide +kernel)
theorem wd339 : Cond.methodLink RX4 245 Lib.Math.max.name ∈ GT := gt_in (by decide +kernel) (by decide +kernel)
theorem wd340 : Cond.methodLink RX4 49 arraycopyName ∈ GT := gt_in (by decide +kernel) (by decide +kernel)
theorem wd341 : Cond.fieldLink RX4 62 "RadioCues$Channel" "level" "I" ∈ GT := gt_in (by decide +kernel) (by decide +kernel)
theorem wd342 : Cond.fieldLink RX4 66 "RadioCues$Channel" "goal" "I" ∈ GT := gt_in (by decide +kernel) (by decide +kernel)
theorem wd343 : Cond.fieldLink RX4 72 "RadioCues$Play" "firstCount" "I" ∈ GT := gt_in (by decide +kernel) (by decide +kernel)
theorem wd344 : Cond.methodLink RX4 55 yX6_copyFrom ∈ GT := gt_in (by decide +kernel) (by decide +kernel)
theorem wd345 : Cond.instanceMethod yX6_copyFrom ∈ GT := gt_in (by decide +kernel) (by decide +kernel)
theorem wd346 : Cond.selects RX6 yX6_copyFrom yX6_copyFrom ∈ GT := gt_in (by decide +kernel) (by decide +kernel)
theorem wd347 : Cond.methodLink RX4 59 yX5_copyFrom ∈ GT := gt_in (by decide +kernel) (by decide +kernel)
theorem wd348 : Cond.instanceMethod yX5_copyFrom ∈ GT := gt_in (by decide +kernel) (by decide +kernel)
theorem wd349 : Cond.selects RX5 yX5_copyFrom yX5_copyFrom ∈ GT := gt_in (by decide +kernel) (by decide +kernel)
theorem wd350 : Cond.methodLink RX4 69 yX2_copyFrom ∈ GT := gt_in (by decide +kernel) (by decide +kernel)
theorem wd351 : Cond.instanceMethod yX2_copyFrom ∈ GT := gt_in (by decide +kernel) (by decide +kernel)
theorem wd352 : Cond.selects RX2 yX2_copyFrom yX2_copyFrom ∈ GT := gt_in (by decide +kernel) (by decide +kernel)
theorem wd353 : Cond.methodLink RX4 75 yX4_secondsHeard ∈ GT := gt_in (by decide +kernel) (by decide +kernel)
theorem wd354 : Cond.instanceMethod yX4_secondsHeard ∈ GT := gt_in (by decide +kernel) (by decide +kernel)
theorem wd355 : Cond.selects RX4 yX4_secondsHeard yX4_secondsHeard ∈ GT := gt_in (by decide +kernel) (by decide +kernel)
theorem wd356 : Cond.initialized RX4 ∈ GT := gt_in (by decide +kernel) (by decide +kernel)
theorem wd357 : Cond.static yX8_within ∈ GT := gt_in (by decide +kernel) (by decide +kernel)
theorem wd358 : Cond.fieldLink RX5 42 "RadioCues$Sound" "begins" "I" ∈ GT := gt_in (by decide +kernel) (by decide +kernel)
theorem wd359 : Cond.fieldLink RX5 45 "RadioCues$Sound" "seconds" "I" ∈ GT := gt_in (by decide +kernel) (by decide +kernel)
theorem wd360 : Cond.methodLink RX5 38 yX5_soundNumbered ∈ GT := gt_in (by decide +kernel) (by decide +kernel)
theorem wd361 : Cond.instanceMethod yX5_soundNumbered ∈ GT := gt_in (by decide +kernel) (by decide +kernel)
theorem wd362 : Cond.selects RX5 yX5_soundNumbered yX5_soundNumbered ∈ GT := gt_in (by decide +kernel) (by decide +kernel)
theorem wd363 : Cond.fieldLink RX5 52 "RadioCues$Sound" "loudness" "I" ∈ GT := gt_in (by decide +kernel) (by decide +kernel)
theorem wd364 : Cond.fieldLink RX5 35 "RadioCues$Sound" "times" "I" ∈ GT := gt_in (by decide +kernel) (by decide +kernel)
theorem wd365 : Cond.methodLink RX5 48 yX5_tapeLength ∈ GT := gt_in (by decide +kernel) (by decide +kernel)
theorem wd366 : Cond.instanceMethod yX5_tapeLength ∈ GT := gt_in (by decide +kernel) (by decide +kernel)
theorem wd367 : Cond.selects RX5 yX5_tapeLength yX5_tapeLength ∈ GT := gt_in (by decide +kernel) (by decide +kernel)
theorem wd368 : Cond.methodLink RX4 92 yX4_reelAt ∈ GT := gt_in (by decide +kernel) (by decide +kernel)
theorem wd369 : Cond.instanceMethod yX4_reelAt ∈ GT := gt_in (by decide +kernel) (by decide +kernel)
theorem wd370 : Cond.selects RX4 yX4_reelAt yX4_reelAt ∈ GT := gt_in (by decide +kernel) (by decide +kernel)
theorem wd371 : Cond.methodLink RX4 96 yX5_appendSound ∈ GT := gt_in (by decide +kernel) (by decide +kernel)
theorem wd372 : Cond.instanceMethod yX5_appendSound ∈ GT := gt_in (by decide +kernel) (by decide +kernel)
theorem wd373 : Cond.selects RX5 yX5_appendSound yX5_appendSound ∈ GT := gt_in (by decide +kernel) (by decide +kernel)
theorem wd374 : Cond.methodLink RX4 146 yX5_soundNumbered ∈ GT := gt_in (by decide +kernel) (by decide +kernel)
theorem wd375 : Cond.fieldLink RX6 32 "RadioCues$Cue" "second" "I" ∈ GT := gt_in (by decide +kernel) (by decide +kernel)
theorem wd376 : Cond.methodLink RX6 48 yX6_cueAt ∈ GT := gt_in (by decide +kernel) (by decide +kernel)
theorem wd377 : Cond.instanceMethod yX6_cueAt ∈ GT := gt_in (by decide +kernel) (by decide +kernel)
theorem wd378 : Cond.selects RX6 yX6_cueAt yX6_cueAt ∈ GT := gt_in (by decide +kernel) (by decide +kernel)
theorem wd379 : Cond.fieldLink RX6 35 "RadioCues$Cue" "kind" "I" ∈ GT := gt_in (by decide +kernel) (by decide +kernel)
theorem wd380 : Cond.fieldLink RX6 38 "RadioCues$Cue" "where" "I" ∈ GT := gt_in (by decide +kernel) (by decide +kernel)
theorem wd381 : Cond.fieldLink RX6 41 "RadioCues$Cue" "value" "I" ∈ GT := gt_in (by decide +kernel) (by decide +kernel)
theorem wd382 : Cond.fieldLink RX6 29 "RadioCues$Cue" "fate" "I" ∈ GT := gt_in (by decide +kernel) (by decide +kernel)
theorem wd383 : Cond.methodLink RX6 44 yX6_sortLast ∈ GT := gt_in (by decide +kernel) (by decide +kernel)
theorem wd384 : Cond.instanceMethod yX6_sortLast ∈ GT := gt_in (by decide +kernel) (by decide +kernel)
theorem wd385 : Cond.selects RX6 yX6_sortLast yX6_sortLast ∈ GT := gt_in (by decide +kernel) (by decide +kernel)
theorem wd386 : Cond.methodLink RX4 100 yX4_soundAt ∈ GT := gt_in (by decide +kernel) (by decide +kernel)
theorem wd387 : Cond.instanceMethod yX4_soundAt ∈ GT := gt_in (by decide +kernel) (by decide +kernel)
theorem wd388 : Cond.selects RX4 yX4_soundAt yX4_soundAt ∈ GT := gt_in (by decide +kernel) (by decide +kernel)
theorem wd389 : Cond.methodLink RX4 104 yX6_insertCue ∈ GT := gt_in (by decide +kernel) (by decide +kernel)
theorem wd390 : Cond.instanceMethod yX6_insertCue ∈ GT := gt_in (by decide +kernel) (by decide +kernel)
theorem wd391 : Cond.selects RX6 yX6_insertCue yX6_insertCue ∈ GT := gt_in (by decide +kernel) (by decide +kernel)
theorem wd392 : Cond.methodLink RX6 56 Lib.Math.max.name ∈ GT := gt_in (by decide +kernel) (by decide +kernel)
theorem wd393 : Cond.fieldLink RX4 112 "RadioCues$Cue" "fate" "I" ∈ GT := gt_in (by decide +kernel) (by decide +kernel)
theorem wd394 : Cond.fieldLink RX4 121 "RadioCues$Cue" "second" "I" ∈ GT := gt_in (by decide +kernel) (by decide +kernel)
theorem wd395 : Cond.methodLink RX4 108 yX6_cueAt ∈ GT := gt_in (by decide +kernel) (by decide +kernel)
theorem wd396 : Cond.methodLink RX4 117 yX6_makeLast ∈ GT := gt_in (by decide +kernel) (by decide +kernel)
theorem wd397 : Cond.instanceMethod yX6_makeLast ∈ GT := gt_in (by decide +kernel) (by decide +kernel)
theorem wd398 : Cond.selects RX6 yX6_makeLast yX6_makeLast ∈ GT := gt_in (by decide +kernel) (by decide +kernel)
theorem wd399 : Cond.methodLink RX4 124 yX6_sortLast ∈ GT := gt_in (by decide +kernel) (by decide +kernel)
theorem wd400 : Cond.methodLink RX4 127 yX4_channelAt ∈ GT := gt_in (by decide +kernel) (by decide +kernel)
theorem wd401 : Cond.instanceMethod yX4_channelAt ∈ GT := gt_in (by decide +kernel) (by decide +kernel)
theorem wd402 : Cond.selects RX4 yX4_channelAt yX4_channelAt ∈ GT := gt_in (by decide +kernel) (by decide +kernel)
theorem wd403 : Cond.fieldLink RX4 137 "RadioCues$Doors" "count" "I" ∈ GT := gt_in (by decide +kernel) (by decide +kernel)
theorem wd404 : Cond.methodLink RX4 131 yX6_letAllCome ∈ GT := gt_in (by decide +kernel) (by decide +kernel)
theorem wd405 : Cond.instanceMethod yX6_letAllCome ∈ GT := gt_in (by decide +kernel) (by decide +kernel)
theorem wd406 : Cond.selects RX6 yX6_letAllCome yX6_letAllCome ∈ GT := gt_in (by decide +kernel) (by decide +kernel)
theorem wd407 : Cond.methodLink RX4 134 yX5_rewind ∈ GT := gt_in (by decide +kernel) (by decide +kernel)
theorem wd408 : Cond.instanceMethod yX5_rewind ∈ GT := gt_in (by decide +kernel) (by decide +kernel)
theorem wd409 : Cond.selects RX5 yX5_rewind yX5_rewind ∈ GT := gt_in (by decide +kernel) (by decide +kernel)
theorem wd410 : Cond.methodLink RX6 62 yX6_countOf ∈ GT := gt_in (by decide +kernel) (by decide +kernel)
theorem wd411 : Cond.instanceMethod yX6_countOf ∈ GT := gt_in (by decide +kernel) (by decide +kernel)
theorem wd412 : Cond.selects RX6 yX6_countOf yX6_countOf ∈ GT := gt_in (by decide +kernel) (by decide +kernel)
theorem wd413 : Cond.fieldLink RX4 194 "RadioCues$Reel" "playing" "I" ∈ GT := gt_in (by decide +kernel) (by decide +kernel)
theorem wd414 : Cond.fieldLink RX4 197 "RadioCues$Reel" "place" "I" ∈ GT := gt_in (by decide +kernel) (by decide +kernel)
theorem wd415 : Cond.fieldLink RX4 200 "RadioCues$Sound" "begins" "I" ∈ GT := gt_in (by decide +kernel) (by decide +kernel)
theorem wd416 : Cond.fieldLink RX4 205 "RadioCues$Sound" "seconds" "I" ∈ GT := gt_in (by decide +kernel) (by decide +kernel)
theorem wd417 : Cond.fieldLink RX4 208 "RadioCues$Reel" "left" "I" ∈ GT := gt_in (by decide +kernel) (by decide +kernel)
theorem wd418 : Cond.fieldLink RX4 211 "RadioCues$Sound" "times" "I" ∈ GT := gt_in (by decide +kernel) (by decide +kernel)
theorem wd419 : Cond.fieldLink RX4 171 "RadioCues$Script" "came" "I" ∈ GT := gt_in (by decide +kernel) (by decide +kernel)
theorem wd420 : Cond.fieldLink RX4 174 "RadioCues$Script" "count" "I" ∈ GT := gt_in (by decide +kernel) (by decide +kernel)
theorem wd421 : Cond.fieldLink RX4 175 "RadioCues$Cue" "kind" "I" ∈ GT := gt_in (by decide +kernel) (by decide +kernel)
theorem wd422 : Cond.fieldLink RX4 178 "RadioCues$Cue" "where" "I" ∈ GT := gt_in (by decide +kernel) (by decide +kernel)
theorem wd423 : Cond.fieldLink RX4 181 "RadioCues$Cue" "value" "I" ∈ GT := gt_in (by decide +kernel) (by decide +kernel)
theorem wd424 : Cond.methodLink RX4 184 yX4_callSound ∈ GT := gt_in (by decide +kernel) (by decide +kernel)
theorem wd425 : Cond.instanceMethod yX4_callSound ∈ GT := gt_in (by decide +kernel) (by decide +kernel)
theorem wd426 : Cond.selects RX4 yX4_callSound yX4_callSound ∈ GT := gt_in (by decide +kernel) (by decide +kernel)
theorem wd427 : Cond.methodLink RX4 187 yX2_slam ∈ GT := gt_in (by decide +kernel) (by decide +kernel)
theorem wd428 : Cond.instanceMethod yX2_slam ∈ GT := gt_in (by decide +kernel) (by decide +kernel)
theorem wd429 : Cond.selects RX2 yX2_slam yX2_slam ∈ GT := gt_in (by decide +kernel) (by decide +kernel)
theorem wd430 : Cond.methodLink RX4 191 yX4_putGoal ∈ GT := gt_in (by decide +kernel) (by decide +kernel)
theorem wd431 : Cond.instanceMethod yX4_putGoal ∈ GT := gt_in (by decide +kernel) (by decide +kernel)
theorem wd432 : Cond.selects RX4 yX4_putGoal yX4_putGoal ∈ GT := gt_in (by decide +kernel) (by decide +kernel)
theorem wd433 : Cond.fieldLink RX4 214 "RadioCues$Sound" "loudness" "I" ∈ GT := gt_in (by decide +kernel) (by decide +kernel)
theorem wd434 : Cond.methodLink RX4 217 yX4_heardOn ∈ GT := gt_in (by decide +kernel) (by decide +kernel)
theorem wd435 : Cond.instanceMethod yX4_heardOn ∈ GT := gt_in (by decide +kernel) (by decide +kernel)
theorem wd436 : Cond.selects RX4 yX4_heardOn yX4_heardOn ∈ GT := gt_in (by decide +kernel) (by decide +kernel)
theorem wd437 : Cond.fieldLink RX4 220 "RadioCues$Doors" "channel" "[I" ∈ GT := gt_in (by decide +kernel) (by decide +kernel)
theorem wd438 : Cond.fieldLink RX4 223 "RadioCues$Doors" "loudness" "[I" ∈ GT := gt_in (by decide +kernel) (by decide +kernel)
theorem wd439 : Cond.methodLink RX4 225 yX6_nextFor ∈ GT := gt_in (by decide +kernel) (by decide +kernel)
theorem wd440 : Cond.instanceMethod yX6_nextFor ∈ GT := gt_in (by decide +kernel) (by decide +kernel)
theorem wd441 : Cond.selects RX6 yX6_nextFor yX6_nextFor ∈ GT := gt_in (by decide +kernel) (by decide +kernel)
theorem wd442 : Cond.methodLink RX4 150 yX4_letCuesCome ∈ GT := gt_in (by decide +kernel) (by decide +kernel)
theorem wd443 : Cond.instanceMethod yX4_letCuesCome ∈ GT := gt_in (by decide +kernel) (by decide +kernel)
theorem wd444 : Cond.selects RX4 yX4_letCuesCome yX4_letCuesCome ∈ GT := gt_in (by decide +kernel) (by decide +kernel)
theorem wd445 : Cond.methodLink RX4 153 yX0_fade ∈ GT := gt_in (by decide +kernel) (by decide +kernel)
theorem wd446 : Cond.instanceMethod yX0_fade ∈ GT := gt_in (by decide +kernel) (by decide +kernel)
theorem wd447 : Cond.selects RX0 yX0_fade yX0_fade ∈ GT := gt_in (by decide +kernel) (by decide +kernel)
theorem wd448 : Cond.methodLink RX4 156 yX4_loudnessOfReels ∈ GT := gt_in (by decide +kernel) (by decide +kernel)
theorem wd449 : Cond.instanceMethod yX4_loudnessOfReels ∈ GT := gt_in (by decide +kernel) (by decide +kernel)
theorem wd450 : Cond.selects RX4 yX4_loudnessOfReels yX4_loudnessOfReels ∈ GT := gt_in (by decide +kernel) (by decide +kernel)
theorem wd451 : Cond.methodLink RX4 159 yX4_loudnessOfDoors ∈ GT := gt_in (by decide +kernel) (by decide +kernel)
theorem wd452 : Cond.instanceMethod yX4_loudnessOfDoors ∈ GT := gt_in (by decide +kernel) (by decide +kernel)
theorem wd453 : Cond.selects RX4 yX4_loudnessOfDoors yX4_loudnessOfDoors ∈ GT := gt_in (by decide +kernel) (by decide +kernel)
theorem wd454 : Cond.methodLink RX4 162 yX5_playSecond ∈ GT := gt_in (by decide +kernel) (by decide +kernel)
theorem wd455 : Cond.instanceMethod yX5_playSecond ∈ GT := gt_in (by decide +kernel) (by decide +kernel)
theorem wd456 : Cond.selects RX5 yX5_playSecond yX5_playSecond ∈ GT := gt_in (by decide +kernel) (by decide +kernel)
theorem wd457 : Cond.methodLink RX4 165 yX2_hearSecond ∈ GT := gt_in (by decide +kernel) (by decide +kernel)
theorem wd458 : Cond.instanceMethod yX2_hearSecond ∈ GT := gt_in (by decide +kernel) (by decide +kernel)
theorem wd459 : Cond.selects RX2 yX2_hearSecond yX2_hearSecond ∈ GT := gt_in (by decide +kernel) (by decide +kernel)
theorem wd460 : Cond.methodLink RX4 168 yX4_windReels ∈ GT := gt_in (by decide +kernel) (by decide +kernel)
theorem wd461 : Cond.instanceMethod yX4_windReels ∈ GT := gt_in (by decide +kernel) (by decide +kernel)
theorem wd462 : Cond.selects RX4 yX4_windReels yX4_windReels ∈ GT := gt_in (by decide +kernel) (by decide +kernel)
theorem wd463 : Cond.methodLink RX4 140 yX6_missedCues ∈ GT := gt_in (by decide +kernel) (by decide +kernel)
theorem wd464 : Cond.instanceMethod yX6_missedCues ∈ GT := gt_in (by decide +kernel) (by decide +kernel)
theorem wd465 : Cond.selects RX6 yX6_missedCues yX6_missedCues ∈ GT := gt_in (by decide +kernel) (by decide +kernel)
theorem wd466 : Cond.methodLink RX4 143 yX4_runSecond ∈ GT := gt_in (by decide +kernel) (by decide +kernel)
theorem wd467 : Cond.instanceMethod yX4_runSecond ∈ GT := gt_in (by decide +kernel) (by decide +kernel)
theorem wd468 : Cond.selects RX4 yX4_runSecond yX4_runSecond ∈ GT := gt_in (by decide +kernel) (by decide +kernel)
theorem wd469 : Cond.methodLink RX4 233 yX6_anyToCome ∈ GT := gt_in (by decide +kernel) (by decide +kernel)
theorem wd470 : Cond.instanceMethod yX6_anyToCome ∈ GT := gt_in (by decide +kernel) (by decide +kernel)
theorem wd471 : Cond.selects RX6 yX6_anyToCome yX6_anyToCome ∈ GT := gt_in (by decide +kernel) (by decide +kernel)
theorem wd472 : Cond.methodLink RX4 237 yX4_playingReels ∈ GT := gt_in (by decide +kernel) (by decide +kernel)
theorem wd473 : Cond.instanceMethod yX4_playingReels ∈ GT := gt_in (by decide +kernel) (by decide +kernel)
theorem wd474 : Cond.selects RX4 yX4_playingReels yX4_playingReels ∈ GT := gt_in (by decide +kernel) (by decide +kernel)
theorem wd475 : Cond.methodLink RX6 52 yX6_makeLast ∈ GT := gt_in (by decide +kernel) (by decide +kernel)
theorem wd476 : Cond.methodLink RX8 1 objectInit ∈ GT := gt_in (by decide +kernel) (by decide +kernel)
theorem wd477 : Cond.classLink RX8 7 RX4 ∈ GT := gt_in (by decide +kernel) (by decide +kernel)
theorem wd478 : Cond.instantiable RX4 9 ∈ GT := gt_in (by decide +kernel) (by decide +kernel)
theorem wd479 : Cond.fieldLink RX8 10 "RadioCues" "play" "LRadioCues$Play;" ∈ GT := gt_in (by decide +kernel) (by decide +kernel)
theorem wd480 : Cond.fieldLink RX8 16 "RadioCues" "trial" "LRadioCues$Play;" ∈ GT := gt_in (by decide +kernel) (by decide +kernel)
theorem wd481 : Cond.fieldLink RX8 19 "RadioCues" "history" "[LRadioCues$Play;" ∈ GT := gt_in (by decide +kernel) (by decide +kernel)
theorem wd482 : Cond.fieldLink RX8 23 "RadioCues" "slots" "[LRadioCues$Play;" ∈ GT := gt_in (by decide +kernel) (by decide +kernel)
theorem wd483 : Cond.arrayClass .boolean ∈ GT := gt_in (by decide +kernel) (by decide +kernel)
theorem wd484 : Cond.fieldLink RX8 26 "RadioCues" "saved" "[Z" ∈ GT := gt_in (by decide +kernel) (by decide +kernel)
theorem wd485 : Cond.classLink RX8 30 RX3 ∈ GT := gt_in (by decide +kernel) (by decide +kernel)
theorem wd486 : Cond.instantiable RX3 6 ∈ GT := gt_in (by decide +kernel) (by decide +kernel)
theorem wd487 : Cond.fieldLink RX8 33 "RadioCues" "pad" "LRadioCues$Pad;" ∈ GT := gt_in (by decide +kernel) (by decide +kernel)
theorem wd488 : Cond.methodLink RX8 9 yX4_init ∈ GT := gt_in (by decide +kernel) (by decide +kernel)
theorem wd489 : Cond.instanceMethod yX4_init ∈ GT := gt_in (by decide +kernel) (by decide +kernel)
theorem wd490 : Cond.instanceMethod yX3_init ∈ GT := gt_in (by decide +kernel) (by decide +kernel)
theorem wd491 : Cond.fieldLink RX8 195 "RadioCues" "kept" "I" ∈ GT := gt_in (by decide +kernel) (by decide +kernel)
theorem wd492 : Cond.methodLink RX8 202 yX4_copyFrom ∈ GT := gt_in (by decide +kernel) (by decide +kernel)
theorem wd493 : Cond.instanceMethod yX4_copyFrom ∈ GT := gt_in (by decide +kernel) (by decide +kernel)
theorem wd494 : Cond.selects RX4 yX4_copyFrom yX4_copyFrom ∈ GT := gt_in (by decide +kernel) (by decide +kernel)
theorem wd495 : Cond.methodLink RX8 258 yX8_dropOldestState ∈ GT := gt_in (by decide +kernel) (by decide +kernel)
theorem wd496 : Cond.instanceMethod yX8_dropOldestState ∈ GT := gt_in (by decide +kernel) (by decide +kernel)
theorem wd497 : Cond.selects RX8 yX8_dropOldestState yX8_dropOldestState ∈ GT := gt_in (by decide +kernel) (by decide +kernel)
theorem wd498 : Cond.methodLink RX8 37 yX8_holdState ∈ GT := gt_in (by decide +kernel) (by decide +kernel)
theorem wd499 : Cond.instanceMethod yX8_holdState ∈ GT := gt_in (by decide +kernel) (by decide +kernel)
theorem wd500 : Cond.selects RX8 yX8_holdState yX8_holdState ∈ GT := gt_in (by decide +kernel) (by decide +kernel)
theorem wd501 : Cond.methodLink RX8 40 yX4_changeSetting ∈ GT := gt_in (by decide +kernel) (by decide +kernel)
theorem wd502 : Cond.instanceMethod yX4_changeSetting ∈ GT := gt_in (by decide +kernel) (by decide +kernel)
theorem wd503 : Cond.selects RX4 yX4_changeSetting yX4_changeSetting ∈ GT := gt_in (by decide +kernel) (by decide +kernel)
theorem wd504 : Cond.methodLink RX8 44 yX8_recorded ∈ GT := gt_in (by decide +kernel) (by decide +kernel)
theorem wd505 : Cond.instanceMethod yX8_recorded ∈ GT := gt_in (by decide +kernel) (by decide +kernel)
theorem wd506 : Cond.selects RX8 yX8_recorded yX8_recorded ∈ GT := gt_in (by decide +kernel) (by decide +kernel)
theorem wd507 : Cond.methodLink RX8 48 yX4_addSound ∈ GT := gt_in (by decide +kernel) (by decide +kernel)
theorem wd508 : Cond.instanceMethod yX4_addSound ∈ GT := gt_in (by decide +kernel) (by decide +kernel)
theorem wd509 : Cond.selects RX4 yX4_addSound yX4_addSound ∈ GT := gt_in (by decide +kernel) (by decide +kernel)
theorem wd510 : Cond.methodLink RX8 52 yX4_addCue ∈ GT := gt_in (by decide +kernel) (by decide +kernel)
theorem wd511 : Cond.instanceMethod yX4_addCue ∈ GT := gt_in (by decide +kernel) (by decide +kernel)
theorem wd512 : Cond.selects RX4 yX4_addCue yX4_addCue ∈ GT := gt_in (by decide +kernel) (by decide +kernel)
theorem wd513 : Cond.fieldLink RX8 56 "RadioCues$Play" "script" "LRadioCues$Script;" ∈ GT := gt_in (by decide +kernel) (by decide +kernel)
theorem wd514 : Cond.methodLink RX8 60 yX6_removeCue ∈ GT := gt_in (by decide +kernel) (by decide +kernel)
theorem wd515 : Cond.instanceMethod yX6_removeCue ∈ GT := gt_in (by decide +kernel) (by decide +kernel)
theorem wd516 : Cond.selects RX6 yX6_removeCue yX6_removeCue ∈ GT := gt_in (by decide +kernel) (by decide +kernel)
theorem wd517 : Cond.methodLink RX8 65 yX4_moveCue ∈ GT := gt_in (by decide +kernel) (by decide +kernel)
theorem wd518 : Cond.instanceMethod yX4_moveCue ∈ GT := gt_in (by decide +kernel) (by decide +kernel)
theorem wd519 : Cond.selects RX4 yX4_moveCue yX4_moveCue ∈ GT := gt_in (by decide +kernel) (by decide +kernel)
theorem wd520 : Cond.methodLink RX8 68 yX4_putGoal ∈ GT := gt_in (by decide +kernel) (by decide +kernel)
theorem wd521 : Cond.methodLink RX8 71 yX4_beginAnew ∈ GT := gt_in (by decide +kernel) (by decide +kernel)
theorem wd522 : Cond.instanceMethod yX4_beginAnew ∈ GT := gt_in (by decide +kernel) (by decide +kernel)
theorem wd523 : Cond.selects RX4 yX4_beginAnew yX4_beginAnew ∈ GT := gt_in (by decide +kernel) (by decide +kernel)
theorem wd524 : Cond.methodLink RX8 75 yX4_runSeconds ∈ GT := gt_in (by decide +kernel) (by decide +kernel)
theorem wd525 : Cond.instanceMethod yX4_runSeconds ∈ GT := gt_in (by decide +kernel) (by decide +kernel)
theorem wd526 : Cond.selects RX4 yX4_runSeconds yX4_runSeconds ∈ GT := gt_in (by decide +kernel) (by decide +kernel)
theorem wd527 : Cond.fieldLink RX8 82 "RadioCues$Cue" "second" "I" ∈ GT := gt_in (by decide +kernel) (by decide +kernel)
theorem wd528 : Cond.fieldLink RX8 88 "RadioCues$Cue" "kind" "I" ∈ GT := gt_in (by decide +kernel) (by decide +kernel)
theorem wd529 : Cond.fieldLink RX8 91 "RadioCues$Cue" "where" "I" ∈ GT := gt_in (by decide +kernel) (by decide +kernel)
theorem wd530 : Cond.fieldLink RX8 94 "RadioCues$Cue" "value" "I" ∈ GT := gt_in (by decide +kernel) (by decide +kernel)
theorem wd531 : Cond.fieldLink RX8 97 "RadioCues$Cue" "fate" "I" ∈ GT := gt_in (by decide +kernel) (by decide +kernel)
theorem wd532 : Cond.methodLink RX8 78 yX6_cueAt ∈ GT := gt_in (by decide +kernel) (by decide +kernel)
theorem wd533 : Cond.fieldLink RX8 104 "RadioCues$Reel" "place" "I" ∈ GT := gt_in (by decide +kernel) (by decide +kernel)
theorem wd534 : Cond.fieldLink RX8 109 "RadioCues$Reel" "playing" "I" ∈ GT := gt_in (by decide +kernel) (by decide +kernel)
theorem wd535 : Cond.fieldLink RX8 112 "RadioCues$Reel" "left" "I" ∈ GT := gt_in (by decide +kernel) (by decide +kernel)
theorem wd536 : Cond.fieldLink RX8 115 "RadioCues$Reel" "count" "I" ∈ GT := gt_in (by decide +kernel) (by decide +kernel)
theorem wd537 : Cond.methodLink RX8 100 yX4_reelAt ∈ GT := gt_in (by decide +kernel) (by decide +kernel)
theorem wd538 : Cond.methodLink RX8 118 yX5_tapeLength ∈ GT := gt_in (by decide +kernel) (by decide +kernel)
theorem wd539 : Cond.methodLink RX8 121 yX6_nextFor ∈ GT := gt_in (by decide +kernel) (by decide +kernel)
theorem wd540 : Cond.fieldLink RX8 128 "RadioCues$Sound" "seconds" "I" ∈ GT := gt_in (by decide +kernel) (by decide +kernel)
theorem wd541 : Cond.fieldLink RX8 133 "RadioCues$Sound" "loudness" "I" ∈ GT := gt_in (by decide +kernel) (by decide +kernel)
theorem wd542 : Cond.fieldLink RX8 136 "RadioCues$Sound" "begins" "I" ∈ GT := gt_in (by decide +kernel) (by decide +kernel)
theorem wd543 : Cond.fieldLink RX8 139 "RadioCues$Sound" "times" "I" ∈ GT := gt_in (by decide +kernel) (by decide +kernel)
theorem wd544 : Cond.methodLink RX8 124 yX4_soundAt ∈ GT := gt_in (by decide +kernel) (by decide +kernel)
theorem wd545 : Cond.fieldLink RX8 142 "RadioCues$Play" "firstCount" "I" ∈ GT := gt_in (by decide +kernel) (by decide +kernel)
theorem wd546 : Cond.fieldLink RX8 145 "RadioCues$Play" "firsts" "[I" ∈ GT := gt_in (by decide +kernel) (by decide +kernel)
theorem wd547 : Cond.fieldLink RX8 153 "RadioCues$Channel" "level" "I" ∈ GT := gt_in (by decide +kernel) (by decide +kernel)
theorem wd548 : Cond.fieldLink RX8 158 "RadioCues$Channel" "goal" "I" ∈ GT := gt_in (by decide +kernel) (by decide +kernel)
theorem wd549 : Cond.fieldLink RX8 161 "RadioCues$Play" "doors" "LRadioCues$Doors;" ∈ GT := gt_in (by decide +kernel) (by decide +kernel)
theorem wd550 : Cond.methodLink RX8 149 yX4_channelAt ∈ GT := gt_in (by decide +kernel) (by decide +kernel)
theorem wd551 : Cond.methodLink RX8 165 yX2_countOn ∈ GT := gt_in (by decide +kernel) (by decide +kernel)
theorem wd552 : Cond.instanceMethod yX2_countOn ∈ GT := gt_in (by decide +kernel) (by decide +kernel)
theorem wd553 : Cond.selects RX2 yX2_countOn yX2_countOn ∈ GT := gt_in (by decide +kernel) (by decide +kernel)
theorem wd554 : Cond.fieldLink RX8 170 "RadioCues$Play" "now" "I" ∈ GT := gt_in (by decide +kernel) (by decide +kernel)
theorem wd555 : Cond.fieldLink RX8 173 "RadioCues$Play" "heard" "[I" ∈ GT := gt_in (by decide +kernel) (by decide +kernel)
theorem wd556 : Cond.fieldLink RX8 176 "RadioCues$Script" "count" "I" ∈ GT := gt_in (by decide +kernel) (by decide +kernel)
theorem wd557 : Cond.fieldLink RX8 189 "RadioCues$Play" "settings" "[I" ∈ GT := gt_in (by decide +kernel) (by decide +kernel)
theorem wd558 : Cond.fieldLink RX8 192 "RadioCues$Pad" "length" "I" ∈ GT := gt_in (by decide +kernel) (by decide +kernel)
theorem wd559 : Cond.methodLink RX8 177 yX6_countOf ∈ GT := gt_in (by decide +kernel) (by decide +kernel)
theorem wd560 : Cond.methodLink RX8 180 yX4_loudestSecond ∈ GT := gt_in (by decide +kernel) (by decide +kernel)
theorem wd561 : Cond.instanceMethod yX4_loudestSecond ∈ GT := gt_in (by decide +kernel) (by decide +kernel)
theorem wd562 : Cond.selects RX4 yX4_loudestSecond yX4_loudestSecond ∈ GT := gt_in (by decide +kernel) (by decide +kernel)
theorem wd563 : Cond.methodLink RX8 183 yX4_tooLoudSeconds ∈ GT := gt_in (by decide +kernel) (by decide +kernel)
theorem wd564 : Cond.instanceMethod yX4_tooLoudSeconds ∈ GT := gt_in (by decide +kernel) (by decide +kernel)
theorem wd565 : Cond.selects RX4 yX4_tooLoudSeconds yX4_tooLoudSeconds ∈ GT := gt_in (by decide +kernel) (by decide +kernel)
theorem wd566 : Cond.methodLink RX8 186 yX4_playingReels ∈ GT := gt_in (by decide +kernel) (by decide +kernel)
theorem wd567 : Cond.constant RX8 209 (1000000) ∈ GT := gt_in (by decide +kernel) (by decide +kernel)
theorem wd568 : Cond.methodLink RX8 198 yX8_within ∈ GT := gt_in (by decide +kernel) (by decide +kernel)
theorem wd569 : Cond.methodLink RX8 206 yX6_missedCues ∈ GT := gt_in (by decide +kernel) (by decide +kernel)
theorem wd570 : Cond.methodLink RX8 210 yX4_goesOn ∈ GT := gt_in (by decide +kernel) (by decide +kernel)
theorem wd571 : Cond.instanceMethod yX4_goesOn ∈ GT := gt_in (by decide +kernel) (by decide +kernel)
theorem wd572 : Cond.selects RX4 yX4_goesOn yX4_goesOn ∈ GT := gt_in (by decide +kernel) (by decide +kernel)
theorem wd573 : Cond.methodLink RX8 214 yX4_runSecond ∈ GT := gt_in (by decide +kernel) (by decide +kernel)
theorem wd574 : Cond.methodLink RX8 261 yX6_anyToCome ∈ GT := gt_in (by decide +kernel) (by decide +kernel)
theorem wd575 : Cond.methodLink RX8 217 yX8_missedInTrial ∈ GT := gt_in (by decide +kernel) (by decide +kernel)
theorem wd576 : Cond.instanceMethod yX8_missedInTrial ∈ GT := gt_in (by decide +kernel) (by decide +kernel)
theorem wd577 : Cond.selects RX8 yX8_missedInTrial yX8_missedInTrial ∈ GT := gt_in (by decide +kernel) (by decide +kernel)
theorem wd578 : Cond.fieldLink RX8 220 "RadioCues" "MOST_SETTING" "[I" ∈ GT := gt_in (by decide +kernel) (by decide +kernel)
theorem wd579 : Cond.methodLink RX8 223 yX8_missesWith ∈ GT := gt_in (by decide +kernel) (by decide +kernel)
theorem wd580 : Cond.instanceMethod yX8_missesWith ∈ GT := gt_in (by decide +kernel) (by decide +kernel)
theorem wd581 : Cond.selects RX8 yX8_missesWith yX8_missesWith ∈ GT := gt_in (by decide +kernel) (by decide +kernel)
theorem wd582 : Cond.methodLink RX8 232 Lib.Math.abs.name ∈ GT := gt_in (by decide +kernel) (by decide +kernel)
theorem wd583 : Cond.static Lib.Math.abs.name ∈ GT := gt_in (by decide +kernel) (by decide +kernel)
theorem wd584 : Cond.code Lib.Math.abs.name Lib.Math.abs.code 1 (some .int) ∈ GT := gt_in (by decide +kernel) (by decide +kernel)
theorem wd585 : Cond.methodLink RX8 235 yX3_countCharacters ∈ GT := gt_in (by decide +kernel) (by decide +kernel)
theorem wd586 : Cond.static yX3_countCharacters ∈ GT := gt_in (by decide +kernel) (by decide +kernel)
theorem wd587 : Cond.methodLink RX8 239 yX3_append ∈ GT := gt_in (by decide +kernel) (by decide +kernel)
theorem wd588 : Cond.instanceMethod yX3_append ∈ GT := gt_in (by decide +kernel) (by decide +kernel)
theorem wd589 : Cond.selects RX3 yX3_append yX3_append ∈ GT := gt_in (by decide +kernel) (by decide +kernel)
theorem wd590 : Cond.methodLink RX8 243 yX3_findFault ∈ GT := gt_in (by decide +kernel) (by decide +kernel)
theorem wd591 : Cond.instanceMethod yX3_findFault ∈ GT := gt_in (by decide +kernel) (by decide +kernel)
theorem wd592 : Cond.selects RX3 yX3_findFault yX3_findFault ∈ GT := gt_in (by decide +kernel) (by decide +kernel)
theorem wd593 : Cond.fieldLink RX8 264 "RadioCues$Pad" "numbers" "[I" ∈ GT := gt_in (by decide +kernel) (by decide +kernel)
theorem wd594 : Cond.fieldLink RX8 267 "RadioCues$Pad" "letter" "C" ∈ GT := gt_in (by decide +kernel) (by decide +kernel)
theorem wd595 : Cond.fieldLink RX8 246 "RadioCues$Pad" "at" "I" ∈ GT := gt_in (by decide +kernel) (by decide +kernel)
theorem wd596 : Cond.methodLink RX8 249 yX3_readOrder ∈ GT := gt_in (by decide +kernel) (by decide +kernel)
theorem wd597 : Cond.methodLink RX8 252 yX8_answerOfOrder ∈ GT := gt_in (by decide +kernel) (by decide +kernel)
theorem wd598 : Cond.instanceMethod yX8_answerOfOrder ∈ GT := gt_in (by decide +kernel) (by decide +kernel)
theorem wd599 : Cond.selects RX8 yX8_answerOfOrder yX8_answerOfOrder ∈ GT := gt_in (by decide +kernel) (by decide +kernel)
theorem wd600 : Cond.methodLink RX9 1 objectInit ∈ GT := gt_in (by decide +kernel) (by decide +kernel)
theorem wd601 : Cond.fieldLink RX9 7 "RadioCuesModel" "s" "[I" ∈ GT := gt_in (by decide +kernel) (by decide +kernel)
theorem wd602 : Cond.fieldLink RX9 13 "RadioCuesModel" "past" "[I" ∈ GT := gt_in (by decide +kernel) (by decide +kernel)
theorem wd603 : Cond.fieldLink RX9 16 "RadioCuesModel" "slots" "[I" ∈ GT := gt_in (by decide +kernel) (by decide +kernel)
theorem wd604 : Cond.fieldLink RX9 19 "RadioCuesModel" "isSaved" "[Z" ∈ GT := gt_in (by decide +kernel) (by decide +kernel)
theorem wd605 : Cond.fieldLink RX9 23 "RadioCuesModel" "spare" "[I" ∈ GT := gt_in (by decide +kernel) (by decide +kernel)
theorem wd606 : Cond.fieldLink RX9 26 "RadioCuesModel" "pad" "[I" ∈ GT := gt_in (by decide +kernel) (by decide +kernel)
theorem wd607 : Cond.fieldLink RX9 29 "RadioCuesModel" "order" "[I" ∈ GT := gt_in (by decide +kernel) (by decide +kernel)
theorem wd608 : Cond.fieldLink RX9 32 "RadioCuesModel" "runs" "Z" ∈ GT := gt_in (by decide +kernel) (by decide +kernel)
theorem wd609 : Cond.fieldLink RX9 36 "RadioCuesModel" "pasts" "I" ∈ GT := gt_in (by decide +kernel) (by decide +kernel)
theorem wd610 : Cond.methodLink RX9 40 yX9_in ∈ GT := gt_in (by decide +kernel) (by decide +kernel)
theorem wd611 : Cond.static yX9_in ∈ GT := gt_in (by decide +kernel) (by decide +kernel)
theorem wd612 : Cond.initialized RX9 ∈ GT := gt_in (by decide +kernel) (by decide +kernel)
theorem wd613 : Cond.methodLink RX9 44 yX9_isReel ∈ GT := gt_in (by decide +kernel) (by decide +kernel)
theorem wd614 : Cond.static yX9_isReel ∈ GT := gt_in (by decide +kernel) (by decide +kernel)
theorem wd615 : Cond.methodLink RX9 48 yX9_reel ∈ GT := gt_in (by decide +kernel) (by decide +kernel)
theorem wd616 : Cond.instanceMethod yX9_reel ∈ GT := gt_in (by decide +kernel) (by decide +kernel)
theorem wd617 : Cond.selects RX9 yX9_reel yX9_reel ∈ GT := gt_in (by decide +kernel) (by decide +kernel)
theorem wd618 : Cond.methodLink RX9 52 yX9_soundAt ∈ GT := gt_in (by decide +kernel) (by decide +kernel)
theorem wd619 : Cond.static yX9_soundAt ∈ GT := gt_in (by decide +kernel) (by decide +kernel)
theorem wd620 : Cond.methodLink RX9 55 yX9_turn ∈ GT := gt_in (by decide +kernel) (by decide +kernel)
theorem wd621 : Cond.instanceMethod yX9_turn ∈ GT := gt_in (by decide +kernel) (by decide +kernel)
theorem wd622 : Cond.selects RX9 yX9_turn yX9_turn ∈ GT := gt_in (by decide +kernel) (by decide +kernel)
theorem wd623 : Cond.methodLink RX9 59 yX9_of ∈ GT := gt_in (by decide +kernel) (by decide +kernel)
theorem wd624 : Cond.instanceMethod yX9_of ∈ GT := gt_in (by decide +kernel) (by decide +kernel)
theorem wd625 : Cond.selects RX9 yX9_of yX9_of ∈ GT := gt_in (by decide +kernel) (by decide +kernel)
theorem wd626 : Cond.methodLink RX9 62 yX9_beginning ∈ GT := gt_in (by decide +kernel) (by decide +kernel)
theorem wd627 : Cond.instanceMethod yX9_beginning ∈ GT := gt_in (by decide +kernel) (by decide +kernel)
theorem wd628 : Cond.selects RX9 yX9_beginning yX9_beginning ∈ GT := gt_in (by decide +kernel) (by decide +kernel)
theorem wd629 : Cond.methodLink RX9 65 yX9_starts ∈ GT := gt_in (by decide +kernel) (by decide +kernel)
theorem wd630 : Cond.instanceMethod yX9_starts ∈ GT := gt_in (by decide +kernel) (by decide +kernel)
theorem wd631 : Cond.selects RX9 yX9_starts yX9_starts ∈ GT := gt_in (by decide +kernel) (by decide +kernel)
theorem wd632 : Cond.methodLink RX9 69 yX9_gives ∈ GT := gt_in (by decide +kernel) (by decide +kernel)
theorem wd633 : Cond.instanceMethod yX9_gives ∈ GT := gt_in (by decide +kernel) (by decide +kernel)
theorem wd634 : Cond.selects RX9 yX9_gives yX9_gives ∈ GT := gt_in (by decide +kernel) (by decide +kernel)
theorem wd635 : Cond.methodLink RX9 72 yX9_nearer ∈ GT := gt_in (by decide +kernel) (by decide +kernel)
theorem wd636 : Cond.static yX9_nearer ∈ GT := gt_in (by decide +kernel) (by decide +kernel)
theorem wd637 : Cond.methodLink RX9 76 yX9_comes ∈ GT := gt_in (by decide +kernel) (by decide +kernel)
theorem wd638 : Cond.instanceMethod yX9_comes ∈ GT := gt_in (by decide +kernel) (by decide +kernel)
theorem wd639 : Cond.selects RX9 yX9_comes yX9_comes ∈ GT := gt_in (by decide +kernel) (by decide +kernel)
theorem wd640 : Cond.methodLink RX9 80 yX9_lay ∈ GT := gt_in (by decide +kernel) (by decide +kernel)
theorem wd641 : Cond.instanceMethod yX9_lay ∈ GT := gt_in (by decide +kernel) (by decide +kernel)
theorem wd642 : Cond.selects RX9 yX9_lay yX9_lay ∈ GT := gt_in (by decide +kernel) (by decide +kernel)
theorem wd643 : Cond.methodLink RX9 83 yX9_heard ∈ GT := gt_in (by decide +kernel) (by decide +kernel)
theorem wd644 : Cond.instanceMethod yX9_heard ∈ GT := gt_in (by decide +kernel) (by decide +kernel)
theorem wd645 : Cond.selects RX9 yX9_heard yX9_heard ∈ GT := gt_in (by decide +kernel) (by decide +kernel)
theorem wd646 : Cond.methodLink RX9 87 yX9_goesOn ∈ GT := gt_in (by decide +kernel) (by decide +kernel)
theorem wd647 : Cond.instanceMethod yX9_goesOn ∈ GT := gt_in (by decide +kernel) (by decide +kernel)
theorem wd648 : Cond.selects RX9 yX9_goesOn yX9_goesOn ∈ GT := gt_in (by decide +kernel) (by decide +kernel)
theorem wd649 : Cond.methodLink RX9 91 yX9_next ∈ GT := gt_in (by decide +kernel) (by decide +kernel)
theorem wd650 : Cond.instanceMethod yX9_next ∈ GT := gt_in (by decide +kernel) (by decide +kernel)
theorem wd651 : Cond.selects RX9 yX9_next yX9_next ∈ GT := gt_in (by decide +kernel) (by decide +kernel)
theorem wd652 : Cond.methodLink RX9 94 yX9_winds ∈ GT := gt_in (by decide +kernel) (by decide +kernel)
theorem wd653 : Cond.instanceMethod yX9_winds ∈ GT := gt_in (by decide +kernel) (by decide +kernel)
theorem wd654 : Cond.selects RX9 yX9_winds yX9_winds ∈ GT := gt_in (by decide +kernel) (by decide +kernel)
theorem wd655 : Cond.methodLink RX9 97 yX9_fall ∈ GT := gt_in (by decide +kernel) (by decide +kernel)
theorem wd656 : Cond.instanceMethod yX9_fall ∈ GT := gt_in (by decide +kernel) (by decide +kernel)
theorem wd657 : Cond.selects RX9 yX9_fall yX9_fall ∈ GT := gt_in (by decide +kernel) (by decide +kernel)
theorem wd658 : Cond.methodLink RX9 100 yX9_least ∈ GT := gt_in (by decide +kernel) (by decide +kernel)
theorem wd659 : Cond.static yX9_least ∈ GT := gt_in (by decide +kernel) (by decide +kernel)
theorem wd660 : Cond.methodLink RX9 103 yX9_most ∈ GT := gt_in (by decide +kernel) (by decide +kernel)
theorem wd661 : Cond.static yX9_most ∈ GT := gt_in (by decide +kernel) (by decide +kernel)
theorem wd662 : Cond.methodLink RX9 106 yX9_changes ∈ GT := gt_in (by decide +kernel) (by decide +kernel)
theorem wd663 : Cond.instanceMethod yX9_changes ∈ GT := gt_in (by decide +kernel) (by decide +kernel)
theorem wd664 : Cond.selects RX9 yX9_changes yX9_changes ∈ GT := gt_in (by decide +kernel) (by decide +kernel)
theorem wd665 : Cond.methodLink RX9 109 yX9_isSound ∈ GT := gt_in (by decide +kernel) (by decide +kernel)
theorem wd666 : Cond.instanceMethod yX9_isSound ∈ GT := gt_in (by decide +kernel) (by decide +kernel)
theorem wd667 : Cond.selects RX9 yX9_isSound yX9_isSound ∈ GT := gt_in (by decide +kernel) (by decide +kernel)
theorem wd668 : Cond.methodLink RX9 113 yX9_opens ∈ GT := gt_in (by decide +kernel) (by decide +kernel)
theorem wd669 : Cond.instanceMethod yX9_opens ∈ GT := gt_in (by decide +kernel) (by decide +kernel)
theorem wd670 : Cond.selects RX9 yX9_opens yX9_opens ∈ GT := gt_in (by decide +kernel) (by decide +kernel)
theorem wd671 : Cond.methodLink RX9 116 yX9_isCue ∈ GT := gt_in (by decide +kernel) (by decide +kernel)
theorem wd672 : Cond.instanceMethod yX9_isCue ∈ GT := gt_in (by decide +kernel) (by decide +kernel)
theorem wd673 : Cond.selects RX9 yX9_isCue yX9_isCue ∈ GT := gt_in (by decide +kernel) (by decide +kernel)
theorem wd674 : Cond.methodLink RX9 119 yX9_closes ∈ GT := gt_in (by decide +kernel) (by decide +kernel)
theorem wd675 : Cond.instanceMethod yX9_closes ∈ GT := gt_in (by decide +kernel) (by decide +kernel)
theorem wd676 : Cond.selects RX9 yX9_closes yX9_closes ∈ GT := gt_in (by decide +kernel) (by decide +kernel)
theorem wd677 : Cond.methodLink RX9 122 yX9_whyNotMoved ∈ GT := gt_in (by decide +kernel) (by decide +kernel)
theorem wd678 : Cond.instanceMethod yX9_whyNotMoved ∈ GT := gt_in (by decide +kernel) (by decide +kernel)
theorem wd679 : Cond.selects RX9 yX9_whyNotMoved yX9_whyNotMoved ∈ GT := gt_in (by decide +kernel) (by decide +kernel)
theorem wd680 : Cond.methodLink RX9 125 yX9_moves ∈ GT := gt_in (by decide +kernel) (by decide +kernel)
theorem wd681 : Cond.instanceMethod yX9_moves ∈ GT := gt_in (by decide +kernel) (by decide +kernel)
theorem wd682 : Cond.selects RX9 yX9_moves yX9_moves ∈ GT := gt_in (by decide +kernel) (by decide +kernel)
theorem wd683 : Cond.methodLink RX9 128 yX9_passes ∈ GT := gt_in (by decide +kernel) (by decide +kernel)
theorem wd684 : Cond.instanceMethod yX9_passes ∈ GT := gt_in (by decide +kernel) (by decide +kernel)
theorem wd685 : Cond.selects RX9 yX9_passes yX9_passes ∈ GT := gt_in (by decide +kernel) (by decide +kernel)
theorem wd686 : Cond.methodLink RX9 131 yX9_doorsOn ∈ GT := gt_in (by decide +kernel) (by decide +kernel)
theorem wd687 : Cond.instanceMethod yX9_doorsOn ∈ GT := gt_in (by decide +kernel) (by decide +kernel)
theorem wd688 : Cond.selects RX9 yX9_doorsOn yX9_doorsOn ∈ GT := gt_in (by decide +kernel) (by decide +kernel)
theorem wd689 : Cond.fieldLink RX9 146 "RadioCuesModel" "typed" "I" ∈ GT := gt_in (by decide +kernel) (by decide +kernel)
theorem wd690 : Cond.methodLink RX9 134 yX9_cuesThat ∈ GT := gt_in (by decide +kernel) (by decide +kernel)
theorem wd691 : Cond.instanceMethod yX9_cuesThat ∈ GT := gt_in (by decide +kernel) (by decide +kernel)
theorem wd692 : Cond.selects RX9 yX9_cuesThat yX9_cuesThat ∈ GT := gt_in (by decide +kernel) (by decide +kernel)
theorem wd693 : Cond.methodLink RX9 137 yX9_loudest ∈ GT := gt_in (by decide +kernel) (by decide +kernel)
theorem wd694 : Cond.instanceMethod yX9_loudest ∈ GT := gt_in (by decide +kernel) (by decide +kernel)
theorem wd695 : Cond.selects RX9 yX9_loudest yX9_loudest ∈ GT := gt_in (by decide +kernel) (by decide +kernel)
theorem wd696 : Cond.methodLink RX9 140 yX9_tooLoud ∈ GT := gt_in (by decide +kernel) (by decide +kernel)
theorem wd697 : Cond.instanceMethod yX9_tooLoud ∈ GT := gt_in (by decide +kernel) (by decide +kernel)
theorem wd698 : Cond.selects RX9 yX9_tooLoud yX9_tooLoud ∈ GT := gt_in (by decide +kernel) (by decide +kernel)
theorem wd699 : Cond.methodLink RX9 143 yX9_playing ∈ GT := gt_in (by decide +kernel) (by decide +kernel)
theorem wd700 : Cond.instanceMethod yX9_playing ∈ GT := gt_in (by decide +kernel) (by decide +kernel)
theorem wd701 : Cond.selects RX9 yX9_playing yX9_playing ∈ GT := gt_in (by decide +kernel) (by decide +kernel)
theorem wd702 : Cond.methodLink RX9 149 yX9_putsAside ∈ GT := gt_in (by decide +kernel) (by decide +kernel)
theorem wd703 : Cond.instanceMethod yX9_putsAside ∈ GT := gt_in (by decide +kernel) (by decide +kernel)
theorem wd704 : Cond.selects RX9 yX9_putsAside yX9_putsAside ∈ GT := gt_in (by decide +kernel) (by decide +kernel)
theorem wd705 : Cond.methodLink RX9 152 yX9_playsRest ∈ GT := gt_in (by decide +kernel) (by decide +kernel)
theorem wd706 : Cond.instanceMethod yX9_playsRest ∈ GT := gt_in (by decide +kernel) (by decide +kernel)
theorem wd707 : Cond.selects RX9 yX9_playsRest yX9_playsRest ∈ GT := gt_in (by decide +kernel) (by decide +kernel)
theorem wd708 : Cond.methodLink RX9 155 yX9_putsBack ∈ GT := gt_in (by decide +kernel) (by decide +kernel)
theorem wd709 : Cond.instanceMethod yX9_putsBack ∈ GT := gt_in (by decide +kernel) (by decide +kernel)
theorem wd710 : Cond.selects RX9 yX9_putsBack yX9_putsBack ∈ GT := gt_in (by decide +kernel) (by decide +kernel)
theorem wd711 : Cond.constantLong RX9 158 (255) ∈ GT := gt_in (by decide +kernel) (by decide +kernel)
theorem wd712 : Cond.fieldLink RX9 160 "RadioCuesModel" "spot" "I" ∈ GT := gt_in (by decide +kernel) (by decide +kernel)
theorem wd713 : Cond.methodLink RX9 163 yX9_isAt ∈ GT := gt_in (by decide +kernel) (by decide +kernel)
theorem wd714 : Cond.instanceMethod yX9_isAt ∈ GT := gt_in (by decide +kernel) (by decide +kernel)
theorem wd715 : Cond.selects RX9 yX9_isAt yX9_isAt ∈ GT := gt_in (by decide +kernel) (by decide +kernel)
theorem wd716 : Cond.fieldLink RX9 166 "RadioCuesModel" "orders" "I" ∈ GT := gt_in (by decide +kernel) (by decide +kernel)
theorem wd717 : Cond.methodLink RX9 169 yX9_digit ∈ GT := gt_in (by decide +kernel) (by decide +kernel)
theorem wd718 : Cond.instanceMethod yX9_digit ∈ GT := gt_in (by decide +kernel) (by decide +kernel)
theorem wd719 : Cond.selects RX9 yX9_digit yX9_digit ∈ GT := gt_in (by decide +kernel) (by decide +kernel)
theorem wd720 : Cond.methodLink RX9 172 yX9_sign ∈ GT := gt_in (by decide +kernel) (by decide +kernel)
theorem wd721 : Cond.instanceMethod yX9_sign ∈ GT := gt_in (by decide +kernel) (by decide +kernel)
theorem wd722 : Cond.selects RX9 yX9_sign yX9_sign ∈ GT := gt_in (by decide +kernel) (by decide +kernel)
theorem wd723 : Cond.methodLink RX9 175 yX9_number ∈ GT := gt_in (by decide +kernel) (by decide +kernel)
theorem wd724 : Cond.instanceMethod yX9_number ∈ GT := gt_in (by decide +kernel) (by decide +kernel)
theorem wd725 : Cond.selects RX9 yX9_number yX9_number ∈ GT := gt_in (by decide +kernel) (by decide +kernel)
theorem wd726 : Cond.methodLink RX9 178 yX9_reads ∈ GT := gt_in (by decide +kernel) (by decide +kernel)
theorem wd727 : Cond.instanceMethod yX9_reads ∈ GT := gt_in (by decide +kernel) (by decide +kernel)
theorem wd728 : Cond.selects RX9 yX9_reads yX9_reads ∈ GT := gt_in (by decide +kernel) (by decide +kernel)
theorem wd729 : Cond.methodLink RX9 182 yX9_sound ∈ GT := gt_in (by decide +kernel) (by decide +kernel)
theorem wd730 : Cond.instanceMethod yX9_sound ∈ GT := gt_in (by decide +kernel) (by decide +kernel)
theorem wd731 : Cond.selects RX9 yX9_sound yX9_sound ∈ GT := gt_in (by decide +kernel) (by decide +kernel)
theorem wd732 : Cond.methodLink RX9 185 yX9_cue ∈ GT := gt_in (by decide +kernel) (by decide +kernel)
theorem wd733 : Cond.instanceMethod yX9_cue ∈ GT := gt_in (by decide +kernel) (by decide +kernel)
theorem wd734 : Cond.selects RX9 yX9_cue yX9_cue ∈ GT := gt_in (by decide +kernel) (by decide +kernel)
theorem wd735 : Cond.methodLink RX9 189 yX9_pass ∈ GT := gt_in (by decide +kernel) (by decide +kernel)
theorem wd736 : Cond.instanceMethod yX9_pass ∈ GT := gt_in (by decide +kernel) (by decide +kernel)
theorem wd737 : Cond.selects RX9 yX9_pass yX9_pass ∈ GT := gt_in (by decide +kernel) (by decide +kernel)
theorem wd738 : Cond.methodLink RX9 192 yX9_fault ∈ GT := gt_in (by decide +kernel) (by decide +kernel)
theorem wd739 : Cond.instanceMethod yX9_fault ∈ GT := gt_in (by decide +kernel) (by decide +kernel)
theorem wd740 : Cond.selects RX9 yX9_fault yX9_fault ∈ GT := gt_in (by decide +kernel) (by decide +kernel)
theorem wd741 : Cond.methodLink RX9 195 yX9_does ∈ GT := gt_in (by decide +kernel) (by decide +kernel)
theorem wd742 : Cond.instanceMethod yX9_does ∈ GT := gt_in (by decide +kernel) (by decide +kernel)
theorem wd743 : Cond.selects RX9 yX9_does yX9_does ∈ GT := gt_in (by decide +kernel) (by decide +kernel)
theorem wd744 : Cond.classLink RL 7 RX8 ∈ GT := gt_in (by decide +kernel) (by decide +kernel)
theorem wd745 : Cond.instantiable RX8 7 ∈ GT := gt_in (by decide +kernel) (by decide +kernel)
theorem wd746 : Cond.classLink RL 10 RX9 ∈ GT := gt_in (by decide +kernel) (by decide +kernel)
theorem wd747 : Cond.instantiable RX9 12 ∈ GT := gt_in (by decide +kernel) (by decide +kernel)
theorem wd748 : Cond.constantLong RL 98 (4294967295) ∈ GT := gt_in (by decide +kernel) (by decide +kernel)
theorem wd749 : Cond.methodLink RL 9 yX8_init ∈ GT := gt_in (by decide +kernel) (by decide +kernel)
theorem wd750 : Cond.instanceMethod yX8_init ∈ GT := gt_in (by decide +kernel) (by decide +kernel)
theorem wd751 : Cond.methodLink RL 12 yX9_init ∈ GT := gt_in (by decide +kernel) (by decide +kernel)
theorem wd752 : Cond.instanceMethod yX9_init ∈ GT := gt_in (by decide +kernel) (by decide +kernel)
theorem wd753 : Cond.methodLink RL 13 yX8_set ∈ GT := gt_in (by decide +kernel) (by decide +kernel)
theorem wd754 : Cond.instanceMethod yX8_set ∈ GT := gt_in (by decide +kernel) (by decide +kernel)
theorem wd755 : Cond.selects RX8 yX8_set yX8_set ∈ GT := gt_in (by decide +kernel) (by decide +kernel)
theorem wd756 : Cond.methodLink RL 17 yX9_set ∈ GT := gt_in (by decide +kernel) (by decide +kernel)
theorem wd757 : Cond.instanceMethod yX9_set ∈ GT := gt_in (by decide +kernel) (by decide +kernel)
theorem wd758 : Cond.selects RX9 yX9_set yX9_set ∈ GT := gt_in (by decide +kernel) (by decide +kernel)
theorem wd759 : Cond.methodLink RL 18 yX8_sound ∈ GT := gt_in (by decide +kernel) (by decide +kernel)
theorem wd760 : Cond.instanceMethod yX8_sound ∈ GT := gt_in (by decide +kernel) (by decide +kernel)
theorem wd761 : Cond.selects RX8 yX8_sound yX8_sound ∈ GT := gt_in (by decide +kernel) (by decide +kernel)
theorem wd762 : Cond.methodLink RL 22 yX9_sound ∈ GT := gt_in (by decide +kernel) (by decide +kernel)
theorem wd763 : Cond.methodLink RL 23 yX8_cue ∈ GT := gt_in (by decide +kernel) (by decide +kernel)
theorem wd764 : Cond.instanceMethod yX8_cue ∈ GT := gt_in (by decide +kernel) (by decide +kernel)
theorem wd765 : Cond.selects RX8 yX8_cue yX8_cue ∈ GT := gt_in (by decide +kernel) (by decide +kernel)
theorem wd766 : Cond.methodLink RL 27 yX9_cue ∈ GT := gt_in (by decide +kernel) (by decide +kernel)
theorem wd767 : Cond.methodLink RL 28 yX8_takeOut ∈ GT := gt_in (by decide +kernel) (by decide +kernel)
theorem wd768 : Cond.instanceMethod yX8_takeOut ∈ GT := gt_in (by decide +kernel) (by decide +kernel)
theorem wd769 : Cond.selects RX8 yX8_takeOut yX8_takeOut ∈ GT := gt_in (by decide +kernel) (by decide +kernel)
theorem wd770 : Cond.methodLink RL 32 yX9_takeOut ∈ GT := gt_in (by decide +kernel) (by decide +kernel)
theorem wd771 : Cond.instanceMethod yX9_takeOut ∈ GT := gt_in (by decide +kernel) (by decide +kernel)
theorem wd772 : Cond.selects RX9 yX9_takeOut yX9_takeOut ∈ GT := gt_in (by decide +kernel) (by decide +kernel)
theorem wd773 : Cond.methodLink RL 33 yX8_move ∈ GT := gt_in (by decide +kernel) (by decide +kernel)
theorem wd774 : Cond.instanceMethod yX8_move ∈ GT := gt_in (by decide +kernel) (by decide +kernel)
theorem wd775 : Cond.selects RX8 yX8_move yX8_move ∈ GT := gt_in (by decide +kernel) (by decide +kernel)
theorem wd776 : Cond.methodLink RL 36 yX9_move ∈ GT := gt_in (by decide +kernel) (by decide +kernel)
theorem wd777 : Cond.instanceMethod yX9_move ∈ GT := gt_in (by decide +kernel) (by decide +kernel)
theorem wd778 : Cond.selects RX9 yX9_move yX9_move ∈ GT := gt_in (by decide +kernel) (by decide +kernel)
theorem wd779 : Cond.methodLink RL 37 yX8_goal ∈ GT := gt_in (by decide +kernel) (by decide +kernel)
theorem wd780 : Cond.instanceMethod yX8_goal ∈ GT := gt_in (by decide +kernel) (by decide +kernel)
theorem wd781 : Cond.selects RX8 yX8_goal yX8_goal ∈ GT := gt_in (by decide +kernel) (by decide +kernel)
theorem wd782 : Cond.methodLink RL 40 yX9_goal ∈ GT := gt_in (by decide +kernel) (by decide +kernel)
theorem wd783 : Cond.instanceMethod yX9_goal ∈ GT := gt_in (by decide +kernel) (by decide +kernel)
theorem wd784 : Cond.selects RX9 yX9_goal yX9_goal ∈ GT := gt_in (by decide +kernel) (by decide +kernel)
theorem wd785 : Cond.methodLink RL 41 yX8_begin ∈ GT := gt_in (by decide +kernel) (by decide +kernel)
theorem wd786 : Cond.instanceMethod yX8_begin ∈ GT := gt_in (by decide +kernel) (by decide +kernel)
theorem wd787 : Cond.selects RX8 yX8_begin yX8_begin ∈ GT := gt_in (by decide +kernel) (by decide +kernel)
theorem wd788 : Cond.methodLink RL 45 yX9_begin ∈ GT := gt_in (by decide +kernel) (by decide +kernel)
theorem wd789 : Cond.instanceMethod yX9_begin ∈ GT := gt_in (by decide +kernel) (by decide +kernel)
theorem wd790 : Cond.selects RX9 yX9_begin yX9_begin ∈ GT := gt_in (by decide +kernel) (by decide +kernel)
theorem wd791 : Cond.methodLink RL 46 yX8_pass ∈ GT := gt_in (by decide +kernel) (by decide +kernel)
theorem wd792 : Cond.instanceMethod yX8_pass ∈ GT := gt_in (by decide +kernel) (by decide +kernel)
theorem wd793 : Cond.selects RX8 yX8_pass yX8_pass ∈ GT := gt_in (by decide +kernel) (by decide +kernel)
theorem wd794 : Cond.methodLink RL 49 yX9_pass ∈ GT := gt_in (by decide +kernel) (by decide +kernel)
theorem wd795 : Cond.methodLink RL 50 yX8_ofCue ∈ GT := gt_in (by decide +kernel) (by decide +kernel)
theorem wd796 : Cond.instanceMethod yX8_ofCue ∈ GT := gt_in (by decide +kernel) (by decide +kernel)
theorem wd797 : Cond.selects RX8 yX8_ofCue yX8_ofCue ∈ GT := gt_in (by decide +kernel) (by decide +kernel)
theorem wd798 : Cond.methodLink RL 53 yX9_ofCue ∈ GT := gt_in (by decide +kernel) (by decide +kernel)
theorem wd799 : Cond.instanceMethod yX9_ofCue ∈ GT := gt_in (by decide +kernel) (by decide +kernel)
theorem wd800 : Cond.selects RX9 yX9_ofCue yX9_ofCue ∈ GT := gt_in (by decide +kernel) (by decide +kernel)
theorem wd801 : Cond.methodLink RL 54 yX8_ofReel ∈ GT := gt_in (by decide +kernel) (by decide +kernel)
theorem wd802 : Cond.instanceMethod yX8_ofReel ∈ GT := gt_in (by decide +kernel) (by decide +kernel)
theorem wd803 : Cond.selects RX8 yX8_ofReel yX8_ofReel ∈ GT := gt_in (by decide +kernel) (by decide +kernel)
theorem wd804 : Cond.methodLink RL 57 yX9_ofReel ∈ GT := gt_in (by decide +kernel) (by decide +kernel)
theorem wd805 : Cond.instanceMethod yX9_ofReel ∈ GT := gt_in (by decide +kernel) (by decide +kernel)
theorem wd806 : Cond.selects RX9 yX9_ofReel yX9_ofReel ∈ GT := gt_in (by decide +kernel) (by decide +kernel)
theorem wd807 : Cond.methodLink RL 58 yX8_ofSound ∈ GT := gt_in (by decide +kernel) (by decide +kernel)
theorem wd808 : Cond.instanceMethod yX8_ofSound ∈ GT := gt_in (by decide +kernel) (by decide +kernel)
theorem wd809 : Cond.selects RX8 yX8_ofSound yX8_ofSound ∈ GT := gt_in (by decide +kernel) (by decide +kernel)
theorem wd810 : Cond.methodLink RL 61 yX9_ofSound ∈ GT := gt_in (by decide +kernel) (by decide +kernel)
theorem wd811 : Cond.instanceMethod yX9_ofSound ∈ GT := gt_in (by decide +kernel) (by decide +kernel)
theorem wd812 : Cond.selects RX9 yX9_ofSound yX9_ofSound ∈ GT := gt_in (by decide +kernel) (by decide +kernel)
theorem wd813 : Cond.methodLink RL 62 yX8_played ∈ GT := gt_in (by decide +kernel) (by decide +kernel)
theorem wd814 : Cond.instanceMethod yX8_played ∈ GT := gt_in (by decide +kernel) (by decide +kernel)
theorem wd815 : Cond.selects RX8 yX8_played yX8_played ∈ GT := gt_in (by decide +kernel) (by decide +kernel)
theorem wd816 : Cond.methodLink RL 65 yX9_played ∈ GT := gt_in (by decide +kernel) (by decide +kernel)
theorem wd817 : Cond.instanceMethod yX9_played ∈ GT := gt_in (by decide +kernel) (by decide +kernel)
theorem wd818 : Cond.selects RX9 yX9_played yX9_played ∈ GT := gt_in (by decide +kernel) (by decide +kernel)
theorem wd819 : Cond.methodLink RL 66 yX8_ofChannel ∈ GT := gt_in (by decide +kernel) (by decide +kernel)
theorem wd820 : Cond.instanceMethod yX8_ofChannel ∈ GT := gt_in (by decide +kernel) (by decide +kernel)
theorem wd821 : Cond.selects RX8 yX8_ofChannel yX8_ofChannel ∈ GT := gt_in (by decide +kernel) (by decide +kernel)
theorem wd822 : Cond.methodLink RL 69 yX9_ofChannel ∈ GT := gt_in (by decide +kernel) (by decide +kernel)
theorem wd823 : Cond.instanceMethod yX9_ofChannel ∈ GT := gt_in (by decide +kernel) (by decide +kernel)
theorem wd824 : Cond.selects RX9 yX9_ofChannel yX9_ofChannel ∈ GT := gt_in (by decide +kernel) (by decide +kernel)
theorem wd825 : Cond.methodLink RL 70 yX8_loud ∈ GT := gt_in (by decide +kernel) (by decide +kernel)
theorem wd826 : Cond.instanceMethod yX8_loud ∈ GT := gt_in (by decide +kernel) (by decide +kernel)
theorem wd827 : Cond.selects RX8 yX8_loud yX8_loud ∈ GT := gt_in (by decide +kernel) (by decide +kernel)
theorem wd828 : Cond.methodLink RL 73 yX9_loud ∈ GT := gt_in (by decide +kernel) (by decide +kernel)
theorem wd829 : Cond.instanceMethod yX9_loud ∈ GT := gt_in (by decide +kernel) (by decide +kernel)
theorem wd830 : Cond.selects RX9 yX9_loud yX9_loud ∈ GT := gt_in (by decide +kernel) (by decide +kernel)
theorem wd831 : Cond.methodLink RL 74 yX8_count ∈ GT := gt_in (by decide +kernel) (by decide +kernel)
theorem wd832 : Cond.instanceMethod yX8_count ∈ GT := gt_in (by decide +kernel) (by decide +kernel)
theorem wd833 : Cond.selects RX8 yX8_count yX8_count ∈ GT := gt_in (by decide +kernel) (by decide +kernel)
theorem wd834 : Cond.methodLink RL 77 yX9_count ∈ GT := gt_in (by decide +kernel) (by decide +kernel)
theorem wd835 : Cond.instanceMethod yX9_count ∈ GT := gt_in (by decide +kernel) (by decide +kernel)
theorem wd836 : Cond.selects RX9 yX9_count yX9_count ∈ GT := gt_in (by decide +kernel) (by decide +kernel)
theorem wd837 : Cond.methodLink RL 78 yX8_rest ∈ GT := gt_in (by decide +kernel) (by decide +kernel)
theorem wd838 : Cond.instanceMethod yX8_rest ∈ GT := gt_in (by decide +kernel) (by decide +kernel)
theorem wd839 : Cond.selects RX8 yX8_rest yX8_rest ∈ GT := gt_in (by decide +kernel) (by decide +kernel)
theorem wd840 : Cond.methodLink RL 81 yX9_rest ∈ GT := gt_in (by decide +kernel) (by decide +kernel)
theorem wd841 : Cond.instanceMethod yX9_rest ∈ GT := gt_in (by decide +kernel) (by decide +kernel)
theorem wd842 : Cond.selects RX9 yX9_rest yX9_rest ∈ GT := gt_in (by decide +kernel) (by decide +kernel)
theorem wd843 : Cond.methodLink RL 82 yX8_becomes ∈ GT := gt_in (by decide +kernel) (by decide +kernel)
theorem wd844 : Cond.instanceMethod yX8_becomes ∈ GT := gt_in (by decide +kernel) (by decide +kernel)
theorem wd845 : Cond.selects RX8 yX8_becomes yX8_becomes ∈ GT := gt_in (by decide +kernel) (by decide +kernel)
theorem wd846 : Cond.methodLink RL 85 yX9_becomes ∈ GT := gt_in (by decide +kernel) (by decide +kernel)
theorem wd847 : Cond.instanceMethod yX9_becomes ∈ GT := gt_in (by decide +kernel) (by decide +kernel)
theorem wd848 : Cond.selects RX9 yX9_becomes yX9_becomes ∈ GT := gt_in (by decide +kernel) (by decide +kernel)
theorem wd849 : Cond.methodLink RL 86 yX8_leastWind ∈ GT := gt_in (by decide +kernel) (by decide +kernel)
theorem wd850 : Cond.instanceMethod yX8_leastWind ∈ GT := gt_in (by decide +kernel) (by decide +kernel)
theorem wd851 : Cond.selects RX8 yX8_leastWind yX8_leastWind ∈ GT := gt_in (by decide +kernel) (by decide +kernel)
theorem wd852 : Cond.methodLink RL 89 yX9_leastWind ∈ GT := gt_in (by decide +kernel) (by decide +kernel)
theorem wd853 : Cond.instanceMethod yX9_leastWind ∈ GT := gt_in (by decide +kernel) (by decide +kernel)
theorem wd854 : Cond.selects RX9 yX9_leastWind yX9_leastWind ∈ GT := gt_in (by decide +kernel) (by decide +kernel)
theorem wd855 : Cond.methodLink RL 90 yX8_ifMoved ∈ GT := gt_in (by decide +kernel) (by decide +kernel)
theorem wd856 : Cond.instanceMethod yX8_ifMoved ∈ GT := gt_in (by decide +kernel) (by decide +kernel)
theorem wd857 : Cond.selects RX8 yX8_ifMoved yX8_ifMoved ∈ GT := gt_in (by decide +kernel) (by decide +kernel)
theorem wd858 : Cond.methodLink RL 93 yX9_ifMoved ∈ GT := gt_in (by decide +kernel) (by decide +kernel)
theorem wd859 : Cond.instanceMethod yX9_ifMoved ∈ GT := gt_in (by decide +kernel) (by decide +kernel)
theorem wd860 : Cond.selects RX9 yX9_ifMoved yX9_ifMoved ∈ GT := gt_in (by decide +kernel) (by decide +kernel)
theorem wd861 : Cond.methodLink RL 94 yX8_readyIn ∈ GT := gt_in (by decide +kernel) (by decide +kernel)
theorem wd862 : Cond.instanceMethod yX8_readyIn ∈ GT := gt_in (by decide +kernel) (by decide +kernel)
theorem wd863 : Cond.selects RX8 yX8_readyIn yX8_readyIn ∈ GT := gt_in (by decide +kernel) (by decide +kernel)
theorem wd864 : Cond.methodLink RL 97 yX9_readyIn ∈ GT := gt_in (by decide +kernel) (by decide +kernel)
theorem wd865 : Cond.instanceMethod yX9_readyIn ∈ GT := gt_in (by decide +kernel) (by decide +kernel)
theorem wd866 : Cond.selects RX9 yX9_readyIn yX9_readyIn ∈ GT := gt_in (by decide +kernel) (by decide +kernel)
theorem wd867 : Cond.methodLink RL 100 yX8_put ∈ GT := gt_in (by decide +kernel) (by decide +kernel)
theorem wd868 : Cond.instanceMethod yX8_put ∈ GT := gt_in (by decide +kernel) (by decide +kernel)
theorem wd869 : Cond.selects RX8 yX8_put yX8_put ∈ GT := gt_in (by decide +kernel) (by decide +kernel)
theorem wd870 : Cond.methodLink RL 104 yX9_put ∈ GT := gt_in (by decide +kernel) (by decide +kernel)
theorem wd871 : Cond.instanceMethod yX9_put ∈ GT := gt_in (by decide +kernel) (by decide +kernel)
theorem wd872 : Cond.selects RX9 yX9_put yX9_put ∈ GT := gt_in (by decide +kernel) (by decide +kernel)
theorem wd873 : Cond.methodLink RL 105 yX8_wipe ∈ GT := gt_in (by decide +kernel) (by decide +kernel)
theorem wd874 : Cond.instanceMethod yX8_wipe ∈ GT := gt_in (by decide +kernel) (by decide +kernel)
theorem wd875 : Cond.selects RX8 yX8_wipe yX8_wipe ∈ GT := gt_in (by decide +kernel) (by decide +kernel)
theorem wd876 : Cond.methodLink RL 108 yX9_wipe ∈ GT := gt_in (by decide +kernel) (by decide +kernel)
theorem wd877 : Cond.instanceMethod yX9_wipe ∈ GT := gt_in (by decide +kernel) (by decide +kernel)
theorem wd878 : Cond.selects RX9 yX9_wipe yX9_wipe ∈ GT := gt_in (by decide +kernel) (by decide +kernel)
theorem wd879 : Cond.methodLink RL 109 yX8_fault ∈ GT := gt_in (by decide +kernel) (by decide +kernel)
theorem wd880 : Cond.instanceMethod yX8_fault ∈ GT := gt_in (by decide +kernel) (by decide +kernel)
theorem wd881 : Cond.selects RX8 yX8_fault yX8_fault ∈ GT := gt_in (by decide +kernel) (by decide +kernel)
theorem wd882 : Cond.methodLink RL 112 yX9_fault ∈ GT := gt_in (by decide +kernel) (by decide +kernel)
theorem wd883 : Cond.methodLink RL 113 yX8_carryOut ∈ GT := gt_in (by decide +kernel) (by decide +kernel)
theorem wd884 : Cond.instanceMethod yX8_carryOut ∈ GT := gt_in (by decide +kernel) (by decide +kernel)
theorem wd885 : Cond.selects RX8 yX8_carryOut yX8_carryOut ∈ GT := gt_in (by decide +kernel) (by decide +kernel)
theorem wd886 : Cond.methodLink RL 116 yX9_carryOut ∈ GT := gt_in (by decide +kernel) (by decide +kernel)
theorem wd887 : Cond.instanceMethod yX9_carryOut ∈ GT := gt_in (by decide +kernel) (by decide +kernel)
theorem wd888 : Cond.selects RX9 yX9_carryOut yX9_carryOut ∈ GT := gt_in (by decide +kernel) (by decide +kernel)
theorem wd889 : Cond.methodLink RL 117 yX8_undo ∈ GT := gt_in (by decide +kernel) (by decide +kernel)
theorem wd890 : Cond.instanceMethod yX8_undo ∈ GT := gt_in (by decide +kernel) (by decide +kernel)
theorem wd891 : Cond.selects RX8 yX8_undo yX8_undo ∈ GT := gt_in (by decide +kernel) (by decide +kernel)
theorem wd892 : Cond.methodLink RL 120 yX9_undo ∈ GT := gt_in (by decide +kernel) (by decide +kernel)
theorem wd893 : Cond.instanceMethod yX9_undo ∈ GT := gt_in (by decide +kernel) (by decide +kernel)
theorem wd894 : Cond.selects RX9 yX9_undo yX9_undo ∈ GT := gt_in (by decide +kernel) (by decide +kernel)
theorem wd895 : Cond.methodLink RL 121 yX8_save ∈ GT := gt_in (by decide +kernel) (by decide +kernel)
theorem wd896 : Cond.instanceMethod yX8_save ∈ GT := gt_in (by decide +kernel) (by decide +kernel)
theorem wd897 : Cond.selects RX8 yX8_save yX8_save ∈ GT := gt_in (by decide +kernel) (by decide +kernel)
theorem wd898 : Cond.methodLink RL 124 yX9_save ∈ GT := gt_in (by decide +kernel) (by decide +kernel)
theorem wd899 : Cond.instanceMethod yX9_save ∈ GT := gt_in (by decide +kernel) (by decide +kernel)
theorem wd900 : Cond.selects RX9 yX9_save yX9_save ∈ GT := gt_in (by decide +kernel) (by decide +kernel)
theorem wd901 : Cond.methodLink RL 125 yX8_restore ∈ GT := gt_in (by decide +kernel) (by decide +kernel)
theorem wd902 : Cond.instanceMethod yX8_restore ∈ GT := gt_in (by decide +kernel) (by decide +kernel)
theorem wd903 : Cond.selects RX8 yX8_restore yX8_restore ∈ GT := gt_in (by decide +kernel) (by decide +kernel)
theorem wd904 : Cond.methodLink RL 128 yX9_restore ∈ GT := gt_in (by decide +kernel) (by decide +kernel)
theorem wd905 : Cond.instanceMethod yX9_restore ∈ GT := gt_in (by decide +kernel) (by decide +kernel)
theorem wd906 : Cond.selects RX9 yX9_restore yX9_restore ∈ GT := gt_in (by decide +kernel) (by decide +kernel)
theorem inG0 : ∀ w ∈ wsX00, w ∈ GT := by
  intro w hw
  exact gt_in ((by decide +kernel : ∀ w ∈ wsX00, w ∈ lw_tbl) w hw) (List.all_eq_true.mp (by decide +kernel : wsX00.all goodWord = true) w hw)
theorem inG1 : ∀ w ∈ wsX10, w ∈ GT := by
  intro w hw
  exact gt_in ((by decide +kernel : ∀ w ∈ wsX10, w ∈ lw_tbl) w hw) (List.all_eq_true.mp (by decide +kernel : wsX10.all goodWord = true) w hw)
theorem inG2 : ∀ w ∈ wsX20, w ∈ GT := by
  intro w hw
  exact gt_in ((by decide +kernel : ∀ w ∈ wsX20, w ∈ lw_tbl) w hw) (List.all_eq_true.mp (by decide +kernel : wsX20.all goodWord = true) w hw)
theorem inG3 : ∀ w ∈ wsX30, w ∈ GT := by
  intro w hw
  exact gt_in ((by decide +kernel : ∀ w ∈ wsX30, w ∈ lw_tbl) w hw) (List.all_eq_true.mp (by decide +kernel : wsX30.all goodWord = true) w hw)
theorem inG4 : ∀ w ∈ wsX40, w ∈ GT := by
  intro w hw
  exact gt_in ((by decide +kernel : ∀ w ∈ wsX40, w ∈ lw_tbl) w hw) (List.all_eq_true.mp (by decide +kernel : wsX40.all goodWord = true) w hw)
theorem inG5 : ∀ w ∈ wsX50, w ∈ GT := by
  intro w hw
  exact gt_in ((by decide +kernel : ∀ w ∈ wsX50, w ∈ lw_tbl) w hw) (List.all_eq_true.mp (by decide +kernel : wsX50.all goodWord = true) w hw)
theorem inG6 : ∀ w ∈ wsX60, w ∈ GT := by
  intro w hw
  exact gt_in ((by decide +kernel : ∀ w ∈ wsX60, w ∈ lw_tbl) w hw) (List.all_eq_true.mp (by decide +kernel : wsX60.all goodWord = true) w hw)
theorem inG7 : ∀ w ∈ wsX70, w ∈ GT := by
  intro w hw
  exact gt_in ((by decide +kernel : ∀ w ∈ wsX70, w ∈ lw_tbl) w hw) (List.all_eq_true.mp (by decide +kernel : wsX70.all goodWord = true) w hw)
theorem inG8 : ∀ w ∈ wsX80, w ∈ GT := by
  intro w hw
  exact gt_in ((by decide +kernel : ∀ w ∈ wsX80, w ∈ lw_tbl) w hw) (List.all_eq_true.mp (by decide +kernel : wsX80.all goodWord = true) w hw)
theorem inG9 : ∀ w ∈ wsX90, w ∈ GT := by
  intro w hw
  exact gt_in ((by decide +kernel : ∀ w ∈ wsX90, w ∈ lw_tbl) w hw) (List.all_eq_true.mp (by decide +kernel : wsX90.all goodWord = true) w hw)
end
section
/-! ===== the pure memory: int fields, ref fields, rows of ints, rows of refs ===== -/
abbrev Im : Type := (Nat → Nat → Int32) × (Nat → Nat → Int32)
abbrev Xm : Type := (Nat → Nat → Option Nat) × (Nat → Nat → Option Nat)
def gF (I : Im) (f a : Nat) : Int32 := I.1 f a
def gA (I : Im) (a j : Nat) : Int32 := I.2 a j
def gR (X : Xm) (f a : Nat) : Option Nat := X.1 f a
def gQ (X : Xm) (a j : Nat) : Option Nat := X.2 a j
def u2 {α : Type} (g : Nat → Nat → α) (i j : Nat) (v : α) : Nat → Nat → α := fun i' j' => if i' = i ∧ j' = j then v else g i' j'
def pF (I : Im) (f a : Nat) (v : Int32) : Im := (u2 I.1 f a v, I.2)
def pA (I : Im) (a j : Nat) (v : Int32) : Im := (I.1, u2 I.2 a j v)
def pAr (I : Im) (a : Nat) (g : Nat → Int32) : Im := (I.1, fun i j => if i = a then g j else I.2 i j)
def pR (X : Xm) (f a : Nat) (v : Option Nat) : Xm := (u2 X.1 f a v, X.2)
def pQ (X : Xm) (a j : Nat) (v : Option Nat) : Xm := (X.1, u2 X.2 a j v)
def mkI (I : Im) (a : Nat) : Im := (fun f b => if b = a then 0 else I.1 f b, fun b j => if b = a then 0 else I.2 b j)
def mkX (X : Xm) (a : Nat) : Xm := (fun f b => if b = a then none else X.1 f b, fun b j => if b = a then none else X.2 b j)
theorem gF_pF (I : Im) (f a f' a' : Nat) (v : Int32) : gF (pF I f a v) f' a' = if f' = f ∧ a' = a then v else gF I f' a' := rfl
theorem gF_pA (I : Im) (f a f' a' : Nat) (v : Int32) : gF (pA I f a v) f' a' = gF I f' a' := rfl
theorem gF_pAr (I : Im) (a f' a' : Nat) (g : Nat → Int32) : gF (pAr I a g) f' a' = gF I f' a' := rfl
theorem gA_pF (I : Im) (f a f' a' : Nat) (v : Int32) : gA (pF I f a v) f' a' = gA I f' a' := rfl
theorem gA_pA (I : Im) (f a f' a' : Nat) (v : Int32) : gA (pA I f a v) f' a' = if f' = f ∧ a' = a then v else gA I f' a' := rfl
theorem gA_pAr (I : Im) (a f' a' : Nat) (g : Nat → Int32) : gA (pAr I a g) f' a' = if f' = a then g a' else gA I f' a' := rfl
theorem gR_pR (X : Xm) (f a f' a' : Nat) (v : Option Nat) : gR (pR X f a v) f' a' = if f' = f ∧ a' = a then v else gR X f' a' := rfl
theorem gR_pQ (X : Xm) (f a f' a' : Nat) (v : Option Nat) : gR (pQ X f a v) f' a' = gR X f' a' := rfl
theorem gQ_pR (X : Xm) (f a f' a' : Nat) (v : Option Nat) : gQ (pR X f a v) f' a' = gQ X f' a' := rfl
theorem gQ_pQ (X : Xm) (f a f' a' : Nat) (v : Option Nat) : gQ (pQ X f a v) f' a' = if f' = f ∧ a' = a then v else gQ X f' a' := rfl
/-! ===== partial steps of pure runs ===== -/
def nn {α β : Type} (o : Option α) (k : α → Option β) : Option β := match o with | none => none | some a => k a
theorem nn_some {α β : Type} {o : Option α} {k : α → Option β} {r : β} (h : nn o k = some r) : ∃ a, o = some a ∧ k a = some r := by
  cases o with
  | none => exact absurd h (by simp [nn])
  | some a => exact ⟨a, rfl, h⟩
def ck {β : Type} (c : Prop) [Decidable c] (k : Option β) : Option β := if c then k else none
theorem ck_some {β : Type} {c : Prop} [Decidable c] {k : Option β} {r : β} (h : ck c k = some r) : c ∧ k = some r := by
  by_cases hc : c
  · exact ⟨hc, by rw [ck, if_pos hc] at h; exact h⟩
  · rw [ck, if_neg hc] at h; exact absurd h (by simp)
def lt {α β : Type} (x : α) (k : α → Option β) : Option β := k x
theorem lt_at {α β : Type} {x y : α} {k : α → Option β} {r : β} (h : lt x k = some r) (e : y = x) : k y = some r := by rw [e]; exact h
theorem ite_t {α : Type} {c : Prop} [Decidable c] {a b o : α} (h : (if c then a else b) = o) (hc : c) : a = o := by rw [if_pos hc] at h; exact h
theorem ite_f {α : Type} {c : Prop} [Decidable c] {a b o : α} (h : (if c then a else b) = o) (hc : ¬ c) : b = o := by rw [if_neg hc] at h; exact h
def inb (i : Int32) (n : Nat) : Bool := decide (0 ≤ i.toInt ∧ i.toInt < n)
theorem inb_in {i : Int32} {n : Nat} (h : inb i n = true) : vp_in i n := vp_in_iff.mpr (of_decide_eq_true h)
/-! ===== what an object of a kind holds ===== -/
abbrev EN : Type := va_G × (Nat → ClassId) × Nat × (Nat → Nat) × (Nat → Nat)
def eD (E : EN) : va_G := E.1
def eC (E : EN) : Nat → ClassId := E.2.1
def eB (E : EN) : Nat := E.2.2.1
def eK (E : EN) : Nat → Nat := E.2.2.2.1
def eV (E : EN) : Nat → Nat := E.2.2.2.2
def eA (E : EN) : Nat → Prop := fun q => eB E ≤ q
abbrev GM : Type := Nat × (Nat → Nat) × (Nat → Nat)
def tgK : List (List Nat) := [[99, 99], [99, 99, 99, 99, 99], [11, 11, 11, 99], [10, 99, 99, 99, 11, 99], [11, 6, 16, 13, 2, 11, 99, 11, 99], [17, 99, 99, 99, 99], [14, 99, 99], [99, 99, 99, 99], [4, 4, 15, 99, 15, 12, 3], [11, 11, 11, 12, 11, 99, 99, 11, 99, 99, 99, 11]]
def tgf (f : Nat) : Nat := (tgK.getD (f / 16) []).getD (f % 16) 99
def nfk (k : Nat) : Nat := (tgK.getD k []).length
def elk (k : Nat) : Nat := [0, 1, 4, 5, 7].getD (k - 13) 99
def fv (I : Im) (X : Xm) (f a : Nat) : Value := if tgf f = 99 then .int (gF I f a) else va_rf (gR X f a)
def flds (I : Im) (X : Xm) (k a : Nat) : List Value := (List.range (nfk k)).map (fun i => fv I X (16 * k + i) a)
def ent (C : Nat → ClassId) (K len : Nat → Nat) (I : Im) (X : Xm) (a : Nat) : va_E :=
  if K a < 10 then .inr (K a, flds I X (K a) a) else if K a < 13 then .inl (C (K a), len a, .inl (gA I a)) else .inl (C (K a), len a, .inr (.inr (.inr (.inr (gQ X a)))))
def wpl (E : EN) (G : GM) (I : Im) (X : Xm) : va_W := va_pl (List.range' (eB E) G.1) (ent (eC E) G.2.1 G.2.2 I X)
def okA (E : EN) (G : GM) (k b : Nat) : Prop := eB E ≤ b ∧ b < eB E + G.1 ∧ G.2.1 b = k
def WT (E : EN) (G : GM) (X : Xm) : Prop := (∀ f a b, gR X f a = some b → okA E G (tgf f) b) ∧ ∀ a j b, gQ X a j = some b → okA E G (elk (G.2.1 a)) b
def WH (E : EN) (G : GM) (I : Im) (X : Xm) (H : Heap) : Prop := va_P (eD E) vwCl (wpl E G I X) H ∧ H.size = eB E + G.1 ∧ WT E G X
def WD (E : EN) (G : GM) (I : Im) (X : Xm) (H0 H : Heap) (locs : List Loc) : Prop := WH E G I X H ∧ va_S (eA E) H0 H locs
def tysL (C : Nat → ClassId) : List (ClassId × FieldType) := [(C 10, .char), (C 11, .int), (C 12, .boolean), (C 13, .object "RadioCues$Channel"), (C 14, .object "RadioCues$Cue"), (C 15, .object "RadioCues$Play"), (C 16, .object "RadioCues$Reel"), (C 17, .object "RadioCues$Sound")]
theorem wpl_get {E : EN} {G : GM} {I : Im} {X : Xm} {i : Nat} (h : i < G.1) : (wpl E G I X)[i]? = some (eB E + i, ent (eC E) G.2.1 G.2.2 I X (eB E + i)) := by
  simp [wpl, va_pl, List.getElem?_map, List.getElem?_range', h]
theorem wpl_len (E : EN) (G : GM) (I : Im) (X : Xm) : (wpl E G I X).length = G.1 := by simp [wpl, va_pl]
theorem wpl_inv {E : EN} {G : GM} {I : Im} {X : Xm} {i : Nat} {q : Nat × va_E} (h : (wpl E G I X)[i]? = some q) : i < G.1 ∧ q.1 = eB E + i := by
  have hi : i < G.1 := by
    have := (List.getElem?_eq_some_iff.mp h).1
    rwa [wpl_len] at this
  rw [wpl_get hi] at h
  cases h
  exact ⟨hi, rfl⟩
theorem wpl_D (E : EN) (G : GM) (I : Im) (X : Xm) : va_D (eA E) (wpl E G I X) := by
  refine ⟨fun i j p q hi hj h => ?_, fun k q hk => ?_⟩
  · have a := (wpl_inv hi).2
    have b := (wpl_inv hj).2
    omega
  · have a := (wpl_inv hk).2
    show eB E ≤ q.1
    omega
theorem wpl_at {E : EN} {G : GM} {I : Im} {X : Xm} {k a : Nat} (ta : okA E G k a) : (wpl E G I X)[a - eB E]? = some (a, ent (eC E) G.2.1 G.2.2 I X a) := by
  obtain ⟨h1, h2, -⟩ := ta
  rw [wpl_get (by omega), show eB E + (a - eB E) = a by omega]
theorem ent_o {C : Nat → ClassId} {K len : Nat → Nat} {I : Im} {X : Xm} {a k : Nat} (h : K a = k) (hk : k < 10) : ent C K len I X a = .inr (k, flds I X k a) := by
  subst h
  simp [ent, hk]
theorem ent_i {C : Nat → ClassId} {K len : Nat → Nat} {I : Im} {X : Xm} {a k : Nat} (h : K a = k) (hk : 10 ≤ k) (hk2 : k < 13) : ent C K len I X a = .inl (C k, len a, .inl (gA I a)) := by
  subst h
  simp [ent, show ¬ K a < 10 by omega, hk2]
theorem ent_q {C : Nat → ClassId} {K len : Nat → Nat} {I : Im} {X : Xm} {a k : Nat} (h : K a = k) (hk : 13 ≤ k) : ent C K len I X a = .inl (C k, len a, .inr (.inr (.inr (.inr (gQ X a))))) := by
  subst h
  simp [ent, show ¬ K a < 10 by omega, show ¬ K a < 13 by omega]
theorem wpl_o {E : EN} {G : GM} {I : Im} {X : Xm} {k a : Nat} (ta : okA E G k a) (hk : k < 10) : (wpl E G I X)[a - eB E]? = some (a, .inr (k, flds I X k a)) := by
  rw [wpl_at ta, ent_o ta.2.2 hk]
theorem wpl_i {E : EN} {G : GM} {I : Im} {X : Xm} {k a : Nat} (ta : okA E G k a) (hk : 10 ≤ k) (hk2 : k < 13) : (wpl E G I X)[a - eB E]? = some (a, .inl (eC E k, G.2.2 a, .inl (gA I a))) := by
  rw [wpl_at ta, ent_i ta.2.2 hk hk2]
theorem wpl_q {E : EN} {G : GM} {I : Im} {X : Xm} {k a : Nat} (ta : okA E G k a) (hk : 13 ≤ k) : (wpl E G I X)[a - eB E]? = some (a, .inl (eC E k, G.2.2 a, .inr (.inr (.inr (.inr (gQ X a)))))) := by
  rw [wpl_at ta, ent_q ta.2.2 hk]
theorem flds_at {I : Im} {X : Xm} {k a i : Nat} (h : i < nfk k) : (flds I X k a)[i]? = some (fv I X (16 * k + i) a) := by
  simp [flds, List.getElem?_map, h]
theorem flds_len (I : Im) (X : Xm) (k a : Nat) : (flds I X k a).length = nfk k := by simp [flds]
theorem fv_i {I : Im} {X : Xm} {f a : Nat} (h : tgf f = 99) : fv I X f a = .int (gF I f a) := by simp [fv, h]
theorem fv_r {I : Im} {X : Xm} {f a : Nat} (h : tgf f ≠ 99) : fv I X f a = va_rf (gR X f a) := by simp [fv, h]
/-- one entry set, the others as they were: another memory -/
theorem wpl_set {E : EN} {G : GM} {I I' : Im} {X X' : Xm} {a : Nat} {e : va_E} (h1 : eB E ≤ a) (h2 : a < eB E + G.1) (he : ent (eC E) G.2.1 G.2.2 I' X' a = e) (ho : ∀ b, b ≠ a → ent (eC E) G.2.1 G.2.2 I' X' b = ent (eC E) G.2.1 G.2.2 I X b) : (wpl E G I X).set (a - eB E) (a, e) = wpl E G I' X' := by
  apply List.ext_getElem?
  intro i
  by_cases hi : i < G.1
  · rw [wpl_get hi]
    by_cases h : i = a - eB E
    · subst h
      rw [List.getElem?_set_self (by rw [wpl_len]; exact hi), show eB E + (a - eB E) = a by omega, he]
    · rw [List.getElem?_set_ne (Ne.symm h), wpl_get hi, ho _ (by omega)]
  · rw [List.getElem?_eq_none (by rw [List.length_set, wpl_len]; omega), List.getElem?_eq_none (by rw [wpl_len]; omega)]
theorem flds_ne {I I' : Im} {X X' : Xm} {b : Nat} (h1 : ∀ f, gF I' f b = gF I f b) (h2 : ∀ f, gR X' f b = gR X f b) (k : Nat) : flds I' X' k b = flds I X k b := by
  simp [flds, fv, h1, h2]
theorem ent_ne {C : Nat → ClassId} {K len : Nat → Nat} {I I' : Im} {X X' : Xm} {b : Nat} (h1 : ∀ f, gF I' f b = gF I f b) (h2 : ∀ f, gR X' f b = gR X f b) (h3 : ∀ j, gA I' b j = gA I b j) (h4 : ∀ j, gQ X' b j = gQ X b j) : ent C K len I' X' b = ent C K len I X b := by
  have e3 : gA I' b = gA I b := funext h3
  have e4 : gQ X' b = gQ X b := funext h4
  simp [ent, flds_ne h1 h2, e3, e4]
theorem flds_set {I I' : Im} {X X' : Xm} {k a i : Nat} {v : Value} (hi : i < nfk k) (hv : fv I' X' (16 * k + i) a = v) (ho : ∀ j, j ≠ i → fv I' X' (16 * k + j) a = fv I X (16 * k + j) a) : (flds I X k a).set i v = flds I' X' k a := by
  apply List.ext_getElem?
  intro j
  by_cases hj : j < nfk k
  · rw [flds_at hj]
    by_cases h : j = i
    · subst h
      rw [List.getElem?_set_self (by rw [flds_len]; exact hi), hv]
    · rw [List.getElem?_set_ne (Ne.symm h), flds_at hj, ho j h]
  · rw [List.getElem?_eq_none (by rw [List.length_set, flds_len]; omega), List.getElem?_eq_none (by rw [flds_len]; omega)]
theorem wpl_setF {E : EN} {G : GM} {I : Im} {X : Xm} {k i a : Nat} {v : Int32} (ta : okA E G k a) (hk : k < 10) (hi : i < nfk k) (hr : tgf (16 * k + i) = 99) : (wpl E G I X).set (a - eB E) (a, .inr (k, (flds I X k a).set i (.int v))) = wpl E G (pF I (16 * k + i) a v) X := by
  refine wpl_set ta.1 ta.2.1 ?_ (fun b hb => ent_ne (fun f => ?_) (fun _ => rfl) (fun _ => rfl) (fun _ => rfl))
  · rw [ent_o ta.2.2 hk, flds_set (I' := pF I (16 * k + i) a v) (X' := X) hi ?_ ?_]
    · rw [fv_i hr, gF_pF, if_pos ⟨rfl, rfl⟩]
    · intro j hj
      simp only [fv, gF_pF]
      rw [if_neg (show ¬ (16 * k + j = 16 * k + i ∧ True) from fun q => hj (by omega))]
  · rw [gF_pF, if_neg (fun q => hb q.2)]
theorem wpl_setR {E : EN} {G : GM} {I : Im} {X : Xm} {k i a : Nat} {v : Option Nat} (ta : okA E G k a) (hk : k < 10) (hi : i < nfk k) (hr : tgf (16 * k + i) ≠ 99) : (wpl E G I X).set (a - eB E) (a, .inr (k, (flds I X k a).set i (va_rf v))) = wpl E G I (pR X (16 * k + i) a v) := by
  refine wpl_set ta.1 ta.2.1 ?_ (fun b hb => ent_ne (fun _ => rfl) (fun f => ?_) (fun _ => rfl) (fun _ => rfl))
  · rw [ent_o ta.2.2 hk, flds_set (I' := I) (X' := pR X (16 * k + i) a v) hi ?_ ?_]
    · rw [fv_r hr, gR_pR, if_pos ⟨rfl, rfl⟩]
    · intro j hj
      simp only [fv, gR_pR]
      rw [if_neg (show ¬ (16 * k + j = 16 * k + i ∧ True) from fun q => hj (by omega))]
  · rw [gR_pR, if_neg (fun q => hb q.2)]
theorem wpl_setA {E : EN} {G : GM} {I : Im} {X : Xm} {k a : Nat} {g : Nat → Int32} (ta : okA E G k a) (hk : 10 ≤ k) (hk2 : k < 13) : (wpl E G I X).set (a - eB E) (a, .inl (eC E k, G.2.2 a, .inl g)) = wpl E G (pAr I a g) X := by
  refine wpl_set ta.1 ta.2.1 ?_ (fun b hb => ent_ne (fun _ => rfl) (fun _ => rfl) (fun j => ?_) (fun _ => rfl))
  · rw [ent_i ta.2.2 hk hk2]
    have e : gA (pAr I a g) a = g := by funext j; rw [gA_pAr, if_pos rfl]
    rw [e]
  · rw [gA_pAr, if_neg hb]
theorem pA_upd (I : Im) (a j : Nat) (v : Int32) : pAr I a (upd (gA I a) j v) = pA I a j v := by
  unfold pAr pA
  refine congrArg (fun q => (I.1, q)) ?_
  funext i k
  by_cases h1 : i = a
  · subst h1
    by_cases h2 : k = j
    · subst h2
      simp [u2, upd]
    · simp [u2, upd, h2, gA]
  · simp [u2, h1]
theorem wpl_setQ {E : EN} {G : GM} {I : Im} {X : Xm} {k a j : Nat} {v : Option Nat} (ta : okA E G k a) (hk : 13 ≤ k) : (wpl E G I X).set (a - eB E) (a, .inl (eC E k, G.2.2 a, .inr (.inr (.inr (.inr (va_up (gQ X a) j v)))))) = wpl E G I (pQ X a j v) := by
  refine wpl_set ta.1 ta.2.1 ?_ (fun b hb => ent_ne (fun _ => rfl) (fun _ => rfl) (fun _ => rfl) (fun i => ?_))
  · rw [ent_q ta.2.2 hk]
    have e : gQ (pQ X a j v) a = va_up (gQ X a) j v := by
      funext i
      rw [gQ_pQ]
      by_cases h : i = j
      · simp [va_up, h]
      · simp [va_up, h]
    rw [e]
  · rw [gQ_pQ, if_neg (fun q => hb q.1)]
theorem wpl_ge {E : EN} {G : GM} {I : Im} {X : Xm} {H : Heap} (h : va_P (eD E) vwCl (wpl E G I X) H) (hn : 0 < G.1) : eB E + G.1 ≤ H.size := by
  have a := (h (G.1 - 1) _ (wpl_get (by omega))).lt
  simp only at a
  omega
theorem wt_r {E : EN} {G : GM} {I : Im} {X : Xm} {H0 H : Heap} {locs : List Loc} {f a b : Nat} (hw : WD E G I X H0 H locs) (h : gR X f a = some b) : okA E G (tgf f) b := hw.1.2.2.1 f a b h
theorem wt_q {E : EN} {G : GM} {I : Im} {X : Xm} {H0 H : Heap} {locs : List Loc} {k a j b : Nat} (hw : WD E G I X H0 H locs) (ta : okA E G k a) (h : gQ X a j = some b) : okA E G (elk k) b := by
  have := hw.1.2.2.2 a j b h
  rwa [ta.2.2] at this
theorem wt_pR {E : EN} {G : GM} {X : Xm} {f a b : Nat} (h : WT E G X) (tb : okA E G (tgf f) b) : WT E G (pR X f a (some b)) := by
  refine ⟨fun f' a' b' hb => ?_, h.2⟩
  rw [gR_pR] at hb
  split at hb
  · cases hb
    rename_i q
    rw [q.1]; exact tb
  · exact h.1 _ _ _ hb
theorem wt_pQ {E : EN} {G : GM} {X : Xm} {k a j b : Nat} (h : WT E G X) (ta : okA E G k a) (tb : okA E G (elk k) b) : WT E G (pQ X a j (some b)) := by
  refine ⟨h.1, fun a' j' b' hb => ?_⟩
  rw [gQ_pQ] at hb
  split at hb
  · cases hb
    rename_i q
    rw [q.1, ta.2.2]; exact tb
  · exact h.2 _ _ _ hb
end
section
/-! ===== what a method's entry gives: nest words, statics, String constants ===== -/
def nwM : List (String × Nat × MethodName × String) := [("RadioCues", 32, yX3_init, "RadioCues"), ("RadioCues$Channel", 18, yX8_nearer, "RadioCues"), ("RadioCues$Play", 229, yX8_nearer, "RadioCues"), ("RadioCues$Play", 36, yX2_init, "RadioCues"), ("RadioCues$Play", 48, yX0_init, "RadioCues"), ("RadioCues$Play", 88, yX8_within, "RadioCues"), ("RadioCues$Reel", 21, yX7_init, "RadioCues"), ("RadioCues$Script", 17, yX1_init, "RadioCues")]
def nwF : List (String × Nat × String × String × String × String) := [("RadioCues$Play", 82, "RadioCues", "LEAST_SETTING", "[I", "RadioCues"), ("RadioCues$Play", 85, "RadioCues", "MOST_SETTING", "[I", "RadioCues")]
def aoL : List String := ["RadioCues$Channel", "RadioCues$Cue", "RadioCues$Play", "RadioCues$Reel", "RadioCues$Sound"]
def leastS : List Int32 := [1, 1, 1, 10]
def mostS : List Int32 := [20, 9, 100, 400]
def strP : List Nat := [62, 64, 66, 68, 70, 72]
def strT : List String := ["D+N*N", "N:DD", "N:D*N", "N:D=N", "N", ""]
def strN : List Nat := [5, 4, 5, 5, 1, 0]
def strB : List (List Int32) := [[68, 43, 78, 42, 78], [78, 58, 68, 68], [78, 58, 68, 42, 78], [78, 58, 68, 61, 78], [78], []]
def va_Zi (n : String) (L : List Int32) (A : Nat → Prop) (U : State) (H : Heap) : Prop := ∃ t : Nat, va_Z "RadioCues" n "[I" (.ref t) A U H ∧ va_T .int t 4 (fun j => .int (L.getD j 0)) A U H
def ST (E : EN) (U : State) (H : Heap) : Prop := va_Zi "LEAST_SETTING" leastS (eA E) U H ∧ va_Zi "MOST_SETTING" mostS (eA E) U H ∧ va_Z "java/lang/String" "COMPACT_STRINGS" "Z" (.int 1) (eA E) U H ∧ va_Zq "jdk/internal/util/Preconditions" "SIOOBE_FORMATTER" "Ljava/util/function/BiFunction;" (eA E) U H ∧ vk_S 6 strN strB (eK E) (eV E) (eA E) U H
def SE (E : EN) (U : State) (H : Heap) : Prop := va_K (eD E) vwCl (tysL (eC E)) U ∧ (∀ q ∈ nwM, va_Nw (.methodLinkNest q.1 q.2.1 q.2.2.1 q.2.2.2) U) ∧ (∀ q ∈ nwF, va_Nw (.fieldLinkNest q.1 q.2.1 q.2.2.1 q.2.2.2.1 q.2.2.2.2.1 q.2.2.2.2.2) U) ∧ (∀ C ∈ aoL, va_AO C U) ∧ (∀ i : Nat, i < 6 → vk_R "RadioCues$Pad" (strP.getD i 0) (strT.getD i "") (eK E i) U) ∧ ST E U H
theorem va_Zi.moved {n : String} {L : List Int32} {A : Nat → Prop} {u U : State} {H : Heap} (hvm : u.vm.Alike U.vm) (h : va_Zi n L A u H) : va_Zi n L A U H := by
  obtain ⟨t, h1, h2⟩ := h
  exact ⟨t, h1.moved hvm, h2.moved hvm⟩
theorem va_Zi.kept {n : String} {L : List Int32} {A : Nat → Prop} {U : State} {H H1 : Heap} (h : va_Zi n L A U H) (hq : ∀ a : Nat, a < H.size → ¬ A a → H1[a]? = H[a]?) : va_Zi n L A U H1 := by
  obtain ⟨t, h1, h2⟩ := h
  exact ⟨t, h1.kept hq, h2.kept hq⟩
theorem ST.moved {E : EN} {u U : State} {H : Heap} (hvm : u.vm.Alike U.vm) (h : ST E u H) : ST E U H := ⟨h.1.moved hvm, h.2.1.moved hvm, h.2.2.1.moved hvm, h.2.2.2.1.moved hvm, h.2.2.2.2.moved hvm⟩
theorem ST.kept {E : EN} {U : State} {H H1 : Heap} (h : ST E U H) (hq : ∀ a : Nat, a < H.size → ¬ eA E a → H1[a]? = H[a]?) : ST E U H1 := ⟨h.1.kept hq, h.2.1.kept hq, h.2.2.1.kept hq, h.2.2.2.1.kept hq, h.2.2.2.2.kept hq⟩
theorem SE.go {E : EN} {s U : State} {H : Heap} {locs : List Loc} (h : SE E s s.heap) (hS : va_S (eA E) s.heap H locs) (hU : U.heap = H) (hW : s.WarmedH U.vm) : SE E U U.heap := by
  obtain ⟨h1, h2, h3, h4, h5, h6⟩ := h
  exact ⟨va_K.moved hW.alike h1, fun q hq => (h2 q hq).warmM hW, fun q hq => (h3 q hq).warmF hW, fun C hC => (h4 C hC).moved hW.alike, fun i hi => (h5 i hi).warm hW, by rw [hU]; exact (h6.kept hS.2.1).moved hW.alike⟩
theorem SE.blind {E : EN} {a : Array Value} {U : State} {g : JFrame} {mk : MethodId} (h : SE E U U.heap) : SE E (U.calling g mk a) (U.calling g mk a).heap := by
  obtain ⟨h1, h2, h3, h4, h5, h6⟩ := h
  exact ⟨va_K.moved (u := U) (U := U.calling g mk a) (Vm.Alike.refl U.vm) h1, fun q hq => (h2 q hq).same rfl rfl, fun q hq => (h3 q hq).same rfl rfl, fun C hC => va_AO.moved (u := U) (U := U.calling g mk a) (Vm.Alike.refl U.vm) (h4 C hC), fun i hi => vk_R.same (u := U) (U := U.calling g mk a) rfl (h5 i hi), ST.moved (u := U) (U := U.calling g mk a) (Vm.Alike.refl U.vm) h6⟩
/-- the fixed facts of a walk -/
def CX (p : Program) (s : State) (m : MethodId) (args : Array Value) (meth : Method) (c : Code) (E : EN) (cc : ByteArray) (own : String) (nL : Nat) : Prop :=
  p.tables.exec = Jvm.exec ∧ c.code = cc ∧ c.maxLocals = nL ∧ s.vm.findClass own = some m.cls ∧ (∀ w ∈ GT, w.before args s = true) ∧ meth.locks = false ∧ SE E s s.heap
/-! contracts -/
def PC (E : EN) (G : GM) (I : Im) (X : Xm) (av : List Value) : Array Value → State → Prop := va_Pc av (fun U => WH E G I X U.heap ∧ SE E U U.heap)
def QI (E : EN) (G : GM) (r : Int32) (I : Im) (X : Xm) : Array Value → State → Outcome → State → Prop := va_Qi (fun (r' : Int32) (u : Im × Xm) => r' = r ∧ u = (I, X)) (fun u t => WH E G u.1 u.2 t.heap) (eA E)
def QV (E : EN) (G : GM) (I : Im) (X : Xm) : Array Value → State → Outcome → State → Prop := va_Qv (fun (u : Im × Xm) => u = (I, X)) (fun u t => WH E G u.1 u.2 t.heap) (eA E)
def QO (E : EN) (G : GM) (k : Nat) (r : Option Nat) (I : Im) (X : Xm) : Array Value → State → Outcome → State → Prop := va_Qq (fun (r' : Option Nat) (u : Im × Xm) => r' = r ∧ u = (I, X) ∧ ∀ a, r = some a → okA E G k a) (fun u t => WH E G u.1 u.2 t.heap) (eA E)
def WS (y : MethodName) (cc : ByteArray) (n : Nat) (ret : Option FieldType) : List Cond := Cond.code y cc n ret :: GT
def MT (l : Launch) (y : MethodName) (cc : ByteArray) (n : Nat) (ret : Option FieldType) (rm : Room) (E : EN) (G : GM) (I : Im) (X : Xm) (av : List Value) (Qc : Array Value → State → Outcome → State → Prop) (mc ms : Nat) : Prop := Met l y (WS y cc n ret) rm (PC E G I X av) Qc mc ms (eA E)
theorem ws_good {y : MethodName} {cc : ByteArray} {n : Nat} {ret : Option FieldType} (h : Cond.code y cc n ret ∈ GT) : GoodIn GT (WS y cc n ret) := fun w hw => by
  rcases List.mem_cons.mp hw with rfl | hw
  · exact gt_GoodIn _ h
  · exact gt_GoodIn w hw
theorem PC_blind (E : EN) (G : GM) (I : Im) (X : Xm) (av : List Value) : FrameBlind (PC E G I X av) := fun a U g mk q => ⟨q.1, q.2.1, q.2.2.blind⟩
theorem PC_go {E : EN} {G : GM} {I : Im} {X : Xm} {av : List Value} {s : State} {H : Heap} {locs : List Loc} (hs : SE E s s.heap) (hw : WD E G I X s.heap H locs) : ∀ U : State, U.heap = H → s.WarmedH U.vm → PC E G I X av av.toArray U :=
  fun U hU hW => ⟨rfl, by rw [hU]; exact hw.1, SE.go hs hw.2 hU hW⟩
theorem wh_of {E : EN} {G : GM} {I : Im} {X : Xm} {t : State} {H : Heap} (ht : t.heap = H) (h : WH E G I X H) : WH E G I X t.heap := by rw [ht]; exact h
section XR
variable {p : Program} {l : Launch} {e : Env} {R : Room} {s : State} {m : MethodId} {args : Array Value} {below : List Frame} {meth : Method} {c : Code} {H : Heap} {locs : List Loc} {cells slots : Nat} {Q : State → Prop}
variable {cc : ByteArray} {pc : Nat} {ls : Array Slot} {rest : List Value} {E : EN} {own : String} {nL : Nat} {G : GM} {I : Im} {X : Xm}
theorem W_sz {g : JFrame} (k : H.size ≤ s.heap.size + cells → W p l e R s m args below meth c H locs cells slots Q g) : W p l e R s m args below meth c H locs cells slots Q g := by
  intro T hT X
  have h : T.heap.size ≤ s.heap.size + cells := X.same.2.2.1
  rw [hT] at h
  exact k h T hT X
/-- behind a write: the new memory stands -/
theorem x_behind {H1 : Heap} {locs1 : List Loc} {g : JFrame} {w : va_W} {I1 : Im} {X1 : Xm} (hz : s.heap.size + cells ≤ eB E + G.1) (hn : 0 < G.1) (hwt : WT E G X1) (he : w = wpl E G I1 X1) (hP : va_P (eD E) vwCl w H1) (hS : va_S (eA E) s.heap H1 locs1)
    (kk : ∀ (H : Heap) (locs : List Loc), WD E G I1 X1 s.heap H locs → W p l e R s m args below meth c H locs cells slots Q g) : W p l e R s m args below meth c H1 locs1 cells slots Q g := by
  subst he
  refine W_sz fun hle => ?_
  have hge := wpl_ge hP hn
  exact kk H1 locs1 ⟨⟨hP, by omega, hwt⟩, hS⟩
theorem okA.pos {k a : Nat} (h : okA E G k a) : 0 < G.1 := by
  have := h.1
  have := h.2.1
  omega
theorem x_getI (C0 : CX p s m args meth c E cc own nL) (hw : WD E G I X s.heap H locs) {a index : Nat} (k i : Nat) (ta : okA E G k a) {C : String} {T : u_T} {N : Nat} (hc : vwCl[k]? = some (C, T, N)) (hin : ∀ w ∈ u_ws C T N, w ∈ GT) (hi : i < N) (hi2 : i < nfk k) (hk : k < 10) (hr : tgf (16 * k + i) = 99)
    (hl : Cond.fieldLink own index (T i).1 (T i).2.1 (T i).2.2.1 ∈ GT) (hd : decode cc pc = .ok (.getfield index, 3)) (kk : W p l e R s m args below meth c H locs cells slots Q (F0 m (pc + 3) ls (.int (gF I (16 * k + i) a) :: rest))) : W p l e R s m args below meth c H locs cells slots Q (F0 m pc ls (.ref a :: rest)) := by
  obtain ⟨hx, hb, -, hown, hts, -, hS⟩ := C0
  exact va_get (ref := (T i).1) hx hb hts hin hown hS.1 hw.1.1 (a - eB E) (wpl_o ta hk) hc i hi (hts _ hl) (fun _ h => h) (by rw [flds_at hi2, fv_i hr]) hd kk
theorem x_getR (C0 : CX p s m args meth c E cc own nL) (hw : WD E G I X s.heap H locs) {a b index : Nat} (k i : Nat) (ta : okA E G k a) {C : String} {T : u_T} {N : Nat} (hc : vwCl[k]? = some (C, T, N)) (hin : ∀ w ∈ u_ws C T N, w ∈ GT) (hi : i < N) (hi2 : i < nfk k) (hk : k < 10) (hr : tgf (16 * k + i) ≠ 99)
    (hl : Cond.fieldLink own index (T i).1 (T i).2.1 (T i).2.2.1 ∈ GT) (hb2 : gR X (16 * k + i) a = some b) (hd : decode cc pc = .ok (.getfield index, 3)) (kk : W p l e R s m args below meth c H locs cells slots Q (F0 m (pc + 3) ls (.ref b :: rest))) : W p l e R s m args below meth c H locs cells slots Q (F0 m pc ls (.ref a :: rest)) := by
  obtain ⟨hx, hb, -, hown, hts, -, hS⟩ := C0
  exact va_get (ref := (T i).1) hx hb hts hin hown hS.1 hw.1.1 (a - eB E) (wpl_o ta hk) hc i hi (hts _ hl) (fun _ h => h) (by rw [flds_at hi2, fv_r hr, hb2]; rfl) hd kk
theorem x_putI (C0 : CX p s m args meth c E cc own nL) (hz : s.heap.size + cells ≤ eB E + G.1) (hw : WD E G I X s.heap H locs) {a index : Nat} {v : Int32} {I1 : Im} (k i : Nat) (ta : okA E G k a) {C : String} {T : u_T} {N : Nat} (hc : vwCl[k]? = some (C, T, N)) (hin : ∀ w ∈ u_ws C T N, w ∈ GT) (ty : Nat → FieldType) (hty : ∀ k, k < N → parseFieldDescriptor (T k).2.2.1 = some (ty k)) (hnm : ∀ a, a < N → ∀ b, b < N → a ≠ b → (T a).2.1 ≠ (T b).2.1) (hi : i < N) (hi2 : i < nfk k) (hk : k < 10) (hr : tgf (16 * k + i) = 99) (hfin : (T i).2.2.2 = false) (hn : narrow (ty i) (.int v) = .int v) (hfit : fits (ty i) (.int v) = true)
    (hl : Cond.fieldLink own index (T i).1 (T i).2.1 (T i).2.2.1 ∈ GT) (hd : decode cc pc = .ok (.putfield index, 3)) (eM : I1 = pF I (16 * k + i) a v) (kk : ∀ (H : Heap) (locs : List Loc), WD E G I1 X s.heap H locs → W p l e R s m args below meth c H locs cells slots Q (F0 m (pc + 3) ls rest)) : W p l e R s m args below meth c H locs cells slots Q (F0 m pc ls (.int v :: .ref a :: rest)) := by
  obtain ⟨hx, hb, -, hown, hts, -, hS⟩ := C0
  subst eM
  refine va_put (ref := (T i).1) hx hb hts hin ty hty hnm hown hS.1 hw.1.1 (wpl_D E G I X) hw.2 (a - eB E) (wpl_o ta hk) hc i hi (hts _ hl) (fun _ h => h) hfin (hty i hi) hn hfit (by rw [flds_len]; exact hi2) hd fun H1 locs1 hP _ hS1 => ?_
  exact x_behind (I1 := pF I (16 * k + i) a v) (X1 := X) hz ta.pos hw.1.2.2 (wpl_setF ta hk hi2 hr) hP hS1 kk
theorem x_putR (C0 : CX p s m args meth c E cc own nL) (hz : s.heap.size + cells ≤ eB E + G.1) (hw : WD E G I X s.heap H locs) {a b index : Nat} {X1 : Xm} (k i : Nat) (ta : okA E G k a) {C : String} {T : u_T} {N : Nat} (hc : vwCl[k]? = some (C, T, N)) (hin : ∀ w ∈ u_ws C T N, w ∈ GT) (ty : Nat → FieldType) (hty : ∀ k, k < N → parseFieldDescriptor (T k).2.2.1 = some (ty k)) (hnm : ∀ a, a < N → ∀ b, b < N → a ≠ b → (T a).2.1 ≠ (T b).2.1) (hi : i < N) (hi2 : i < nfk k) (hk : k < 10) (hr : tgf (16 * k + i) ≠ 99) (hfin : (T i).2.2.2 = false) (hn : narrow (ty i) (.ref b) = .ref b) (hfit : fits (ty i) (.ref b) = true) (tb : okA E G (tgf (16 * k + i)) b)
    (hl : Cond.fieldLink own index (T i).1 (T i).2.1 (T i).2.2.1 ∈ GT) (hd : decode cc pc = .ok (.putfield index, 3)) (eM : X1 = pR X (16 * k + i) a (some b)) (kk : ∀ (H : Heap) (locs : List Loc), WD E G I X1 s.heap H locs → W p l e R s m args below meth c H locs cells slots Q (F0 m (pc + 3) ls rest)) : W p l e R s m args below meth c H locs cells slots Q (F0 m pc ls (.ref b :: .ref a :: rest)) := by
  obtain ⟨hx, hb, -, hown, hts, -, hS⟩ := C0
  subst eM
  refine va_put (ref := (T i).1) hx hb hts hin ty hty hnm hown hS.1 hw.1.1 (wpl_D E G I X) hw.2 (a - eB E) (wpl_o ta hk) hc i hi (hts _ hl) (fun _ h => h) hfin (hty i hi) hn hfit (by rw [flds_len]; exact hi2) hd fun H1 locs1 hP _ hS1 => ?_
  exact x_behind (I1 := I) hz ta.pos (wt_pR hw.1.2.2 tb) (wpl_setR (v := some b) ta hk hi2 hr) hP hS1 kk
theorem x_putRF (C0 : CX p s m args meth c E cc own nL) (hz : s.heap.size + cells ≤ eB E + G.1) (hw : WD E G I X s.heap H locs) {a b index : Nat} {X1 : Xm} (k i : Nat) (ta : okA E G k a) {C : String} {T : u_T} {N : Nat} (hc : vwCl[k]? = some (C, T, N)) (hin : ∀ w ∈ u_ws C T N, w ∈ GT) (ty : Nat → FieldType) (hty : ∀ k, k < N → parseFieldDescriptor (T k).2.2.1 = some (ty k)) (hnm : ∀ a, a < N → ∀ b, b < N → a ≠ b → (T a).2.1 ≠ (T b).2.1) (hi : i < N) (hi2 : i < nfk k) (hk : k < 10) (hr : tgf (16 * k + i) ≠ 99) (hfin : (T i).2.2.2 = true) (hin2 : meth.name = "<init>") (hdecl : (T i).1 = own) (hn : narrow (ty i) (.ref b) = .ref b) (hfit : fits (ty i) (.ref b) = true) (tb : okA E G (tgf (16 * k + i)) b)
    (hl : Cond.fieldLink own index (T i).1 (T i).2.1 (T i).2.2.1 ∈ GT) (hd : decode cc pc = .ok (.putfield index, 3)) (eM : X1 = pR X (16 * k + i) a (some b)) (kk : ∀ (H : Heap) (locs : List Loc), WD E G I X1 s.heap H locs → W p l e R s m args below meth c H locs cells slots Q (F0 m (pc + 3) ls rest)) : W p l e R s m args below meth c H locs cells slots Q (F0 m pc ls (.ref b :: .ref a :: rest)) := by
  obtain ⟨hx, hb, -, hown, hts, -, hS⟩ := C0
  subst eM
  refine va_putF (ref := (T i).1) hx hb hts hin ty hty hnm hown hS.1 hw.1.1 (wpl_D E G I X) hw.2 (a - eB E) (wpl_o ta hk) hc i hi (hts _ hl) (fun _ h => h) hfin hin2 hdecl (hty i hi) hn hfit (by rw [flds_len]; exact hi2) hd fun H1 locs1 hP _ hS1 => ?_
  exact x_behind (I1 := I) hz ta.pos (wt_pR hw.1.2.2 tb) (wpl_setR (v := some b) ta hk hi2 hr) hP hS1 kk
/-! arrays -/
theorem x_iald (C0 : CX p s m args meth c E cc own nL) (hw : WD E G I X s.heap H locs) {a : Nat} (ta : okA E G 11 a) {i : Int32} (hi : inb i (G.2.2 a) = true) (hd : decode cc pc = .ok (.iaload, 1))
    (kk : W p l e R s m args below meth c H locs cells slots Q (F0 m (pc + 1) ls (.int (gA I a i.toNatClampNeg) :: rest))) : W p l e R s m args below meth c H locs cells slots Q (F0 m pc ls (.int i :: .ref a :: rest)) :=
  va_iald C0.1 C0.2.1 C0.2.2.2.2.2.2.1 hw.1.1 (a - eB E) 1 (wpl_i ta (by decide) (by decide)) rfl (inb_in hi) hd kk
theorem x_cald (C0 : CX p s m args meth c E cc own nL) (hw : WD E G I X s.heap H locs) {a : Nat} (ta : okA E G 10 a) {i : Int32} (hi : inb i (G.2.2 a) = true) (hd : decode cc pc = .ok (.caload, 1))
    (kk : W p l e R s m args below meth c H locs cells slots Q (F0 m (pc + 1) ls (.int (gA I a i.toNatClampNeg) :: rest))) : W p l e R s m args below meth c H locs cells slots Q (F0 m pc ls (.int i :: .ref a :: rest)) :=
  va_cald C0.1 C0.2.1 C0.2.2.2.2.2.2.1 hw.1.1 (a - eB E) 0 (wpl_i ta (by decide) (by decide)) rfl (inb_in hi) hd kk
theorem x_zald (C0 : CX p s m args meth c E cc own nL) (hw : WD E G I X s.heap H locs) {a : Nat} (ta : okA E G 12 a) {i : Int32} (hi : inb i (G.2.2 a) = true) (hd : decode cc pc = .ok (.baload, 1))
    (kk : W p l e R s m args below meth c H locs cells slots Q (F0 m (pc + 1) ls (.int (gA I a i.toNatClampNeg) :: rest))) : W p l e R s m args below meth c H locs cells slots Q (F0 m pc ls (.int i :: .ref a :: rest)) :=
  va_zald C0.1 C0.2.1 C0.2.2.2.2.2.2.1 hw.1.1 (a - eB E) 2 (wpl_i ta (by decide) (by decide)) rfl (inb_in hi) hd kk
theorem x_iast (C0 : CX p s m args meth c E cc own nL) (hz : s.heap.size + cells ≤ eB E + G.1) (hw : WD E G I X s.heap H locs) {a : Nat} {I1 : Im} (ta : okA E G 11 a) {i v : Int32} (hi : inb i (G.2.2 a) = true) (hd : decode cc pc = .ok (.iastore, 1)) (eM : I1 = pA I a i.toNatClampNeg v)
    (kk : ∀ (H : Heap) (locs : List Loc), WD E G I1 X s.heap H locs → W p l e R s m args below meth c H locs cells slots Q (F0 m (pc + 1) ls rest)) : W p l e R s m args below meth c H locs cells slots Q (F0 m pc ls (.int v :: .int i :: .ref a :: rest)) := by
  subst eM
  refine va_iast C0.1 C0.2.1 C0.2.2.2.2.2.2.1 hw.1.1 (wpl_D E G I X) hw.2 (a - eB E) 1 (wpl_i ta (by decide) (by decide)) rfl (inb_in hi) hd fun H1 locs1 hP _ hS1 => ?_
  exact x_behind (I1 := pA I a i.toNatClampNeg v) (X1 := X) hz ta.pos hw.1.2.2 (by rw [← pA_upd]; exact wpl_setA ta (by decide) (by decide)) hP hS1 kk
theorem x_cast (C0 : CX p s m args meth c E cc own nL) (hz : s.heap.size + cells ≤ eB E + G.1) (hw : WD E G I X s.heap H locs) {a : Nat} {I1 : Im} (ta : okA E G 10 a) {i v : Int32} (hi : inb i (G.2.2 a) = true) (hv : vp_nar .char v = v) (hd : decode cc pc = .ok (.castore, 1)) (eM : I1 = pA I a i.toNatClampNeg v)
    (kk : ∀ (H : Heap) (locs : List Loc), WD E G I1 X s.heap H locs → W p l e R s m args below meth c H locs cells slots Q (F0 m (pc + 1) ls rest)) : W p l e R s m args below meth c H locs cells slots Q (F0 m pc ls (.int v :: .int i :: .ref a :: rest)) := by
  subst eM
  refine va_cast C0.1 C0.2.1 C0.2.2.2.2.2.2.1 hw.1.1 (wpl_D E G I X) hw.2 (a - eB E) 0 (wpl_i ta (by decide) (by decide)) rfl (inb_in hi) hd fun H1 locs1 hP _ hS1 => ?_
  rw [hv] at hP
  exact x_behind (I1 := pA I a i.toNatClampNeg v) (X1 := X) hz ta.pos hw.1.2.2 (by rw [← pA_upd]; exact wpl_setA ta (by decide) (by decide)) hP hS1 kk
theorem x_zast (C0 : CX p s m args meth c E cc own nL) (hz : s.heap.size + cells ≤ eB E + G.1) (hw : WD E G I X s.heap H locs) {a : Nat} {I1 : Im} (ta : okA E G 12 a) {i v : Int32} (hi : inb i (G.2.2 a) = true) (hv : vp_nar .boolean v = v) (hd : decode cc pc = .ok (.bastore, 1)) (eM : I1 = pA I a i.toNatClampNeg v)
    (kk : ∀ (H : Heap) (locs : List Loc), WD E G I1 X s.heap H locs → W p l e R s m args below meth c H locs cells slots Q (F0 m (pc + 1) ls rest)) : W p l e R s m args below meth c H locs cells slots Q (F0 m pc ls (.int v :: .int i :: .ref a :: rest)) := by
  subst eM
  refine va_zast C0.1 C0.2.1 C0.2.2.2.2.2.2.1 hw.1.1 (wpl_D E G I X) hw.2 (a - eB E) 2 (wpl_i ta (by decide) (by decide)) rfl (inb_in hi) hd fun H1 locs1 hP _ hS1 => ?_
  rw [hv] at hP
  exact x_behind (I1 := pA I a i.toNatClampNeg v) (X1 := X) hz ta.pos hw.1.2.2 (by rw [← pA_upd]; exact wpl_setA ta (by decide) (by decide)) hP hS1 kk
theorem x_qald (C0 : CX p s m args meth c E cc own nL) (hw : WD E G I X s.heap H locs) {a b : Nat} (k : Nat) (ta : okA E G k a) (hk : 13 ≤ k) {C : String} (hC : (tysL (eC E))[k - 10]? = some (eC E k, .object C)) {i : Int32} (hi : inb i (G.2.2 a) = true) (hb2 : gQ X a i.toNatClampNeg = some b) (hd : decode cc pc = .ok (.aaload, 1))
    (kk : W p l e R s m args below meth c H locs cells slots Q (F0 m (pc + 1) ls (.ref b :: rest))) : W p l e R s m args below meth c H locs cells slots Q (F0 m pc ls (.int i :: .ref a :: rest)) := by
  refine va_aldq C0.1 C0.2.1 C0.2.2.2.2.2.2.1 hw.1.1 (a - eB E) (k - 10) (wpl_q ta hk) hC (inb_in hi) hd ?_
  rw [hb2]
  exact kk
theorem x_qast (C0 : CX p s m args meth c E cc own nL) (hz : s.heap.size + cells ≤ eB E + G.1) (hw : WD E G I X s.heap H locs) {a b : Nat} {X1 : Xm} (k : Nat) (ta : okA E G k a) (hk : 13 ≤ k) (tb : okA E G (elk k) b) (hb10 : elk k < 10) {r : vw_C} (hC : (tysL (eC E))[k - 10]? = some (eC E k, .object r.1)) (hc : vwCl[elk k]? = some r) {i : Int32} (hi : inb i (G.2.2 a) = true) (hd : decode cc pc = .ok (.aastore, 1)) (eM : X1 = pQ X a i.toNatClampNeg (some b))
    (kk : ∀ (H : Heap) (locs : List Loc), WD E G I X1 s.heap H locs → W p l e R s m args below meth c H locs cells slots Q (F0 m (pc + 1) ls rest)) : W p l e R s m args below meth c H locs cells slots Q (F0 m pc ls (.ref b :: .int i :: .ref a :: rest)) := by
  subst eM
  refine va_astq C0.1 C0.2.1 C0.2.2.2.2.2.2.1 hw.1.1 (wpl_D E G I X) hw.2 (a - eB E) (k - 10) (b - eB E) (elk k) (wpl_q ta hk) hC (wpl_o tb hb10) hc (inb_in hi) hd fun H1 locs1 hP _ hS1 => ?_
  exact x_behind (I1 := I) hz ta.pos (wt_pQ hw.1.2.2 ta tb) (wpl_setQ ta hk) hP hS1 kk
theorem x_alen (C0 : CX p s m args meth c E cc own nL) (hw : WD E G I X s.heap H locs) {a : Nat} (k : Nat) (ta : okA E G k a) (hk : 10 ≤ k) {ty : FieldType} (hC : (tysL (eC E))[k - 10]? = some (eC E k, ty)) (hd : decode cc pc = .ok (.arraylength, 1))
    (kk : W p l e R s m args below meth c H locs cells slots Q (F0 m (pc + 1) ls (.int (nI (G.2.2 a)) :: rest))) : W p l e R s m args below meth c H locs cells slots Q (F0 m pc ls (.ref a :: rest)) := by
  by_cases h : k < 13
  · exact va_alen C0.1 C0.2.1 C0.2.2.2.2.2.2.1 hw.1.1 (a - eB E) (k - 10) (wpl_i ta hk h) hC rfl hd kk
  · exact va_alen C0.1 C0.2.1 C0.2.2.2.2.2.2.1 hw.1.1 (a - eB E) (k - 10) (wpl_q ta (by omega)) hC rfl hd kk
/-! ends -/
theorem x_iret (C0 : CX p s m args meth c E cc own nL) (hr : meth.sig.returnType = some .int) {r : Int32} (hw : WD E G I X s.heap H locs) (hd : decode cc pc = .ok (.ireturn, 1)) : W p l e R s m args below meth c H locs cells slots (MQ below (QI E G r I X) args s cells slots (eA E)) (F0 m pc ls [.int r]) :=
  W.iret C0.1 C0.2.1 hr (fun t ht hW => ⟨⟨r, (I, X), rfl, ⟨rfl, rfl⟩, wh_of ht hw.1⟩, hw.2.F ht⟩) hw.2.2.2 hd C0.2.2.2.2.2.1
theorem x_zret (C0 : CX p s m args meth c E cc own nL) {ty : FieldType} (hr : meth.sig.returnType = some ty) {r : Int32} (hn : narrow ty (.int r) = .int r) (hw : WD E G I X s.heap H locs) (hd : decode cc pc = .ok (.ireturn, 1)) : W p l e R s m args below meth c H locs cells slots (MQ below (QI E G r I X) args s cells slots (eA E)) (F0 m pc ls [.int r]) :=
  W.zret C0.1 C0.2.1 hr hn (fun t ht hW => ⟨⟨r, (I, X), rfl, ⟨rfl, rfl⟩, wh_of ht hw.1⟩, hw.2.F ht⟩) hw.2.2.2 hd C0.2.2.2.2.2.1
theorem x_vret (C0 : CX p s m args meth c E cc own nL) (hr : meth.sig.returnType = none) (hw : WD E G I X s.heap H locs) (hd : decode cc pc = .ok (.return_, 1)) : W p l e R s m args below meth c H locs cells slots (MQ below (QV E G I X) args s cells slots (eA E)) (F0 m pc ls []) :=
  W.vret C0.1 C0.2.1 hr (fun t ht hW => ⟨⟨(I, X), rfl, rfl, wh_of ht hw.1⟩, hw.2.F ht⟩) hw.2.2.2 hd C0.2.2.2.2.2.1
theorem x_oret (C0 : CX p s m args meth c E cc own nL) {n : String} (hr : meth.sig.returnType = some (.object n)) {k : Nat} {r : Option Nat} (tr : ∀ a, r = some a → okA E G k a) (hw : WD E G I X s.heap H locs) (hd : decode cc pc = .ok (.areturn, 1)) : W p l e R s m args below meth c H locs cells slots (MQ below (QO E G k r I X) args s cells slots (eA E)) (F0 m pc ls [va_rf r]) :=
  W.aret C0.1 C0.2.1 hr (Or.inl ⟨n, rfl⟩) (va_rf_or r) (fun t ht hW => ⟨⟨r, (I, X), rfl, ⟨rfl, rfl, tr⟩, wh_of ht hw.1⟩, hw.2.F ht⟩) hw.2.2.2 hd C0.2.2.2.2.2.1
/-! calls -/
theorem x_runV (C0 : CX p s m args meth c E cc own nL) {y : MethodName} {bytes : ByteArray} {maxL n index : Nat} {ret : Option FieldType} {rm : Room} {Qc : Array Value → State → Outcome → State → Prop} {mc ms b : Nat} {As : List Value} (hM : MT l y bytes maxL ret rm E G I X (.ref b :: As) Qc mc ms) (hw : WD E G I X s.heap H locs) (k : Nat) (tb : okA E G k b) (hk : k < 10) {C : String} {T : u_T} {N : Nat} (hc : vwCl[k]? = some (C, T, N))
    (hcode : Cond.code y bytes maxL ret ∈ GT) (hl : Cond.methodLink own index y ∈ GT) (hin : Cond.instanceMethod y ∈ GT) (hsel : Cond.selects C y y ∈ GT) (hini : Cond.initialized C ∈ GT) (hrm : rm.cells = mc ∧ rm.slots = ms)
    (hy : y.cls = C ∧ y.cls ≠ "java/lang/invoke/MethodHandle" ∧ y.cls ≠ "java/lang/invoke/VarHandle" ∧ (parseMethodDescriptor y.desc).map (fun d => d.parameters.length) = some n) (hR : rm.frames + 1 ≤ R.frames ∧ 8 + (maxL + 11) + rm.locals ≤ R.locals)
    (hn : As.length = n) (hsz : ls.size = nL) (hcat : (rest.map fun v => v.category).sum ≤ 8) (hf : cells + mc ≤ R.cells ∧ slots + ms ≤ R.slots) (hd : decode cc pc = .ok (.invokevirtual index, 3)) :
    va_Run p l e R s m args below meth c H locs cells slots mc ms (F0 m pc ls (As.reverse ++ .ref b :: rest)) rest (Qc (Value.ref b :: As).toArray) (eA E) := by
  obtain ⟨hx, hb, hml, hown, hts, -, hS⟩ := C0
  have hT : GoodIn GT (wsV own index C y (WS y bytes maxL ret)) := fun w hw => by
    rcases List.mem_append.mp hw with h | h
    · refine gt_GoodIn w ?_
      simp only [List.mem_cons, List.not_mem_nil, or_false] at h
      rcases h with rfl | rfl | rfl | rfl <;> assumption
    · exact ws_good hcode w h
  exact va_runV (As := As) (rest := rest) (Ts := GT) ⟨hx, hb, hml, hown, hts⟩ hM (cwV n hts hT rfl hrm.1 hrm.2 hy hR) ⟨PC_blind _ _ _ _ _, va_recv hS.1 hw.1.1 hc (wpl_o tb hk), PC_go hS hw⟩ rfl hn hsz rfl (lv_room hcat) hd hf
theorem x_runS (C0 : CX p s m args meth c E cc own nL) {y : MethodName} {bytes : ByteArray} {maxL n index : Nat} {ret : Option FieldType} {rm : Room} {Qc : Array Value → State → Outcome → State → Prop} {mc ms : Nat} {As : List Value} (hM : MT l y bytes maxL ret rm E G I X As Qc mc ms) (hw : WD E G I X s.heap H locs)
    (hcode : Cond.code y bytes maxL ret ∈ GT) (hl : Cond.methodLink own index y ∈ GT) (hst : Cond.static y ∈ GT) (hini : Cond.initialized own ∈ GT) (hrm : rm.cells = mc ∧ rm.slots = ms)
    (hy : y.cls = own ∧ y.cls ≠ "java/lang/invoke/MethodHandle" ∧ y.cls ≠ "java/lang/invoke/VarHandle" ∧ (parseMethodDescriptor y.desc).map (fun d => d.parameters.length) = some n) (hR : rm.frames + 1 ≤ R.frames ∧ 8 + (maxL + 11) + rm.locals ≤ R.locals)
    (hn : As.length = n) (hsz : ls.size = nL) (hcat : (rest.map fun v => v.category).sum ≤ 8) (hf : cells + mc ≤ R.cells ∧ slots + ms ≤ R.slots) (hd : decode cc pc = .ok (.invokestatic index, 3)) :
    va_Run p l e R s m args below meth c H locs cells slots mc ms (F0 m pc ls (As.reverse ++ rest)) rest (Qc As.toArray) (eA E) := by
  obtain ⟨hx, hb, hml, hown, hts, -, hS⟩ := C0
  have hT : GoodIn GT (wsS own index y (WS y bytes maxL ret)) := fun w hw => by
    rcases List.mem_append.mp hw with h | h
    · refine gt_GoodIn w ?_
      simp only [List.mem_cons, List.not_mem_nil, or_false] at h
      rcases h with rfl | rfl | rfl <;> assumption
    · exact ws_good hcode w h
  exact va_runS (As := As) (rest := rest) (Ts := GT) ⟨hx, hb, hml, hown, hts⟩ hM (cwS n hts hT rfl hrm.1 hrm.2 hy hR) ⟨PC_blind _ _ _ _ _, PC_go hS hw⟩ rfl hn hsz rfl (lv_room hcat) hd hf
theorem x_runSN (C0 : CX p s m args meth c E cc own nL) {y : MethodName} {bytes : ByteArray} {maxL n index : Nat} {ret : Option FieldType} {rm : Room} {Qc : Array Value → State → Outcome → State → Prop} {mc ms : Nat} {As : List Value} {host : String} (hM : MT l y bytes maxL ret rm E G I X As Qc mc ms) (hw : WD E G I X s.heap H locs)
    (hcode : Cond.code y bytes maxL ret ∈ GT) (hl : (own, index, y, host) ∈ nwM) (hst : Cond.static y ∈ GT) (hini : Cond.initialized y.cls ∈ GT) (hrm : rm.cells = mc ∧ rm.slots = ms)
    (hy : y.cls ≠ "java/lang/invoke/MethodHandle" ∧ y.cls ≠ "java/lang/invoke/VarHandle" ∧ (parseMethodDescriptor y.desc).map (fun d => d.parameters.length) = some n) (hR : rm.frames + 1 ≤ R.frames ∧ 8 + (maxL + 11) + rm.locals ≤ R.locals)
    (hn : As.length = n) (hsz : ls.size = nL) (hcat : (rest.map fun v => v.category).sum ≤ 8) (hf : cells + mc ≤ R.cells ∧ slots + ms ≤ R.slots) (hd : decode cc pc = .ok (.invokestatic index, 3)) :
    va_Run p l e R s m args below meth c H locs cells slots mc ms (F0 m pc ls (As.reverse ++ rest)) rest (Qc As.toArray) (eA E) := by
  obtain ⟨hx, hb, hml, hown, hts, -, hS⟩ := C0
  exact va_runSN (As := As) (rest := rest) (Ts := GT) (host := host) ⟨hx, hb, hml, hown, hts⟩ hM ⟨va_cnB n hts (ws_good hcode) rfl hrm.1 hrm.2 (hS.2.1 _ hl) (hts _ hini) hy hR, hts _ hst, trivial⟩ ⟨PC_blind _ _ _ _ _, PC_go hS hw⟩ rfl hn hsz rfl (lv_room hcat) hd hf
theorem x_runI (C0 : CX p s m args meth c E cc own nL) {y : MethodName} {bytes : ByteArray} {maxL n index : Nat} {rm : Room} {Qc : Array Value → State → Outcome → State → Prop} {mc ms b : Nat} {As : List Value} (hM : MT l y bytes maxL none rm E G I X (.ref b :: As) Qc mc ms) (hw : WD E G I X s.heap H locs)
    (hcode : Cond.code y bytes maxL none ∈ GT) (hl : Cond.methodLink own index y ∈ GT) (hin : Cond.instanceMethod y ∈ GT) (hini : Cond.initialized y.cls ∈ GT) (hy1 : y.name = "<init>") (hrm : rm.cells = mc ∧ rm.slots = ms)
    (hy : y.cls ≠ "java/lang/invoke/MethodHandle" ∧ y.cls ≠ "java/lang/invoke/VarHandle" ∧ (parseMethodDescriptor y.desc).map (fun d => d.parameters.length) = some n) (hR : rm.frames + 1 ≤ R.frames ∧ 8 + (maxL + 11) + rm.locals ≤ R.locals)
    (hn : As.length = n) (hsz : ls.size = nL) (hcat : (rest.map fun v => v.category).sum ≤ 8) (hf : cells + mc ≤ R.cells ∧ slots + ms ≤ R.slots) (hd : decode cc pc = .ok (.invokespecial index, 3)) :
    va_Run p l e R s m args below meth c H locs cells slots mc ms (F0 m pc ls (As.reverse ++ .ref b :: rest)) rest (Qc (Value.ref b :: As).toArray) (eA E) := by
  obtain ⟨hx, hb, hml, hown, hts, -, hS⟩ := C0
  exact va_runI (As := As) (rest := rest) (Ts := GT) ⟨hx, hb, hml, hown, hts⟩ hM (cwI n hts (ws_good hcode) rfl hrm.1 hrm.2 (hts _ hini) (hts _ hl) (hts _ hin) hy1 hy hR) ⟨PC_blind _ _ _ _ _, PC_go hS hw⟩ rfl hn hsz rfl (lv_room hcat) hd hf
theorem x_runIN (C0 : CX p s m args meth c E cc own nL) {y : MethodName} {bytes : ByteArray} {maxL n index : Nat} {rm : Room} {Qc : Array Value → State → Outcome → State → Prop} {mc ms b : Nat} {As : List Value} {host : String} (hM : MT l y bytes maxL none rm E G I X (.ref b :: As) Qc mc ms) (hw : WD E G I X s.heap H locs)
    (hcode : Cond.code y bytes maxL none ∈ GT) (hl : (own, index, y, host) ∈ nwM) (hin : Cond.instanceMethod y ∈ GT) (hini : Cond.initialized y.cls ∈ GT) (hy1 : y.name = "<init>") (hrm : rm.cells = mc ∧ rm.slots = ms)
    (hy : y.cls ≠ "java/lang/invoke/MethodHandle" ∧ y.cls ≠ "java/lang/invoke/VarHandle" ∧ (parseMethodDescriptor y.desc).map (fun d => d.parameters.length) = some n) (hR : rm.frames + 1 ≤ R.frames ∧ 8 + (maxL + 11) + rm.locals ≤ R.locals)
    (hn : As.length = n) (hsz : ls.size = nL) (hcat : (rest.map fun v => v.category).sum ≤ 8) (hf : cells + mc ≤ R.cells ∧ slots + ms ≤ R.slots) (hd : decode cc pc = .ok (.invokespecial index, 3)) :
    va_Run p l e R s m args below meth c H locs cells slots mc ms (F0 m pc ls (As.reverse ++ .ref b :: rest)) rest (Qc (Value.ref b :: As).toArray) (eA E) := by
  obtain ⟨hx, hb, hml, hown, hts, -, hS⟩ := C0
  exact va_runIN (As := As) (rest := rest) (Ts := GT) (host := host) ⟨hx, hb, hml, hown, hts⟩ hM ⟨va_cnB n hts (ws_good hcode) rfl hrm.1 hrm.2 (hS.2.1 _ hl) (hts _ hini) hy hR, hy1, hts _ hin⟩ ⟨PC_blind _ _ _ _ _, PC_go hS hw⟩ rfl hn hsz rfl (lv_room hcat) hd hf
theorem x_ci {G1 : GM} {r : Int32} {I1 : Im} {X1 : Xm} {mc ms : Nat} {a : Array Value} {st0 : List Value} (hr : va_Run p l e R s m args below meth c H locs cells slots mc ms (F0 m pc ls st0) rest (QI E G1 r I1 X1 a) (eA E)) (hw : WD E G I X s.heap H locs)
    (kk : ∀ (H : Heap) (locs : List Loc), WD E G1 I1 X1 s.heap H locs → W p l e R s m args below meth c H locs (cells + mc) (slots + ms) Q (F0 m (pc + 3) ls (.int r :: rest))) : W p l e R s m args below meth c H locs cells slots Q (F0 m pc ls st0) :=
  va_calli hr hw.2 (fun _ _ h => h) (fun _ h => h) fun r' u t H1 locs1 ht _ hp hB _ _ hS1 => by
    obtain ⟨rfl, rfl⟩ := hp
    exact kk H1 locs1 ⟨by rw [← ht]; exact hB, hS1⟩
theorem x_cv {G1 : GM} {I1 : Im} {X1 : Xm} {mc ms : Nat} {a : Array Value} {st0 : List Value} (hr : va_Run p l e R s m args below meth c H locs cells slots mc ms (F0 m pc ls st0) rest (QV E G1 I1 X1 a) (eA E)) (hw : WD E G I X s.heap H locs)
    (kk : ∀ (H : Heap) (locs : List Loc), WD E G1 I1 X1 s.heap H locs → W p l e R s m args below meth c H locs (cells + mc) (slots + ms) Q (F0 m (pc + 3) ls rest)) : W p l e R s m args below meth c H locs cells slots Q (F0 m pc ls st0) :=
  va_callv hr hw.2 (fun _ _ h => h) (fun _ h => h) fun u t H1 locs1 ht _ hp hB _ _ hS1 => by
    obtain rfl := hp
    exact kk H1 locs1 ⟨by rw [← ht]; exact hB, hS1⟩
theorem x_co {G1 : GM} {k : Nat} {r : Option Nat} {I1 : Im} {X1 : Xm} {mc ms : Nat} {a : Array Value} {st0 : List Value} (hr : va_Run p l e R s m args below meth c H locs cells slots mc ms (F0 m pc ls st0) rest (QO E G1 k r I1 X1 a) (eA E)) (hw : WD E G I X s.heap H locs)
    (kk : ∀ (H : Heap) (locs : List Loc), WD E G1 I1 X1 s.heap H locs → (∀ a, r = some a → okA E G1 k a) → W p l e R s m args below meth c H locs (cells + mc) (slots + ms) Q (F0 m (pc + 3) ls (va_rf r :: rest))) : W p l e R s m args below meth c H locs cells slots Q (F0 m pc ls st0) :=
  va_callq hr hw.2 (fun _ _ h => h) (fun _ h => h) fun r' u t H1 locs1 ht _ hp hB _ _ hS1 => by
    obtain ⟨rfl, rfl, tr⟩ := hp
    exact kk H1 locs1 ⟨by rw [← ht]; exact hB, hS1⟩ tr
/-! nullable references in locals and on the stack -/
theorem x_aload_n (C0 : CX p s m args meth c E cc own nL) {k : Fin 4} {i : Nat} {o : Option Nat} (hd : decode cc pc = .ok (.aload_n k, 1)) (hi : (k : Nat) = i) (hl : ls[i]? = some (.val (va_rf o)))
    (kk : W p l e R s m args below meth c H locs cells slots Q (F0 m (pc + 1) ls (va_rf o :: rest))) : W p l e R s m args below meth c H locs cells slots Q (F0 m pc ls rest) := by
  cases o with
  | none => exact lv_aload_nN C0.1 C0.2.1 hd hi hl kk
  | some a => exact lv_aload_n C0.1 C0.2.1 hd hi hl kk
theorem x_aload (C0 : CX p s m args meth c E cc own nL) {i : Nat} {o : Option Nat} (hd : decode cc pc = .ok (.aload i, 2)) (hl : ls[i]? = some (.val (va_rf o)))
    (kk : W p l e R s m args below meth c H locs cells slots Q (F0 m (pc + 2) ls (va_rf o :: rest))) : W p l e R s m args below meth c H locs cells slots Q (F0 m pc ls rest) := by
  cases o with
  | none => exact lv_aloadN C0.1 C0.2.1 hd hl kk
  | some a => exact lv_aload C0.1 C0.2.1 hd hl kk
theorem x_ifnull (C0 : CX p s m args meth c E cc own nL) {o : Option Nat} {off : Int} {tgt : Nat} (hd : decode cc pc = .ok (.ifnull off, 3)) (ht : (pc : Int) + off = (tgt : Int))
    (kn : o = none → W p l e R s m args below meth c H locs cells slots Q (F0 m tgt ls rest)) (ks : ¬ o = none → W p l e R s m args below meth c H locs cells slots Q (F0 m (pc + 3) ls rest)) : W p l e R s m args below meth c H locs cells slots Q (F0 m pc ls (va_rf o :: rest)) := by
  cases o with
  | none => exact lv_ifnullN C0.1 C0.2.1 hd ht (kn rfl)
  | some a => exact lv_ifnull C0.1 C0.2.1 hd (ks (by simp))
theorem x_ifnonnull (C0 : CX p s m args meth c E cc own nL) {o : Option Nat} {off : Int} {tgt : Nat} (hd : decode cc pc = .ok (.ifnonnull off, 3)) (ht : (pc : Int) + off = (tgt : Int))
    (ks : ¬ o = none → W p l e R s m args below meth c H locs cells slots Q (F0 m tgt ls rest)) (kn : o = none → W p l e R s m args below meth c H locs cells slots Q (F0 m (pc + 3) ls rest)) : W p l e R s m args below meth c H locs cells slots Q (F0 m pc ls (va_rf o :: rest)) := by
  cases o with
  | none => exact lv_ifnonnullN C0.1 C0.2.1 hd (kn rfl)
  | some a => exact lv_ifnonnull C0.1 C0.2.1 hd ht (ks (by simp))
theorem x_isom {o : Option Nat} {b : Nat} {pcx : Nat} {st1 st2 : List Value} (h : o = some b) (kk : W p l e R s m args below meth c H locs cells slots Q (F0 m pcx ls (st1 ++ .ref b :: st2))) : W p l e R s m args below meth c H locs cells slots Q (F0 m pcx ls (st1 ++ va_rf o :: st2)) := by
  subst h
  exact kk
end XR
end
section
/-! ===== reading and writing each field ===== -/
section XF
variable {p : Program}
variable {l : Launch}
variable {e : Env}
variable {R : Room}
variable {s : State}
variable {m : MethodId}
variable {args : Array Value}
variable {below : List Frame}
variable {meth : Method}
variable {c : Code}
variable {H : Heap}
variable {locs : List Loc}
variable {cells slots : Nat}
variable {Q : State → Prop}
variable {cc : ByteArray}
variable {pc : Nat}
variable {ls : Array Slot}
variable {rest : List Value}
variable {E : EN}
variable {own : String}
variable {nL : Nat}
variable {G : GM}
variable {I : Im}
variable {X : Xm}
theorem xg_0_0 (C0 : CX p s m args meth c E cc own nL) (hw : WD E G I X s.heap H locs) {a index : Nat} (ta : okA E G 0 a) (hl : Cond.fieldLink own index "RadioCues$Channel" "level" "I" ∈ GT) (hd : decode cc pc = .ok (.getfield index, 3)) (kk : W p l e R s m args below meth c H locs cells slots Q (F0 m (pc + 3) ls (.int (gF I 0 a) :: rest))) : W p l e R s m args below meth c H locs cells slots Q (F0 m pc ls (.ref a :: rest)) := x_getI C0 hw 0 0 ta rfl inG0 (by decide) (by decide) (by decide) (by decide) hl hd kk
theorem xp_0_0 (C0 : CX p s m args meth c E cc own nL) (hz : s.heap.size + cells ≤ eB E + G.1) (hw : WD E G I X s.heap H locs) {a index : Nat} {v : Int32} {I1 : Im} (ta : okA E G 0 a) (hn : narrow .int (.int v) = .int v) (hfit : fits .int (.int v) = true) (hl : Cond.fieldLink own index "RadioCues$Channel" "level" "I" ∈ GT) (hd : decode cc pc = .ok (.putfield index, 3)) (eI : I1 = pF I 0 a v) (kk : ∀ (H : Heap) (locs : List Loc), WD E G I1 X s.heap H locs → W p l e R s m args below meth c H locs cells slots Q (F0 m (pc + 3) ls rest)) : W p l e R s m args below meth c H locs cells slots Q (F0 m pc ls (.int v :: .ref a :: rest)) := x_putI C0 hz hw 0 0 ta rfl inG0 tyX0 tyX0_ok nmX0 (by decide) (by decide) (by decide) (by decide) rfl hn hfit hl hd eI kk
theorem xg_0_1 (C0 : CX p s m args meth c E cc own nL) (hw : WD E G I X s.heap H locs) {a index : Nat} (ta : okA E G 0 a) (hl : Cond.fieldLink own index "RadioCues$Channel" "goal" "I" ∈ GT) (hd : decode cc pc = .ok (.getfield index, 3)) (kk : W p l e R s m args below meth c H locs cells slots Q (F0 m (pc + 3) ls (.int (gF I 1 a) :: rest))) : W p l e R s m args below meth c H locs cells slots Q (F0 m pc ls (.ref a :: rest)) := x_getI C0 hw 0 1 ta rfl inG0 (by decide) (by decide) (by decide) (by decide) hl hd kk
theorem xp_0_1 (C0 : CX p s m args meth c E cc own nL) (hz : s.heap.size + cells ≤ eB E + G.1) (hw : WD E G I X s.heap H locs) {a index : Nat} {v : Int32} {I1 : Im} (ta : okA E G 0 a) (hn : narrow .int (.int v) = .int v) (hfit : fits .int (.int v) = true) (hl : Cond.fieldLink own index "RadioCues$Channel" "goal" "I" ∈ GT) (hd : decode cc pc = .ok (.putfield index, 3)) (eI : I1 = pF I 1 a v) (kk : ∀ (H : Heap) (locs : List Loc), WD E G I1 X s.heap H locs → W p l e R s m args below meth c H locs cells slots Q (F0 m (pc + 3) ls rest)) : W p l e R s m args below meth c H locs cells slots Q (F0 m pc ls (.int v :: .ref a :: rest)) := x_putI C0 hz hw 0 1 ta rfl inG0 tyX0 tyX0_ok nmX0 (by decide) (by decide) (by decide) (by decide) rfl hn hfit hl hd eI kk
theorem xg_1_0 (C0 : CX p s m args meth c E cc own nL) (hw : WD E G I X s.heap H locs) {a index : Nat} (ta : okA E G 1 a) (hl : Cond.fieldLink own index "RadioCues$Cue" "second" "I" ∈ GT) (hd : decode cc pc = .ok (.getfield index, 3)) (kk : W p l e R s m args below meth c H locs cells slots Q (F0 m (pc + 3) ls (.int (gF I 16 a) :: rest))) : W p l e R s m args below meth c H locs cells slots Q (F0 m pc ls (.ref a :: rest)) := x_getI C0 hw 1 0 ta rfl inG1 (by decide) (by decide) (by decide) (by decide) hl hd kk
theorem xp_1_0 (C0 : CX p s m args meth c E cc own nL) (hz : s.heap.size + cells ≤ eB E + G.1) (hw : WD E G I X s.heap H locs) {a index : Nat} {v : Int32} {I1 : Im} (ta : okA E G 1 a) (hn : narrow .int (.int v) = .int v) (hfit : fits .int (.int v) = true) (hl : Cond.fieldLink own index "RadioCues$Cue" "second" "I" ∈ GT) (hd : decode cc pc = .ok (.putfield index, 3)) (eI : I1 = pF I 16 a v) (kk : ∀ (H : Heap) (locs : List Loc), WD E G I1 X s.heap H locs → W p l e R s m args below meth c H locs cells slots Q (F0 m (pc + 3) ls rest)) : W p l e R s m args below meth c H locs cells slots Q (F0 m pc ls (.int v :: .ref a :: rest)) := x_putI C0 hz hw 1 0 ta rfl inG1 tyX1 tyX1_ok nmX1 (by decide) (by decide) (by decide) (by decide) rfl hn hfit hl hd eI kk
theorem xg_1_1 (C0 : CX p s m args meth c E cc own nL) (hw : WD E G I X s.heap H locs) {a index : Nat} (ta : okA E G 1 a) (hl : Cond.fieldLink own index "RadioCues$Cue" "kind" "I" ∈ GT) (hd : decode cc pc = .ok (.getfield index, 3)) (kk : W p l e R s m args below meth c H locs cells slots Q (F0 m (pc + 3) ls (.int (gF I 17 a) :: rest))) : W p l e R s m args below meth c H locs cells slots Q (F0 m pc ls (.ref a :: rest)) := x_getI C0 hw 1 1 ta rfl inG1 (by decide) (by decide) (by decide) (by decide) hl hd kk
theorem xp_1_1 (C0 : CX p s m args meth c E cc own nL) (hz : s.heap.size + cells ≤ eB E + G.1) (hw : WD E G I X s.heap H locs) {a index : Nat} {v : Int32} {I1 : Im} (ta : okA E G 1 a) (hn : narrow .int (.int v) = .int v) (hfit : fits .int (.int v) = true) (hl : Cond.fieldLink own index "RadioCues$Cue" "kind" "I" ∈ GT) (hd : decode cc pc = .ok (.putfield index, 3)) (eI : I1 = pF I 17 a v) (kk : ∀ (H : Heap) (locs : List Loc), WD E G I1 X s.heap H locs → W p l e R s m args below meth c H locs cells slots Q (F0 m (pc + 3) ls rest)) : W p l e R s m args below meth c H locs cells slots Q (F0 m pc ls (.int v :: .ref a :: rest)) := x_putI C0 hz hw 1 1 ta rfl inG1 tyX1 tyX1_ok nmX1 (by decide) (by decide) (by decide) (by decide) rfl hn hfit hl hd eI kk
theorem xg_1_2 (C0 : CX p s m args meth c E cc own nL) (hw : WD E G I X s.heap H locs) {a index : Nat} (ta : okA E G 1 a) (hl : Cond.fieldLink own index "RadioCues$Cue" "where" "I" ∈ GT) (hd : decode cc pc = .ok (.getfield index, 3)) (kk : W p l e R s m args below meth c H locs cells slots Q (F0 m (pc + 3) ls (.int (gF I 18 a) :: rest))) : W p l e R s m args below meth c H locs cells slots Q (F0 m pc ls (.ref a :: rest)) := x_getI C0 hw 1 2 ta rfl inG1 (by decide) (by decide) (by decide) (by decide) hl hd kk
theorem xp_1_2 (C0 : CX p s m args meth c E cc own nL) (hz : s.heap.size + cells ≤ eB E + G.1) (hw : WD E G I X s.heap H locs) {a index : Nat} {v : Int32} {I1 : Im} (ta : okA E G 1 a) (hn : narrow .int (.int v) = .int v) (hfit : fits .int (.int v) = true) (hl : Cond.fieldLink own index "RadioCues$Cue" "where" "I" ∈ GT) (hd : decode cc pc = .ok (.putfield index, 3)) (eI : I1 = pF I 18 a v) (kk : ∀ (H : Heap) (locs : List Loc), WD E G I1 X s.heap H locs → W p l e R s m args below meth c H locs cells slots Q (F0 m (pc + 3) ls rest)) : W p l e R s m args below meth c H locs cells slots Q (F0 m pc ls (.int v :: .ref a :: rest)) := x_putI C0 hz hw 1 2 ta rfl inG1 tyX1 tyX1_ok nmX1 (by decide) (by decide) (by decide) (by decide) rfl hn hfit hl hd eI kk
theorem xg_1_3 (C0 : CX p s m args meth c E cc own nL) (hw : WD E G I X s.heap H locs) {a index : Nat} (ta : okA E G 1 a) (hl : Cond.fieldLink own index "RadioCues$Cue" "value" "I" ∈ GT) (hd : decode cc pc = .ok (.getfield index, 3)) (kk : W p l e R s m args below meth c H locs cells slots Q (F0 m (pc + 3) ls (.int (gF I 19 a) :: rest))) : W p l e R s m args below meth c H locs cells slots Q (F0 m pc ls (.ref a :: rest)) := x_getI C0 hw 1 3 ta rfl inG1 (by decide) (by decide) (by decide) (by decide) hl hd kk
theorem xp_1_3 (C0 : CX p s m args meth c E cc own nL) (hz : s.heap.size + cells ≤ eB E + G.1) (hw : WD E G I X s.heap H locs) {a index : Nat} {v : Int32} {I1 : Im} (ta : okA E G 1 a) (hn : narrow .int (.int v) = .int v) (hfit : fits .int (.int v) = true) (hl : Cond.fieldLink own index "RadioCues$Cue" "value" "I" ∈ GT) (hd : decode cc pc = .ok (.putfield index, 3)) (eI : I1 = pF I 19 a v) (kk : ∀ (H : Heap) (locs : List Loc), WD E G I1 X s.heap H locs → W p l e R s m args below meth c H locs cells slots Q (F0 m (pc + 3) ls rest)) : W p l e R s m args below meth c H locs cells slots Q (F0 m pc ls (.int v :: .ref a :: rest)) := x_putI C0 hz hw 1 3 ta rfl inG1 tyX1 tyX1_ok nmX1 (by decide) (by decide) (by decide) (by decide) rfl hn hfit hl hd eI kk
theorem xg_1_4 (C0 : CX p s m args meth c E cc own nL) (hw : WD E G I X s.heap H locs) {a index : Nat} (ta : okA E G 1 a) (hl : Cond.fieldLink own index "RadioCues$Cue" "fate" "I" ∈ GT) (hd : decode cc pc = .ok (.getfield index, 3)) (kk : W p l e R s m args below meth c H locs cells slots Q (F0 m (pc + 3) ls (.int (gF I 20 a) :: rest))) : W p l e R s m args below meth c H locs cells slots Q (F0 m pc ls (.ref a :: rest)) := x_getI C0 hw 1 4 ta rfl inG1 (by decide) (by decide) (by decide) (by decide) hl hd kk
theorem xp_1_4 (C0 : CX p s m args meth c E cc own nL) (hz : s.heap.size + cells ≤ eB E + G.1) (hw : WD E G I X s.heap H locs) {a index : Nat} {v : Int32} {I1 : Im} (ta : okA E G 1 a) (hn : narrow .int (.int v) = .int v) (hfit : fits .int (.int v) = true) (hl : Cond.fieldLink own index "RadioCues$Cue" "fate" "I" ∈ GT) (hd : decode cc pc = .ok (.putfield index, 3)) (eI : I1 = pF I 20 a v) (kk : ∀ (H : Heap) (locs : List Loc), WD E G I1 X s.heap H locs → W p l e R s m args below meth c H locs cells slots Q (F0 m (pc + 3) ls rest)) : W p l e R s m args below meth c H locs cells slots Q (F0 m pc ls (.int v :: .ref a :: rest)) := x_putI C0 hz hw 1 4 ta rfl inG1 tyX1 tyX1_ok nmX1 (by decide) (by decide) (by decide) (by decide) rfl hn hfit hl hd eI kk
theorem xg_2_0 (C0 : CX p s m args meth c E cc own nL) (hw : WD E G I X s.heap H locs) {a b index : Nat} (ta : okA E G 2 a) (hl : Cond.fieldLink own index "RadioCues$Doors" "channel" "[I" ∈ GT) (hb : gR X 32 a = some b) (hd : decode cc pc = .ok (.getfield index, 3)) (kk : W p l e R s m args below meth c H locs cells slots Q (F0 m (pc + 3) ls (.ref b :: rest))) : W p l e R s m args below meth c H locs cells slots Q (F0 m pc ls (.ref a :: rest)) := x_getR C0 hw 2 0 ta rfl inG2 (by decide) (by decide) (by decide) (by decide) hl hb hd kk
theorem xp_2_0 (C0 : CX p s m args meth c E cc own nL) (hz : s.heap.size + cells ≤ eB E + G.1) (hw : WD E G I X s.heap H locs) {a b index : Nat} {X1 : Xm} (hin2 : meth.name = "<init>") (hdecl : "RadioCues$Doors" = own) (ta : okA E G 2 a) (tb : okA E G 11 b) (hl : Cond.fieldLink own index "RadioCues$Doors" "channel" "[I" ∈ GT) (hd : decode cc pc = .ok (.putfield index, 3)) (eX : X1 = pR X 32 a (some b)) (kk : ∀ (H : Heap) (locs : List Loc), WD E G I X1 s.heap H locs → W p l e R s m args below meth c H locs cells slots Q (F0 m (pc + 3) ls rest)) : W p l e R s m args below meth c H locs cells slots Q (F0 m pc ls (.ref b :: .ref a :: rest)) := x_putRF C0 hz hw 2 0 ta rfl inG2 tyX2 tyX2_ok nmX2 (by decide) (by decide) (by decide) (by decide) rfl hin2 hdecl rfl rfl tb hl hd eX kk
theorem xg_2_1 (C0 : CX p s m args meth c E cc own nL) (hw : WD E G I X s.heap H locs) {a b index : Nat} (ta : okA E G 2 a) (hl : Cond.fieldLink own index "RadioCues$Doors" "loudness" "[I" ∈ GT) (hb : gR X 33 a = some b) (hd : decode cc pc = .ok (.getfield index, 3)) (kk : W p l e R s m args below meth c H locs cells slots Q (F0 m (pc + 3) ls (.ref b :: rest))) : W p l e R s m args below meth c H locs cells slots Q (F0 m pc ls (.ref a :: rest)) := x_getR C0 hw 2 1 ta rfl inG2 (by decide) (by decide) (by decide) (by decide) hl hb hd kk
theorem xp_2_1 (C0 : CX p s m args meth c E cc own nL) (hz : s.heap.size + cells ≤ eB E + G.1) (hw : WD E G I X s.heap H locs) {a b index : Nat} {X1 : Xm} (hin2 : meth.name = "<init>") (hdecl : "RadioCues$Doors" = own) (ta : okA E G 2 a) (tb : okA E G 11 b) (hl : Cond.fieldLink own index "RadioCues$Doors" "loudness" "[I" ∈ GT) (hd : decode cc pc = .ok (.putfield index, 3)) (eX : X1 = pR X 33 a (some b)) (kk : ∀ (H : Heap) (locs : List Loc), WD E G I X1 s.heap H locs → W p l e R s m args below meth c H locs cells slots Q (F0 m (pc + 3) ls rest)) : W p l e R s m args below meth c H locs cells slots Q (F0 m pc ls (.ref b :: .ref a :: rest)) := x_putRF C0 hz hw 2 1 ta rfl inG2 tyX2 tyX2_ok nmX2 (by decide) (by decide) (by decide) (by decide) rfl hin2 hdecl rfl rfl tb hl hd eX kk
theorem xg_2_2 (C0 : CX p s m args meth c E cc own nL) (hw : WD E G I X s.heap H locs) {a b index : Nat} (ta : okA E G 2 a) (hl : Cond.fieldLink own index "RadioCues$Doors" "left" "[I" ∈ GT) (hb : gR X 34 a = some b) (hd : decode cc pc = .ok (.getfield index, 3)) (kk : W p l e R s m args below meth c H locs cells slots Q (F0 m (pc + 3) ls (.ref b :: rest))) : W p l e R s m args below meth c H locs cells slots Q (F0 m pc ls (.ref a :: rest)) := x_getR C0 hw 2 2 ta rfl inG2 (by decide) (by decide) (by decide) (by decide) hl hb hd kk
theorem xp_2_2 (C0 : CX p s m args meth c E cc own nL) (hz : s.heap.size + cells ≤ eB E + G.1) (hw : WD E G I X s.heap H locs) {a b index : Nat} {X1 : Xm} (hin2 : meth.name = "<init>") (hdecl : "RadioCues$Doors" = own) (ta : okA E G 2 a) (tb : okA E G 11 b) (hl : Cond.fieldLink own index "RadioCues$Doors" "left" "[I" ∈ GT) (hd : decode cc pc = .ok (.putfield index, 3)) (eX : X1 = pR X 34 a (some b)) (kk : ∀ (H : Heap) (locs : List Loc), WD E G I X1 s.heap H locs → W p l e R s m args below meth c H locs cells slots Q (F0 m (pc + 3) ls rest)) : W p l e R s m args below meth c H locs cells slots Q (F0 m pc ls (.ref b :: .ref a :: rest)) := x_putRF C0 hz hw 2 2 ta rfl inG2 tyX2 tyX2_ok nmX2 (by decide) (by decide) (by decide) (by decide) rfl hin2 hdecl rfl rfl tb hl hd eX kk
theorem xg_2_3 (C0 : CX p s m args meth c E cc own nL) (hw : WD E G I X s.heap H locs) {a index : Nat} (ta : okA E G 2 a) (hl : Cond.fieldLink own index "RadioCues$Doors" "count" "I" ∈ GT) (hd : decode cc pc = .ok (.getfield index, 3)) (kk : W p l e R s m args below meth c H locs cells slots Q (F0 m (pc + 3) ls (.int (gF I 35 a) :: rest))) : W p l e R s m args below meth c H locs cells slots Q (F0 m pc ls (.ref a :: rest)) := x_getI C0 hw 2 3 ta rfl inG2 (by decide) (by decide) (by decide) (by decide) hl hd kk
theorem xp_2_3 (C0 : CX p s m args meth c E cc own nL) (hz : s.heap.size + cells ≤ eB E + G.1) (hw : WD E G I X s.heap H locs) {a index : Nat} {v : Int32} {I1 : Im} (ta : okA E G 2 a) (hn : narrow .int (.int v) = .int v) (hfit : fits .int (.int v) = true) (hl : Cond.fieldLink own index "RadioCues$Doors" "count" "I" ∈ GT) (hd : decode cc pc = .ok (.putfield index, 3)) (eI : I1 = pF I 35 a v) (kk : ∀ (H : Heap) (locs : List Loc), WD E G I1 X s.heap H locs → W p l e R s m args below meth c H locs cells slots Q (F0 m (pc + 3) ls rest)) : W p l e R s m args below meth c H locs cells slots Q (F0 m pc ls (.int v :: .ref a :: rest)) := x_putI C0 hz hw 2 3 ta rfl inG2 tyX2 tyX2_ok nmX2 (by decide) (by decide) (by decide) (by decide) rfl hn hfit hl hd eI kk
theorem xg_3_0 (C0 : CX p s m args meth c E cc own nL) (hw : WD E G I X s.heap H locs) {a b index : Nat} (ta : okA E G 3 a) (hl : Cond.fieldLink own index "RadioCues$Pad" "characters" "[C" ∈ GT) (hb : gR X 48 a = some b) (hd : decode cc pc = .ok (.getfield index, 3)) (kk : W p l e R s m args below meth c H locs cells slots Q (F0 m (pc + 3) ls (.ref b :: rest))) : W p l e R s m args below meth c H locs cells slots Q (F0 m pc ls (.ref a :: rest)) := x_getR C0 hw 3 0 ta rfl inG3 (by decide) (by decide) (by decide) (by decide) hl hb hd kk
theorem xp_3_0 (C0 : CX p s m args meth c E cc own nL) (hz : s.heap.size + cells ≤ eB E + G.1) (hw : WD E G I X s.heap H locs) {a b index : Nat} {X1 : Xm} (hin2 : meth.name = "<init>") (hdecl : "RadioCues$Pad" = own) (ta : okA E G 3 a) (tb : okA E G 10 b) (hl : Cond.fieldLink own index "RadioCues$Pad" "characters" "[C" ∈ GT) (hd : decode cc pc = .ok (.putfield index, 3)) (eX : X1 = pR X 48 a (some b)) (kk : ∀ (H : Heap) (locs : List Loc), WD E G I X1 s.heap H locs → W p l e R s m args below meth c H locs cells slots Q (F0 m (pc + 3) ls rest)) : W p l e R s m args below meth c H locs cells slots Q (F0 m pc ls (.ref b :: .ref a :: rest)) := x_putRF C0 hz hw 3 0 ta rfl inG3 tyX3 tyX3_ok nmX3 (by decide) (by decide) (by decide) (by decide) rfl hin2 hdecl rfl rfl tb hl hd eX kk
theorem xg_3_1 (C0 : CX p s m args meth c E cc own nL) (hw : WD E G I X s.heap H locs) {a index : Nat} (ta : okA E G 3 a) (hl : Cond.fieldLink own index "RadioCues$Pad" "length" "I" ∈ GT) (hd : decode cc pc = .ok (.getfield index, 3)) (kk : W p l e R s m args below meth c H locs cells slots Q (F0 m (pc + 3) ls (.int (gF I 49 a) :: rest))) : W p l e R s m args below meth c H locs cells slots Q (F0 m pc ls (.ref a :: rest)) := x_getI C0 hw 3 1 ta rfl inG3 (by decide) (by decide) (by decide) (by decide) hl hd kk
theorem xp_3_1 (C0 : CX p s m args meth c E cc own nL) (hz : s.heap.size + cells ≤ eB E + G.1) (hw : WD E G I X s.heap H locs) {a index : Nat} {v : Int32} {I1 : Im} (ta : okA E G 3 a) (hn : narrow .int (.int v) = .int v) (hfit : fits .int (.int v) = true) (hl : Cond.fieldLink own index "RadioCues$Pad" "length" "I" ∈ GT) (hd : decode cc pc = .ok (.putfield index, 3)) (eI : I1 = pF I 49 a v) (kk : ∀ (H : Heap) (locs : List Loc), WD E G I1 X s.heap H locs → W p l e R s m args below meth c H locs cells slots Q (F0 m (pc + 3) ls rest)) : W p l e R s m args below meth c H locs cells slots Q (F0 m pc ls (.int v :: .ref a :: rest)) := x_putI C0 hz hw 3 1 ta rfl inG3 tyX3 tyX3_ok nmX3 (by decide) (by decide) (by decide) (by decide) rfl hn hfit hl hd eI kk
theorem xg_3_2 (C0 : CX p s m args meth c E cc own nL) (hw : WD E G I X s.heap H locs) {a index : Nat} (ta : okA E G 3 a) (hl : Cond.fieldLink own index "RadioCues$Pad" "at" "I" ∈ GT) (hd : decode cc pc = .ok (.getfield index, 3)) (kk : W p l e R s m args below meth c H locs cells slots Q (F0 m (pc + 3) ls (.int (gF I 50 a) :: rest))) : W p l e R s m args below meth c H locs cells slots Q (F0 m pc ls (.ref a :: rest)) := x_getI C0 hw 3 2 ta rfl inG3 (by decide) (by decide) (by decide) (by decide) hl hd kk
theorem xp_3_2 (C0 : CX p s m args meth c E cc own nL) (hz : s.heap.size + cells ≤ eB E + G.1) (hw : WD E G I X s.heap H locs) {a index : Nat} {v : Int32} {I1 : Im} (ta : okA E G 3 a) (hn : narrow .int (.int v) = .int v) (hfit : fits .int (.int v) = true) (hl : Cond.fieldLink own index "RadioCues$Pad" "at" "I" ∈ GT) (hd : decode cc pc = .ok (.putfield index, 3)) (eI : I1 = pF I 50 a v) (kk : ∀ (H : Heap) (locs : List Loc), WD E G I1 X s.heap H locs → W p l e R s m args below meth c H locs cells slots Q (F0 m (pc + 3) ls rest)) : W p l e R s m args below meth c H locs cells slots Q (F0 m pc ls (.int v :: .ref a :: rest)) := x_putI C0 hz hw 3 2 ta rfl inG3 tyX3 tyX3_ok nmX3 (by decide) (by decide) (by decide) (by decide) rfl hn hfit hl hd eI kk
theorem xg_3_3 (C0 : CX p s m args meth c E cc own nL) (hw : WD E G I X s.heap H locs) {a index : Nat} (ta : okA E G 3 a) (hl : Cond.fieldLink own index "RadioCues$Pad" "letter" "C" ∈ GT) (hd : decode cc pc = .ok (.getfield index, 3)) (kk : W p l e R s m args below meth c H locs cells slots Q (F0 m (pc + 3) ls (.int (gF I 51 a) :: rest))) : W p l e R s m args below meth c H locs cells slots Q (F0 m pc ls (.ref a :: rest)) := x_getI C0 hw 3 3 ta rfl inG3 (by decide) (by decide) (by decide) (by decide) hl hd kk
theorem xp_3_3 (C0 : CX p s m args meth c E cc own nL) (hz : s.heap.size + cells ≤ eB E + G.1) (hw : WD E G I X s.heap H locs) {a index : Nat} {v : Int32} {I1 : Im} (ta : okA E G 3 a) (hn : narrow .char (.int v) = .int v) (hfit : fits .char (.int v) = true) (hl : Cond.fieldLink own index "RadioCues$Pad" "letter" "C" ∈ GT) (hd : decode cc pc = .ok (.putfield index, 3)) (eI : I1 = pF I 51 a v) (kk : ∀ (H : Heap) (locs : List Loc), WD E G I1 X s.heap H locs → W p l e R s m args below meth c H locs cells slots Q (F0 m (pc + 3) ls rest)) : W p l e R s m args below meth c H locs cells slots Q (F0 m pc ls (.int v :: .ref a :: rest)) := x_putI C0 hz hw 3 3 ta rfl inG3 tyX3 tyX3_ok nmX3 (by decide) (by decide) (by decide) (by decide) rfl hn hfit hl hd eI kk
theorem xg_3_4 (C0 : CX p s m args meth c E cc own nL) (hw : WD E G I X s.heap H locs) {a b index : Nat} (ta : okA E G 3 a) (hl : Cond.fieldLink own index "RadioCues$Pad" "numbers" "[I" ∈ GT) (hb : gR X 52 a = some b) (hd : decode cc pc = .ok (.getfield index, 3)) (kk : W p l e R s m args below meth c H locs cells slots Q (F0 m (pc + 3) ls (.ref b :: rest))) : W p l e R s m args below meth c H locs cells slots Q (F0 m pc ls (.ref a :: rest)) := x_getR C0 hw 3 4 ta rfl inG3 (by decide) (by decide) (by decide) (by decide) hl hb hd kk
theorem xp_3_4 (C0 : CX p s m args meth c E cc own nL) (hz : s.heap.size + cells ≤ eB E + G.1) (hw : WD E G I X s.heap H locs) {a b index : Nat} {X1 : Xm} (hin2 : meth.name = "<init>") (hdecl : "RadioCues$Pad" = own) (ta : okA E G 3 a) (tb : okA E G 11 b) (hl : Cond.fieldLink own index "RadioCues$Pad" "numbers" "[I" ∈ GT) (hd : decode cc pc = .ok (.putfield index, 3)) (eX : X1 = pR X 52 a (some b)) (kk : ∀ (H : Heap) (locs : List Loc), WD E G I X1 s.heap H locs → W p l e R s m args below meth c H locs cells slots Q (F0 m (pc + 3) ls rest)) : W p l e R s m args below meth c H locs cells slots Q (F0 m pc ls (.ref b :: .ref a :: rest)) := x_putRF C0 hz hw 3 4 ta rfl inG3 tyX3 tyX3_ok nmX3 (by decide) (by decide) (by decide) (by decide) rfl hin2 hdecl rfl rfl tb hl hd eX kk
theorem xg_3_5 (C0 : CX p s m args meth c E cc own nL) (hw : WD E G I X s.heap H locs) {a index : Nat} (ta : okA E G 3 a) (hl : Cond.fieldLink own index "RadioCues$Pad" "numberCount" "I" ∈ GT) (hd : decode cc pc = .ok (.getfield index, 3)) (kk : W p l e R s m args below meth c H locs cells slots Q (F0 m (pc + 3) ls (.int (gF I 53 a) :: rest))) : W p l e R s m args below meth c H locs cells slots Q (F0 m pc ls (.ref a :: rest)) := x_getI C0 hw 3 5 ta rfl inG3 (by decide) (by decide) (by decide) (by decide) hl hd kk
theorem xp_3_5 (C0 : CX p s m args meth c E cc own nL) (hz : s.heap.size + cells ≤ eB E + G.1) (hw : WD E G I X s.heap H locs) {a index : Nat} {v : Int32} {I1 : Im} (ta : okA E G 3 a) (hn : narrow .int (.int v) = .int v) (hfit : fits .int (.int v) = true) (hl : Cond.fieldLink own index "RadioCues$Pad" "numberCount" "I" ∈ GT) (hd : decode cc pc = .ok (.putfield index, 3)) (eI : I1 = pF I 53 a v) (kk : ∀ (H : Heap) (locs : List Loc), WD E G I1 X s.heap H locs → W p l e R s m args below meth c H locs cells slots Q (F0 m (pc + 3) ls rest)) : W p l e R s m args below meth c H locs cells slots Q (F0 m pc ls (.int v :: .ref a :: rest)) := x_putI C0 hz hw 3 5 ta rfl inG3 tyX3 tyX3_ok nmX3 (by decide) (by decide) (by decide) (by decide) rfl hn hfit hl hd eI kk
theorem xg_4_0 (C0 : CX p s m args meth c E cc own nL) (hw : WD E G I X s.heap H locs) {a b index : Nat} (ta : okA E G 4 a) (hl : Cond.fieldLink own index "RadioCues$Play" "settings" "[I" ∈ GT) (hb : gR X 64 a = some b) (hd : decode cc pc = .ok (.getfield index, 3)) (kk : W p l e R s m args below meth c H locs cells slots Q (F0 m (pc + 3) ls (.ref b :: rest))) : W p l e R s m args below meth c H locs cells slots Q (F0 m pc ls (.ref a :: rest)) := x_getR C0 hw 4 0 ta rfl inG4 (by decide) (by decide) (by decide) (by decide) hl hb hd kk
theorem xp_4_0 (C0 : CX p s m args meth c E cc own nL) (hz : s.heap.size + cells ≤ eB E + G.1) (hw : WD E G I X s.heap H locs) {a b index : Nat} {X1 : Xm} (hin2 : meth.name = "<init>") (hdecl : "RadioCues$Play" = own) (ta : okA E G 4 a) (tb : okA E G 11 b) (hl : Cond.fieldLink own index "RadioCues$Play" "settings" "[I" ∈ GT) (hd : decode cc pc = .ok (.putfield index, 3)) (eX : X1 = pR X 64 a (some b)) (kk : ∀ (H : Heap) (locs : List Loc), WD E G I X1 s.heap H locs → W p l e R s m args below meth c H locs cells slots Q (F0 m (pc + 3) ls rest)) : W p l e R s m args below meth c H locs cells slots Q (F0 m pc ls (.ref b :: .ref a :: rest)) := x_putRF C0 hz hw 4 0 ta rfl inG4 tyX4 tyX4_ok nmX4 (by decide) (by decide) (by decide) (by decide) rfl hin2 hdecl rfl rfl tb hl hd eX kk
theorem xg_4_1 (C0 : CX p s m args meth c E cc own nL) (hw : WD E G I X s.heap H locs) {a b index : Nat} (ta : okA E G 4 a) (hl : Cond.fieldLink own index "RadioCues$Play" "script" "LRadioCues$Script;" ∈ GT) (hb : gR X 65 a = some b) (hd : decode cc pc = .ok (.getfield index, 3)) (kk : W p l e R s m args below meth c H locs cells slots Q (F0 m (pc + 3) ls (.ref b :: rest))) : W p l e R s m args below meth c H locs cells slots Q (F0 m pc ls (.ref a :: rest)) := x_getR C0 hw 4 1 ta rfl inG4 (by decide) (by decide) (by decide) (by decide) hl hb hd kk
theorem xp_4_1 (C0 : CX p s m args meth c E cc own nL) (hz : s.heap.size + cells ≤ eB E + G.1) (hw : WD E G I X s.heap H locs) {a b index : Nat} {X1 : Xm} (hin2 : meth.name = "<init>") (hdecl : "RadioCues$Play" = own) (ta : okA E G 4 a) (tb : okA E G 6 b) (hl : Cond.fieldLink own index "RadioCues$Play" "script" "LRadioCues$Script;" ∈ GT) (hd : decode cc pc = .ok (.putfield index, 3)) (eX : X1 = pR X 65 a (some b)) (kk : ∀ (H : Heap) (locs : List Loc), WD E G I X1 s.heap H locs → W p l e R s m args below meth c H locs cells slots Q (F0 m (pc + 3) ls rest)) : W p l e R s m args below meth c H locs cells slots Q (F0 m pc ls (.ref b :: .ref a :: rest)) := x_putRF C0 hz hw 4 1 ta rfl inG4 tyX4 tyX4_ok nmX4 (by decide) (by decide) (by decide) (by decide) rfl hin2 hdecl rfl rfl tb hl hd eX kk
theorem xg_4_2 (C0 : CX p s m args meth c E cc own nL) (hw : WD E G I X s.heap H locs) {a b index : Nat} (ta : okA E G 4 a) (hl : Cond.fieldLink own index "RadioCues$Play" "reels" "[LRadioCues$Reel;" ∈ GT) (hb : gR X 66 a = some b) (hd : decode cc pc = .ok (.getfield index, 3)) (kk : W p l e R s m args below meth c H locs cells slots Q (F0 m (pc + 3) ls (.ref b :: rest))) : W p l e R s m args below meth c H locs cells slots Q (F0 m pc ls (.ref a :: rest)) := x_getR C0 hw 4 2 ta rfl inG4 (by decide) (by decide) (by decide) (by decide) hl hb hd kk
theorem xp_4_2 (C0 : CX p s m args meth c E cc own nL) (hz : s.heap.size + cells ≤ eB E + G.1) (hw : WD E G I X s.heap H locs) {a b index : Nat} {X1 : Xm} (hin2 : meth.name = "<init>") (hdecl : "RadioCues$Play" = own) (ta : okA E G 4 a) (tb : okA E G 16 b) (hl : Cond.fieldLink own index "RadioCues$Play" "reels" "[LRadioCues$Reel;" ∈ GT) (hd : decode cc pc = .ok (.putfield index, 3)) (eX : X1 = pR X 66 a (some b)) (kk : ∀ (H : Heap) (locs : List Loc), WD E G I X1 s.heap H locs → W p l e R s m args below meth c H locs cells slots Q (F0 m (pc + 3) ls rest)) : W p l e R s m args below meth c H locs cells slots Q (F0 m pc ls (.ref b :: .ref a :: rest)) := x_putRF C0 hz hw 4 2 ta rfl inG4 tyX4 tyX4_ok nmX4 (by decide) (by decide) (by decide) (by decide) rfl hin2 hdecl rfl rfl tb hl hd eX kk
theorem xg_4_3 (C0 : CX p s m args meth c E cc own nL) (hw : WD E G I X s.heap H locs) {a b index : Nat} (ta : okA E G 4 a) (hl : Cond.fieldLink own index "RadioCues$Play" "channels" "[LRadioCues$Channel;" ∈ GT) (hb : gR X 67 a = some b) (hd : decode cc pc = .ok (.getfield index, 3)) (kk : W p l e R s m args below meth c H locs cells slots Q (F0 m (pc + 3) ls (.ref b :: rest))) : W p l e R s m args below meth c H locs cells slots Q (F0 m pc ls (.ref a :: rest)) := x_getR C0 hw 4 3 ta rfl inG4 (by decide) (by decide) (by decide) (by decide) hl hb hd kk
theorem xp_4_3 (C0 : CX p s m args meth c E cc own nL) (hz : s.heap.size + cells ≤ eB E + G.1) (hw : WD E G I X s.heap H locs) {a b index : Nat} {X1 : Xm} (hin2 : meth.name = "<init>") (hdecl : "RadioCues$Play" = own) (ta : okA E G 4 a) (tb : okA E G 13 b) (hl : Cond.fieldLink own index "RadioCues$Play" "channels" "[LRadioCues$Channel;" ∈ GT) (hd : decode cc pc = .ok (.putfield index, 3)) (eX : X1 = pR X 67 a (some b)) (kk : ∀ (H : Heap) (locs : List Loc), WD E G I X1 s.heap H locs → W p l e R s m args below meth c H locs cells slots Q (F0 m (pc + 3) ls rest)) : W p l e R s m args below meth c H locs cells slots Q (F0 m pc ls (.ref b :: .ref a :: rest)) := x_putRF C0 hz hw 4 3 ta rfl inG4 tyX4 tyX4_ok nmX4 (by decide) (by decide) (by decide) (by decide) rfl hin2 hdecl rfl rfl tb hl hd eX kk
theorem xg_4_4 (C0 : CX p s m args meth c E cc own nL) (hw : WD E G I X s.heap H locs) {a b index : Nat} (ta : okA E G 4 a) (hl : Cond.fieldLink own index "RadioCues$Play" "doors" "LRadioCues$Doors;" ∈ GT) (hb : gR X 68 a = some b) (hd : decode cc pc = .ok (.getfield index, 3)) (kk : W p l e R s m args below meth c H locs cells slots Q (F0 m (pc + 3) ls (.ref b :: rest))) : W p l e R s m args below meth c H locs cells slots Q (F0 m pc ls (.ref a :: rest)) := x_getR C0 hw 4 4 ta rfl inG4 (by decide) (by decide) (by decide) (by decide) hl hb hd kk
theorem xp_4_4 (C0 : CX p s m args meth c E cc own nL) (hz : s.heap.size + cells ≤ eB E + G.1) (hw : WD E G I X s.heap H locs) {a b index : Nat} {X1 : Xm} (hin2 : meth.name = "<init>") (hdecl : "RadioCues$Play" = own) (ta : okA E G 4 a) (tb : okA E G 2 b) (hl : Cond.fieldLink own index "RadioCues$Play" "doors" "LRadioCues$Doors;" ∈ GT) (hd : decode cc pc = .ok (.putfield index, 3)) (eX : X1 = pR X 68 a (some b)) (kk : ∀ (H : Heap) (locs : List Loc), WD E G I X1 s.heap H locs → W p l e R s m args below meth c H locs cells slots Q (F0 m (pc + 3) ls rest)) : W p l e R s m args below meth c H locs cells slots Q (F0 m pc ls (.ref b :: .ref a :: rest)) := x_putRF C0 hz hw 4 4 ta rfl inG4 tyX4 tyX4_ok nmX4 (by decide) (by decide) (by decide) (by decide) rfl hin2 hdecl rfl rfl tb hl hd eX kk
theorem xg_4_5 (C0 : CX p s m args meth c E cc own nL) (hw : WD E G I X s.heap H locs) {a b index : Nat} (ta : okA E G 4 a) (hl : Cond.fieldLink own index "RadioCues$Play" "firsts" "[I" ∈ GT) (hb : gR X 69 a = some b) (hd : decode cc pc = .ok (.getfield index, 3)) (kk : W p l e R s m args below meth c H locs cells slots Q (F0 m (pc + 3) ls (.ref b :: rest))) : W p l e R s m args below meth c H locs cells slots Q (F0 m pc ls (.ref a :: rest)) := x_getR C0 hw 4 5 ta rfl inG4 (by decide) (by decide) (by decide) (by decide) hl hb hd kk
theorem xp_4_5 (C0 : CX p s m args meth c E cc own nL) (hz : s.heap.size + cells ≤ eB E + G.1) (hw : WD E G I X s.heap H locs) {a b index : Nat} {X1 : Xm} (hin2 : meth.name = "<init>") (hdecl : "RadioCues$Play" = own) (ta : okA E G 4 a) (tb : okA E G 11 b) (hl : Cond.fieldLink own index "RadioCues$Play" "firsts" "[I" ∈ GT) (hd : decode cc pc = .ok (.putfield index, 3)) (eX : X1 = pR X 69 a (some b)) (kk : ∀ (H : Heap) (locs : List Loc), WD E G I X1 s.heap H locs → W p l e R s m args below meth c H locs cells slots Q (F0 m (pc + 3) ls rest)) : W p l e R s m args below meth c H locs cells slots Q (F0 m pc ls (.ref b :: .ref a :: rest)) := x_putRF C0 hz hw 4 5 ta rfl inG4 tyX4 tyX4_ok nmX4 (by decide) (by decide) (by decide) (by decide) rfl hin2 hdecl rfl rfl tb hl hd eX kk
theorem xg_4_6 (C0 : CX p s m args meth c E cc own nL) (hw : WD E G I X s.heap H locs) {a index : Nat} (ta : okA E G 4 a) (hl : Cond.fieldLink own index "RadioCues$Play" "firstCount" "I" ∈ GT) (hd : decode cc pc = .ok (.getfield index, 3)) (kk : W p l e R s m args below meth c H locs cells slots Q (F0 m (pc + 3) ls (.int (gF I 70 a) :: rest))) : W p l e R s m args below meth c H locs cells slots Q (F0 m pc ls (.ref a :: rest)) := x_getI C0 hw 4 6 ta rfl inG4 (by decide) (by decide) (by decide) (by decide) hl hd kk
theorem xp_4_6 (C0 : CX p s m args meth c E cc own nL) (hz : s.heap.size + cells ≤ eB E + G.1) (hw : WD E G I X s.heap H locs) {a index : Nat} {v : Int32} {I1 : Im} (ta : okA E G 4 a) (hn : narrow .int (.int v) = .int v) (hfit : fits .int (.int v) = true) (hl : Cond.fieldLink own index "RadioCues$Play" "firstCount" "I" ∈ GT) (hd : decode cc pc = .ok (.putfield index, 3)) (eI : I1 = pF I 70 a v) (kk : ∀ (H : Heap) (locs : List Loc), WD E G I1 X s.heap H locs → W p l e R s m args below meth c H locs cells slots Q (F0 m (pc + 3) ls rest)) : W p l e R s m args below meth c H locs cells slots Q (F0 m pc ls (.int v :: .ref a :: rest)) := x_putI C0 hz hw 4 6 ta rfl inG4 tyX4 tyX4_ok nmX4 (by decide) (by decide) (by decide) (by decide) rfl hn hfit hl hd eI kk
theorem xg_4_7 (C0 : CX p s m args meth c E cc own nL) (hw : WD E G I X s.heap H locs) {a b index : Nat} (ta : okA E G 4 a) (hl : Cond.fieldLink own index "RadioCues$Play" "heard" "[I" ∈ GT) (hb : gR X 71 a = some b) (hd : decode cc pc = .ok (.getfield index, 3)) (kk : W p l e R s m args below meth c H locs cells slots Q (F0 m (pc + 3) ls (.ref b :: rest))) : W p l e R s m args below meth c H locs cells slots Q (F0 m pc ls (.ref a :: rest)) := x_getR C0 hw 4 7 ta rfl inG4 (by decide) (by decide) (by decide) (by decide) hl hb hd kk
theorem xp_4_7 (C0 : CX p s m args meth c E cc own nL) (hz : s.heap.size + cells ≤ eB E + G.1) (hw : WD E G I X s.heap H locs) {a b index : Nat} {X1 : Xm} (hin2 : meth.name = "<init>") (hdecl : "RadioCues$Play" = own) (ta : okA E G 4 a) (tb : okA E G 11 b) (hl : Cond.fieldLink own index "RadioCues$Play" "heard" "[I" ∈ GT) (hd : decode cc pc = .ok (.putfield index, 3)) (eX : X1 = pR X 71 a (some b)) (kk : ∀ (H : Heap) (locs : List Loc), WD E G I X1 s.heap H locs → W p l e R s m args below meth c H locs cells slots Q (F0 m (pc + 3) ls rest)) : W p l e R s m args below meth c H locs cells slots Q (F0 m pc ls (.ref b :: .ref a :: rest)) := x_putRF C0 hz hw 4 7 ta rfl inG4 tyX4 tyX4_ok nmX4 (by decide) (by decide) (by decide) (by decide) rfl hin2 hdecl rfl rfl tb hl hd eX kk
theorem xg_4_8 (C0 : CX p s m args meth c E cc own nL) (hw : WD E G I X s.heap H locs) {a index : Nat} (ta : okA E G 4 a) (hl : Cond.fieldLink own index "RadioCues$Play" "now" "I" ∈ GT) (hd : decode cc pc = .ok (.getfield index, 3)) (kk : W p l e R s m args below meth c H locs cells slots Q (F0 m (pc + 3) ls (.int (gF I 72 a) :: rest))) : W p l e R s m args below meth c H locs cells slots Q (F0 m pc ls (.ref a :: rest)) := x_getI C0 hw 4 8 ta rfl inG4 (by decide) (by decide) (by decide) (by decide) hl hd kk
theorem xp_4_8 (C0 : CX p s m args meth c E cc own nL) (hz : s.heap.size + cells ≤ eB E + G.1) (hw : WD E G I X s.heap H locs) {a index : Nat} {v : Int32} {I1 : Im} (ta : okA E G 4 a) (hn : narrow .int (.int v) = .int v) (hfit : fits .int (.int v) = true) (hl : Cond.fieldLink own index "RadioCues$Play" "now" "I" ∈ GT) (hd : decode cc pc = .ok (.putfield index, 3)) (eI : I1 = pF I 72 a v) (kk : ∀ (H : Heap) (locs : List Loc), WD E G I1 X s.heap H locs → W p l e R s m args below meth c H locs cells slots Q (F0 m (pc + 3) ls rest)) : W p l e R s m args below meth c H locs cells slots Q (F0 m pc ls (.int v :: .ref a :: rest)) := x_putI C0 hz hw 4 8 ta rfl inG4 tyX4 tyX4_ok nmX4 (by decide) (by decide) (by decide) (by decide) rfl hn hfit hl hd eI kk
theorem xg_5_0 (C0 : CX p s m args meth c E cc own nL) (hw : WD E G I X s.heap H locs) {a b index : Nat} (ta : okA E G 5 a) (hl : Cond.fieldLink own index "RadioCues$Reel" "sounds" "[LRadioCues$Sound;" ∈ GT) (hb : gR X 80 a = some b) (hd : decode cc pc = .ok (.getfield index, 3)) (kk : W p l e R s m args below meth c H locs cells slots Q (F0 m (pc + 3) ls (.ref b :: rest))) : W p l e R s m args below meth c H locs cells slots Q (F0 m pc ls (.ref a :: rest)) := x_getR C0 hw 5 0 ta rfl inG5 (by decide) (by decide) (by decide) (by decide) hl hb hd kk
theorem xp_5_0 (C0 : CX p s m args meth c E cc own nL) (hz : s.heap.size + cells ≤ eB E + G.1) (hw : WD E G I X s.heap H locs) {a b index : Nat} {X1 : Xm} (hin2 : meth.name = "<init>") (hdecl : "RadioCues$Reel" = own) (ta : okA E G 5 a) (tb : okA E G 17 b) (hl : Cond.fieldLink own index "RadioCues$Reel" "sounds" "[LRadioCues$Sound;" ∈ GT) (hd : decode cc pc = .ok (.putfield index, 3)) (eX : X1 = pR X 80 a (some b)) (kk : ∀ (H : Heap) (locs : List Loc), WD E G I X1 s.heap H locs → W p l e R s m args below meth c H locs cells slots Q (F0 m (pc + 3) ls rest)) : W p l e R s m args below meth c H locs cells slots Q (F0 m pc ls (.ref b :: .ref a :: rest)) := x_putRF C0 hz hw 5 0 ta rfl inG5 tyX5 tyX5_ok nmX5 (by decide) (by decide) (by decide) (by decide) rfl hin2 hdecl rfl rfl tb hl hd eX kk
theorem xg_5_1 (C0 : CX p s m args meth c E cc own nL) (hw : WD E G I X s.heap H locs) {a index : Nat} (ta : okA E G 5 a) (hl : Cond.fieldLink own index "RadioCues$Reel" "count" "I" ∈ GT) (hd : decode cc pc = .ok (.getfield index, 3)) (kk : W p l e R s m args below meth c H locs cells slots Q (F0 m (pc + 3) ls (.int (gF I 81 a) :: rest))) : W p l e R s m args below meth c H locs cells slots Q (F0 m pc ls (.ref a :: rest)) := x_getI C0 hw 5 1 ta rfl inG5 (by decide) (by decide) (by decide) (by decide) hl hd kk
theorem xp_5_1 (C0 : CX p s m args meth c E cc own nL) (hz : s.heap.size + cells ≤ eB E + G.1) (hw : WD E G I X s.heap H locs) {a index : Nat} {v : Int32} {I1 : Im} (ta : okA E G 5 a) (hn : narrow .int (.int v) = .int v) (hfit : fits .int (.int v) = true) (hl : Cond.fieldLink own index "RadioCues$Reel" "count" "I" ∈ GT) (hd : decode cc pc = .ok (.putfield index, 3)) (eI : I1 = pF I 81 a v) (kk : ∀ (H : Heap) (locs : List Loc), WD E G I1 X s.heap H locs → W p l e R s m args below meth c H locs cells slots Q (F0 m (pc + 3) ls rest)) : W p l e R s m args below meth c H locs cells slots Q (F0 m pc ls (.int v :: .ref a :: rest)) := x_putI C0 hz hw 5 1 ta rfl inG5 tyX5 tyX5_ok nmX5 (by decide) (by decide) (by decide) (by decide) rfl hn hfit hl hd eI kk
theorem xg_5_2 (C0 : CX p s m args meth c E cc own nL) (hw : WD E G I X s.heap H locs) {a index : Nat} (ta : okA E G 5 a) (hl : Cond.fieldLink own index "RadioCues$Reel" "place" "I" ∈ GT) (hd : decode cc pc = .ok (.getfield index, 3)) (kk : W p l e R s m args below meth c H locs cells slots Q (F0 m (pc + 3) ls (.int (gF I 82 a) :: rest))) : W p l e R s m args below meth c H locs cells slots Q (F0 m pc ls (.ref a :: rest)) := x_getI C0 hw 5 2 ta rfl inG5 (by decide) (by decide) (by decide) (by decide) hl hd kk
theorem xp_5_2 (C0 : CX p s m args meth c E cc own nL) (hz : s.heap.size + cells ≤ eB E + G.1) (hw : WD E G I X s.heap H locs) {a index : Nat} {v : Int32} {I1 : Im} (ta : okA E G 5 a) (hn : narrow .int (.int v) = .int v) (hfit : fits .int (.int v) = true) (hl : Cond.fieldLink own index "RadioCues$Reel" "place" "I" ∈ GT) (hd : decode cc pc = .ok (.putfield index, 3)) (eI : I1 = pF I 82 a v) (kk : ∀ (H : Heap) (locs : List Loc), WD E G I1 X s.heap H locs → W p l e R s m args below meth c H locs cells slots Q (F0 m (pc + 3) ls rest)) : W p l e R s m args below meth c H locs cells slots Q (F0 m pc ls (.int v :: .ref a :: rest)) := x_putI C0 hz hw 5 2 ta rfl inG5 tyX5 tyX5_ok nmX5 (by decide) (by decide) (by decide) (by decide) rfl hn hfit hl hd eI kk
theorem xg_5_3 (C0 : CX p s m args meth c E cc own nL) (hw : WD E G I X s.heap H locs) {a index : Nat} (ta : okA E G 5 a) (hl : Cond.fieldLink own index "RadioCues$Reel" "playing" "I" ∈ GT) (hd : decode cc pc = .ok (.getfield index, 3)) (kk : W p l e R s m args below meth c H locs cells slots Q (F0 m (pc + 3) ls (.int (gF I 83 a) :: rest))) : W p l e R s m args below meth c H locs cells slots Q (F0 m pc ls (.ref a :: rest)) := x_getI C0 hw 5 3 ta rfl inG5 (by decide) (by decide) (by decide) (by decide) hl hd kk
theorem xp_5_3 (C0 : CX p s m args meth c E cc own nL) (hz : s.heap.size + cells ≤ eB E + G.1) (hw : WD E G I X s.heap H locs) {a index : Nat} {v : Int32} {I1 : Im} (ta : okA E G 5 a) (hn : narrow .int (.int v) = .int v) (hfit : fits .int (.int v) = true) (hl : Cond.fieldLink own index "RadioCues$Reel" "playing" "I" ∈ GT) (hd : decode cc pc = .ok (.putfield index, 3)) (eI : I1 = pF I 83 a v) (kk : ∀ (H : Heap) (locs : List Loc), WD E G I1 X s.heap H locs → W p l e R s m args below meth c H locs cells slots Q (F0 m (pc + 3) ls rest)) : W p l e R s m args below meth c H locs cells slots Q (F0 m pc ls (.int v :: .ref a :: rest)) := x_putI C0 hz hw 5 3 ta rfl inG5 tyX5 tyX5_ok nmX5 (by decide) (by decide) (by decide) (by decide) rfl hn hfit hl hd eI kk
theorem xg_5_4 (C0 : CX p s m args meth c E cc own nL) (hw : WD E G I X s.heap H locs) {a index : Nat} (ta : okA E G 5 a) (hl : Cond.fieldLink own index "RadioCues$Reel" "left" "I" ∈ GT) (hd : decode cc pc = .ok (.getfield index, 3)) (kk : W p l e R s m args below meth c H locs cells slots Q (F0 m (pc + 3) ls (.int (gF I 84 a) :: rest))) : W p l e R s m args below meth c H locs cells slots Q (F0 m pc ls (.ref a :: rest)) := x_getI C0 hw 5 4 ta rfl inG5 (by decide) (by decide) (by decide) (by decide) hl hd kk
theorem xp_5_4 (C0 : CX p s m args meth c E cc own nL) (hz : s.heap.size + cells ≤ eB E + G.1) (hw : WD E G I X s.heap H locs) {a index : Nat} {v : Int32} {I1 : Im} (ta : okA E G 5 a) (hn : narrow .int (.int v) = .int v) (hfit : fits .int (.int v) = true) (hl : Cond.fieldLink own index "RadioCues$Reel" "left" "I" ∈ GT) (hd : decode cc pc = .ok (.putfield index, 3)) (eI : I1 = pF I 84 a v) (kk : ∀ (H : Heap) (locs : List Loc), WD E G I1 X s.heap H locs → W p l e R s m args below meth c H locs cells slots Q (F0 m (pc + 3) ls rest)) : W p l e R s m args below meth c H locs cells slots Q (F0 m pc ls (.int v :: .ref a :: rest)) := x_putI C0 hz hw 5 4 ta rfl inG5 tyX5 tyX5_ok nmX5 (by decide) (by decide) (by decide) (by decide) rfl hn hfit hl hd eI kk
theorem xg_6_0 (C0 : CX p s m args meth c E cc own nL) (hw : WD E G I X s.heap H locs) {a b index : Nat} (ta : okA E G 6 a) (hl : Cond.fieldLink own index "RadioCues$Script" "cues" "[LRadioCues$Cue;" ∈ GT) (hb : gR X 96 a = some b) (hd : decode cc pc = .ok (.getfield index, 3)) (kk : W p l e R s m args below meth c H locs cells slots Q (F0 m (pc + 3) ls (.ref b :: rest))) : W p l e R s m args below meth c H locs cells slots Q (F0 m pc ls (.ref a :: rest)) := x_getR C0 hw 6 0 ta rfl inG6 (by decide) (by decide) (by decide) (by decide) hl hb hd kk
theorem xp_6_0 (C0 : CX p s m args meth c E cc own nL) (hz : s.heap.size + cells ≤ eB E + G.1) (hw : WD E G I X s.heap H locs) {a b index : Nat} {X1 : Xm} (hin2 : meth.name = "<init>") (hdecl : "RadioCues$Script" = own) (ta : okA E G 6 a) (tb : okA E G 14 b) (hl : Cond.fieldLink own index "RadioCues$Script" "cues" "[LRadioCues$Cue;" ∈ GT) (hd : decode cc pc = .ok (.putfield index, 3)) (eX : X1 = pR X 96 a (some b)) (kk : ∀ (H : Heap) (locs : List Loc), WD E G I X1 s.heap H locs → W p l e R s m args below meth c H locs cells slots Q (F0 m (pc + 3) ls rest)) : W p l e R s m args below meth c H locs cells slots Q (F0 m pc ls (.ref b :: .ref a :: rest)) := x_putRF C0 hz hw 6 0 ta rfl inG6 tyX6 tyX6_ok nmX6 (by decide) (by decide) (by decide) (by decide) rfl hin2 hdecl rfl rfl tb hl hd eX kk
theorem xg_6_1 (C0 : CX p s m args meth c E cc own nL) (hw : WD E G I X s.heap H locs) {a index : Nat} (ta : okA E G 6 a) (hl : Cond.fieldLink own index "RadioCues$Script" "count" "I" ∈ GT) (hd : decode cc pc = .ok (.getfield index, 3)) (kk : W p l e R s m args below meth c H locs cells slots Q (F0 m (pc + 3) ls (.int (gF I 97 a) :: rest))) : W p l e R s m args below meth c H locs cells slots Q (F0 m pc ls (.ref a :: rest)) := x_getI C0 hw 6 1 ta rfl inG6 (by decide) (by decide) (by decide) (by decide) hl hd kk
theorem xp_6_1 (C0 : CX p s m args meth c E cc own nL) (hz : s.heap.size + cells ≤ eB E + G.1) (hw : WD E G I X s.heap H locs) {a index : Nat} {v : Int32} {I1 : Im} (ta : okA E G 6 a) (hn : narrow .int (.int v) = .int v) (hfit : fits .int (.int v) = true) (hl : Cond.fieldLink own index "RadioCues$Script" "count" "I" ∈ GT) (hd : decode cc pc = .ok (.putfield index, 3)) (eI : I1 = pF I 97 a v) (kk : ∀ (H : Heap) (locs : List Loc), WD E G I1 X s.heap H locs → W p l e R s m args below meth c H locs cells slots Q (F0 m (pc + 3) ls rest)) : W p l e R s m args below meth c H locs cells slots Q (F0 m pc ls (.int v :: .ref a :: rest)) := x_putI C0 hz hw 6 1 ta rfl inG6 tyX6 tyX6_ok nmX6 (by decide) (by decide) (by decide) (by decide) rfl hn hfit hl hd eI kk
theorem xg_6_2 (C0 : CX p s m args meth c E cc own nL) (hw : WD E G I X s.heap H locs) {a index : Nat} (ta : okA E G 6 a) (hl : Cond.fieldLink own index "RadioCues$Script" "came" "I" ∈ GT) (hd : decode cc pc = .ok (.getfield index, 3)) (kk : W p l e R s m args below meth c H locs cells slots Q (F0 m (pc + 3) ls (.int (gF I 98 a) :: rest))) : W p l e R s m args below meth c H locs cells slots Q (F0 m pc ls (.ref a :: rest)) := x_getI C0 hw 6 2 ta rfl inG6 (by decide) (by decide) (by decide) (by decide) hl hd kk
theorem xp_6_2 (C0 : CX p s m args meth c E cc own nL) (hz : s.heap.size + cells ≤ eB E + G.1) (hw : WD E G I X s.heap H locs) {a index : Nat} {v : Int32} {I1 : Im} (ta : okA E G 6 a) (hn : narrow .int (.int v) = .int v) (hfit : fits .int (.int v) = true) (hl : Cond.fieldLink own index "RadioCues$Script" "came" "I" ∈ GT) (hd : decode cc pc = .ok (.putfield index, 3)) (eI : I1 = pF I 98 a v) (kk : ∀ (H : Heap) (locs : List Loc), WD E G I1 X s.heap H locs → W p l e R s m args below meth c H locs cells slots Q (F0 m (pc + 3) ls rest)) : W p l e R s m args below meth c H locs cells slots Q (F0 m pc ls (.int v :: .ref a :: rest)) := x_putI C0 hz hw 6 2 ta rfl inG6 tyX6 tyX6_ok nmX6 (by decide) (by decide) (by decide) (by decide) rfl hn hfit hl hd eI kk
theorem xg_7_0 (C0 : CX p s m args meth c E cc own nL) (hw : WD E G I X s.heap H locs) {a index : Nat} (ta : okA E G 7 a) (hl : Cond.fieldLink own index "RadioCues$Sound" "seconds" "I" ∈ GT) (hd : decode cc pc = .ok (.getfield index, 3)) (kk : W p l e R s m args below meth c H locs cells slots Q (F0 m (pc + 3) ls (.int (gF I 112 a) :: rest))) : W p l e R s m args below meth c H locs cells slots Q (F0 m pc ls (.ref a :: rest)) := x_getI C0 hw 7 0 ta rfl inG7 (by decide) (by decide) (by decide) (by decide) hl hd kk
theorem xp_7_0 (C0 : CX p s m args meth c E cc own nL) (hz : s.heap.size + cells ≤ eB E + G.1) (hw : WD E G I X s.heap H locs) {a index : Nat} {v : Int32} {I1 : Im} (ta : okA E G 7 a) (hn : narrow .int (.int v) = .int v) (hfit : fits .int (.int v) = true) (hl : Cond.fieldLink own index "RadioCues$Sound" "seconds" "I" ∈ GT) (hd : decode cc pc = .ok (.putfield index, 3)) (eI : I1 = pF I 112 a v) (kk : ∀ (H : Heap) (locs : List Loc), WD E G I1 X s.heap H locs → W p l e R s m args below meth c H locs cells slots Q (F0 m (pc + 3) ls rest)) : W p l e R s m args below meth c H locs cells slots Q (F0 m pc ls (.int v :: .ref a :: rest)) := x_putI C0 hz hw 7 0 ta rfl inG7 tyX7 tyX7_ok nmX7 (by decide) (by decide) (by decide) (by decide) rfl hn hfit hl hd eI kk
theorem xg_7_1 (C0 : CX p s m args meth c E cc own nL) (hw : WD E G I X s.heap H locs) {a index : Nat} (ta : okA E G 7 a) (hl : Cond.fieldLink own index "RadioCues$Sound" "loudness" "I" ∈ GT) (hd : decode cc pc = .ok (.getfield index, 3)) (kk : W p l e R s m args below meth c H locs cells slots Q (F0 m (pc + 3) ls (.int (gF I 113 a) :: rest))) : W p l e R s m args below meth c H locs cells slots Q (F0 m pc ls (.ref a :: rest)) := x_getI C0 hw 7 1 ta rfl inG7 (by decide) (by decide) (by decide) (by decide) hl hd kk
theorem xp_7_1 (C0 : CX p s m args meth c E cc own nL) (hz : s.heap.size + cells ≤ eB E + G.1) (hw : WD E G I X s.heap H locs) {a index : Nat} {v : Int32} {I1 : Im} (ta : okA E G 7 a) (hn : narrow .int (.int v) = .int v) (hfit : fits .int (.int v) = true) (hl : Cond.fieldLink own index "RadioCues$Sound" "loudness" "I" ∈ GT) (hd : decode cc pc = .ok (.putfield index, 3)) (eI : I1 = pF I 113 a v) (kk : ∀ (H : Heap) (locs : List Loc), WD E G I1 X s.heap H locs → W p l e R s m args below meth c H locs cells slots Q (F0 m (pc + 3) ls rest)) : W p l e R s m args below meth c H locs cells slots Q (F0 m pc ls (.int v :: .ref a :: rest)) := x_putI C0 hz hw 7 1 ta rfl inG7 tyX7 tyX7_ok nmX7 (by decide) (by decide) (by decide) (by decide) rfl hn hfit hl hd eI kk
theorem xg_7_2 (C0 : CX p s m args meth c E cc own nL) (hw : WD E G I X s.heap H locs) {a index : Nat} (ta : okA E G 7 a) (hl : Cond.fieldLink own index "RadioCues$Sound" "begins" "I" ∈ GT) (hd : decode cc pc = .ok (.getfield index, 3)) (kk : W p l e R s m args below meth c H locs cells slots Q (F0 m (pc + 3) ls (.int (gF I 114 a) :: rest))) : W p l e R s m args below meth c H locs cells slots Q (F0 m pc ls (.ref a :: rest)) := x_getI C0 hw 7 2 ta rfl inG7 (by decide) (by decide) (by decide) (by decide) hl hd kk
theorem xp_7_2 (C0 : CX p s m args meth c E cc own nL) (hz : s.heap.size + cells ≤ eB E + G.1) (hw : WD E G I X s.heap H locs) {a index : Nat} {v : Int32} {I1 : Im} (ta : okA E G 7 a) (hn : narrow .int (.int v) = .int v) (hfit : fits .int (.int v) = true) (hl : Cond.fieldLink own index "RadioCues$Sound" "begins" "I" ∈ GT) (hd : decode cc pc = .ok (.putfield index, 3)) (eI : I1 = pF I 114 a v) (kk : ∀ (H : Heap) (locs : List Loc), WD E G I1 X s.heap H locs → W p l e R s m args below meth c H locs cells slots Q (F0 m (pc + 3) ls rest)) : W p l e R s m args below meth c H locs cells slots Q (F0 m pc ls (.int v :: .ref a :: rest)) := x_putI C0 hz hw 7 2 ta rfl inG7 tyX7 tyX7_ok nmX7 (by decide) (by decide) (by decide) (by decide) rfl hn hfit hl hd eI kk
theorem xg_7_3 (C0 : CX p s m args meth c E cc own nL) (hw : WD E G I X s.heap H locs) {a index : Nat} (ta : okA E G 7 a) (hl : Cond.fieldLink own index "RadioCues$Sound" "times" "I" ∈ GT) (hd : decode cc pc = .ok (.getfield index, 3)) (kk : W p l e R s m args below meth c H locs cells slots Q (F0 m (pc + 3) ls (.int (gF I 115 a) :: rest))) : W p l e R s m args below meth c H locs cells slots Q (F0 m pc ls (.ref a :: rest)) := x_getI C0 hw 7 3 ta rfl inG7 (by decide) (by decide) (by decide) (by decide) hl hd kk
theorem xp_7_3 (C0 : CX p s m args meth c E cc own nL) (hz : s.heap.size + cells ≤ eB E + G.1) (hw : WD E G I X s.heap H locs) {a index : Nat} {v : Int32} {I1 : Im} (ta : okA E G 7 a) (hn : narrow .int (.int v) = .int v) (hfit : fits .int (.int v) = true) (hl : Cond.fieldLink own index "RadioCues$Sound" "times" "I" ∈ GT) (hd : decode cc pc = .ok (.putfield index, 3)) (eI : I1 = pF I 115 a v) (kk : ∀ (H : Heap) (locs : List Loc), WD E G I1 X s.heap H locs → W p l e R s m args below meth c H locs cells slots Q (F0 m (pc + 3) ls rest)) : W p l e R s m args below meth c H locs cells slots Q (F0 m pc ls (.int v :: .ref a :: rest)) := x_putI C0 hz hw 7 3 ta rfl inG7 tyX7 tyX7_ok nmX7 (by decide) (by decide) (by decide) (by decide) rfl hn hfit hl hd eI kk
theorem xg_8_0 (C0 : CX p s m args meth c E cc own nL) (hw : WD E G I X s.heap H locs) {a b index : Nat} (ta : okA E G 8 a) (hl : Cond.fieldLink own index "RadioCues" "play" "LRadioCues$Play;" ∈ GT) (hb : gR X 128 a = some b) (hd : decode cc pc = .ok (.getfield index, 3)) (kk : W p l e R s m args below meth c H locs cells slots Q (F0 m (pc + 3) ls (.ref b :: rest))) : W p l e R s m args below meth c H locs cells slots Q (F0 m pc ls (.ref a :: rest)) := x_getR C0 hw 8 0 ta rfl inG8 (by decide) (by decide) (by decide) (by decide) hl hb hd kk
theorem xp_8_0 (C0 : CX p s m args meth c E cc own nL) (hz : s.heap.size + cells ≤ eB E + G.1) (hw : WD E G I X s.heap H locs) {a b index : Nat} {X1 : Xm} (ta : okA E G 8 a) (tb : okA E G 4 b) (hl : Cond.fieldLink own index "RadioCues" "play" "LRadioCues$Play;" ∈ GT) (hd : decode cc pc = .ok (.putfield index, 3)) (eX : X1 = pR X 128 a (some b)) (kk : ∀ (H : Heap) (locs : List Loc), WD E G I X1 s.heap H locs → W p l e R s m args below meth c H locs cells slots Q (F0 m (pc + 3) ls rest)) : W p l e R s m args below meth c H locs cells slots Q (F0 m pc ls (.ref b :: .ref a :: rest)) := x_putR C0 hz hw 8 0 ta rfl inG8 tyX8 tyX8_ok nmX8 (by decide) (by decide) (by decide) (by decide) rfl rfl rfl tb hl hd eX kk
theorem xg_8_1 (C0 : CX p s m args meth c E cc own nL) (hw : WD E G I X s.heap H locs) {a b index : Nat} (ta : okA E G 8 a) (hl : Cond.fieldLink own index "RadioCues" "trial" "LRadioCues$Play;" ∈ GT) (hb : gR X 129 a = some b) (hd : decode cc pc = .ok (.getfield index, 3)) (kk : W p l e R s m args below meth c H locs cells slots Q (F0 m (pc + 3) ls (.ref b :: rest))) : W p l e R s m args below meth c H locs cells slots Q (F0 m pc ls (.ref a :: rest)) := x_getR C0 hw 8 1 ta rfl inG8 (by decide) (by decide) (by decide) (by decide) hl hb hd kk
theorem xp_8_1 (C0 : CX p s m args meth c E cc own nL) (hz : s.heap.size + cells ≤ eB E + G.1) (hw : WD E G I X s.heap H locs) {a b index : Nat} {X1 : Xm} (hin2 : meth.name = "<init>") (hdecl : "RadioCues" = own) (ta : okA E G 8 a) (tb : okA E G 4 b) (hl : Cond.fieldLink own index "RadioCues" "trial" "LRadioCues$Play;" ∈ GT) (hd : decode cc pc = .ok (.putfield index, 3)) (eX : X1 = pR X 129 a (some b)) (kk : ∀ (H : Heap) (locs : List Loc), WD E G I X1 s.heap H locs → W p l e R s m args below meth c H locs cells slots Q (F0 m (pc + 3) ls rest)) : W p l e R s m args below meth c H locs cells slots Q (F0 m pc ls (.ref b :: .ref a :: rest)) := x_putRF C0 hz hw 8 1 ta rfl inG8 tyX8 tyX8_ok nmX8 (by decide) (by decide) (by decide) (by decide) rfl hin2 hdecl rfl rfl tb hl hd eX kk
theorem xg_8_2 (C0 : CX p s m args meth c E cc own nL) (hw : WD E G I X s.heap H locs) {a b index : Nat} (ta : okA E G 8 a) (hl : Cond.fieldLink own index "RadioCues" "history" "[LRadioCues$Play;" ∈ GT) (hb : gR X 130 a = some b) (hd : decode cc pc = .ok (.getfield index, 3)) (kk : W p l e R s m args below meth c H locs cells slots Q (F0 m (pc + 3) ls (.ref b :: rest))) : W p l e R s m args below meth c H locs cells slots Q (F0 m pc ls (.ref a :: rest)) := x_getR C0 hw 8 2 ta rfl inG8 (by decide) (by decide) (by decide) (by decide) hl hb hd kk
theorem xp_8_2 (C0 : CX p s m args meth c E cc own nL) (hz : s.heap.size + cells ≤ eB E + G.1) (hw : WD E G I X s.heap H locs) {a b index : Nat} {X1 : Xm} (hin2 : meth.name = "<init>") (hdecl : "RadioCues" = own) (ta : okA E G 8 a) (tb : okA E G 15 b) (hl : Cond.fieldLink own index "RadioCues" "history" "[LRadioCues$Play;" ∈ GT) (hd : decode cc pc = .ok (.putfield index, 3)) (eX : X1 = pR X 130 a (some b)) (kk : ∀ (H : Heap) (locs : List Loc), WD E G I X1 s.heap H locs → W p l e R s m args below meth c H locs cells slots Q (F0 m (pc + 3) ls rest)) : W p l e R s m args below meth c H locs cells slots Q (F0 m pc ls (.ref b :: .ref a :: rest)) := x_putRF C0 hz hw 8 2 ta rfl inG8 tyX8 tyX8_ok nmX8 (by decide) (by decide) (by decide) (by decide) rfl hin2 hdecl rfl rfl tb hl hd eX kk
theorem xg_8_3 (C0 : CX p s m args meth c E cc own nL) (hw : WD E G I X s.heap H locs) {a index : Nat} (ta : okA E G 8 a) (hl : Cond.fieldLink own index "RadioCues" "kept" "I" ∈ GT) (hd : decode cc pc = .ok (.getfield index, 3)) (kk : W p l e R s m args below meth c H locs cells slots Q (F0 m (pc + 3) ls (.int (gF I 131 a) :: rest))) : W p l e R s m args below meth c H locs cells slots Q (F0 m pc ls (.ref a :: rest)) := x_getI C0 hw 8 3 ta rfl inG8 (by decide) (by decide) (by decide) (by decide) hl hd kk
theorem xp_8_3 (C0 : CX p s m args meth c E cc own nL) (hz : s.heap.size + cells ≤ eB E + G.1) (hw : WD E G I X s.heap H locs) {a index : Nat} {v : Int32} {I1 : Im} (ta : okA E G 8 a) (hn : narrow .int (.int v) = .int v) (hfit : fits .int (.int v) = true) (hl : Cond.fieldLink own index "RadioCues" "kept" "I" ∈ GT) (hd : decode cc pc = .ok (.putfield index, 3)) (eI : I1 = pF I 131 a v) (kk : ∀ (H : Heap) (locs : List Loc), WD E G I1 X s.heap H locs → W p l e R s m args below meth c H locs cells slots Q (F0 m (pc + 3) ls rest)) : W p l e R s m args below meth c H locs cells slots Q (F0 m pc ls (.int v :: .ref a :: rest)) := x_putI C0 hz hw 8 3 ta rfl inG8 tyX8 tyX8_ok nmX8 (by decide) (by decide) (by decide) (by decide) rfl hn hfit hl hd eI kk
theorem xg_8_4 (C0 : CX p s m args meth c E cc own nL) (hw : WD E G I X s.heap H locs) {a b index : Nat} (ta : okA E G 8 a) (hl : Cond.fieldLink own index "RadioCues" "slots" "[LRadioCues$Play;" ∈ GT) (hb : gR X 132 a = some b) (hd : decode cc pc = .ok (.getfield index, 3)) (kk : W p l e R s m args below meth c H locs cells slots Q (F0 m (pc + 3) ls (.ref b :: rest))) : W p l e R s m args below meth c H locs cells slots Q (F0 m pc ls (.ref a :: rest)) := x_getR C0 hw 8 4 ta rfl inG8 (by decide) (by decide) (by decide) (by decide) hl hb hd kk
theorem xp_8_4 (C0 : CX p s m args meth c E cc own nL) (hz : s.heap.size + cells ≤ eB E + G.1) (hw : WD E G I X s.heap H locs) {a b index : Nat} {X1 : Xm} (hin2 : meth.name = "<init>") (hdecl : "RadioCues" = own) (ta : okA E G 8 a) (tb : okA E G 15 b) (hl : Cond.fieldLink own index "RadioCues" "slots" "[LRadioCues$Play;" ∈ GT) (hd : decode cc pc = .ok (.putfield index, 3)) (eX : X1 = pR X 132 a (some b)) (kk : ∀ (H : Heap) (locs : List Loc), WD E G I X1 s.heap H locs → W p l e R s m args below meth c H locs cells slots Q (F0 m (pc + 3) ls rest)) : W p l e R s m args below meth c H locs cells slots Q (F0 m pc ls (.ref b :: .ref a :: rest)) := x_putRF C0 hz hw 8 4 ta rfl inG8 tyX8 tyX8_ok nmX8 (by decide) (by decide) (by decide) (by decide) rfl hin2 hdecl rfl rfl tb hl hd eX kk
theorem xg_8_5 (C0 : CX p s m args meth c E cc own nL) (hw : WD E G I X s.heap H locs) {a b index : Nat} (ta : okA E G 8 a) (hl : Cond.fieldLink own index "RadioCues" "saved" "[Z" ∈ GT) (hb : gR X 133 a = some b) (hd : decode cc pc = .ok (.getfield index, 3)) (kk : W p l e R s m args below meth c H locs cells slots Q (F0 m (pc + 3) ls (.ref b :: rest))) : W p l e R s m args below meth c H locs cells slots Q (F0 m pc ls (.ref a :: rest)) := x_getR C0 hw 8 5 ta rfl inG8 (by decide) (by decide) (by decide) (by decide) hl hb hd kk
theorem xp_8_5 (C0 : CX p s m args meth c E cc own nL) (hz : s.heap.size + cells ≤ eB E + G.1) (hw : WD E G I X s.heap H locs) {a b index : Nat} {X1 : Xm} (hin2 : meth.name = "<init>") (hdecl : "RadioCues" = own) (ta : okA E G 8 a) (tb : okA E G 12 b) (hl : Cond.fieldLink own index "RadioCues" "saved" "[Z" ∈ GT) (hd : decode cc pc = .ok (.putfield index, 3)) (eX : X1 = pR X 133 a (some b)) (kk : ∀ (H : Heap) (locs : List Loc), WD E G I X1 s.heap H locs → W p l e R s m args below meth c H locs cells slots Q (F0 m (pc + 3) ls rest)) : W p l e R s m args below meth c H locs cells slots Q (F0 m pc ls (.ref b :: .ref a :: rest)) := x_putRF C0 hz hw 8 5 ta rfl inG8 tyX8 tyX8_ok nmX8 (by decide) (by decide) (by decide) (by decide) rfl hin2 hdecl rfl rfl tb hl hd eX kk
theorem xg_8_6 (C0 : CX p s m args meth c E cc own nL) (hw : WD E G I X s.heap H locs) {a b index : Nat} (ta : okA E G 8 a) (hl : Cond.fieldLink own index "RadioCues" "pad" "LRadioCues$Pad;" ∈ GT) (hb : gR X 134 a = some b) (hd : decode cc pc = .ok (.getfield index, 3)) (kk : W p l e R s m args below meth c H locs cells slots Q (F0 m (pc + 3) ls (.ref b :: rest))) : W p l e R s m args below meth c H locs cells slots Q (F0 m pc ls (.ref a :: rest)) := x_getR C0 hw 8 6 ta rfl inG8 (by decide) (by decide) (by decide) (by decide) hl hb hd kk
theorem xp_8_6 (C0 : CX p s m args meth c E cc own nL) (hz : s.heap.size + cells ≤ eB E + G.1) (hw : WD E G I X s.heap H locs) {a b index : Nat} {X1 : Xm} (hin2 : meth.name = "<init>") (hdecl : "RadioCues" = own) (ta : okA E G 8 a) (tb : okA E G 3 b) (hl : Cond.fieldLink own index "RadioCues" "pad" "LRadioCues$Pad;" ∈ GT) (hd : decode cc pc = .ok (.putfield index, 3)) (eX : X1 = pR X 134 a (some b)) (kk : ∀ (H : Heap) (locs : List Loc), WD E G I X1 s.heap H locs → W p l e R s m args below meth c H locs cells slots Q (F0 m (pc + 3) ls rest)) : W p l e R s m args below meth c H locs cells slots Q (F0 m pc ls (.ref b :: .ref a :: rest)) := x_putRF C0 hz hw 8 6 ta rfl inG8 tyX8 tyX8_ok nmX8 (by decide) (by decide) (by decide) (by decide) rfl hin2 hdecl rfl rfl tb hl hd eX kk
theorem xg_9_0 (C0 : CX p s m args meth c E cc own nL) (hw : WD E G I X s.heap H locs) {a b index : Nat} (ta : okA E G 9 a) (hl : Cond.fieldLink own index "RadioCuesModel" "s" "[I" ∈ GT) (hb : gR X 144 a = some b) (hd : decode cc pc = .ok (.getfield index, 3)) (kk : W p l e R s m args below meth c H locs cells slots Q (F0 m (pc + 3) ls (.ref b :: rest))) : W p l e R s m args below meth c H locs cells slots Q (F0 m pc ls (.ref a :: rest)) := x_getR C0 hw 9 0 ta rfl inG9 (by decide) (by decide) (by decide) (by decide) hl hb hd kk
theorem xp_9_0 (C0 : CX p s m args meth c E cc own nL) (hz : s.heap.size + cells ≤ eB E + G.1) (hw : WD E G I X s.heap H locs) {a b index : Nat} {X1 : Xm} (hin2 : meth.name = "<init>") (hdecl : "RadioCuesModel" = own) (ta : okA E G 9 a) (tb : okA E G 11 b) (hl : Cond.fieldLink own index "RadioCuesModel" "s" "[I" ∈ GT) (hd : decode cc pc = .ok (.putfield index, 3)) (eX : X1 = pR X 144 a (some b)) (kk : ∀ (H : Heap) (locs : List Loc), WD E G I X1 s.heap H locs → W p l e R s m args below meth c H locs cells slots Q (F0 m (pc + 3) ls rest)) : W p l e R s m args below meth c H locs cells slots Q (F0 m pc ls (.ref b :: .ref a :: rest)) := x_putRF C0 hz hw 9 0 ta rfl inG9 tyX9 tyX9_ok nmX9 (by decide) (by decide) (by decide) (by decide) rfl hin2 hdecl rfl rfl tb hl hd eX kk
theorem xg_9_1 (C0 : CX p s m args meth c E cc own nL) (hw : WD E G I X s.heap H locs) {a b index : Nat} (ta : okA E G 9 a) (hl : Cond.fieldLink own index "RadioCuesModel" "past" "[I" ∈ GT) (hb : gR X 145 a = some b) (hd : decode cc pc = .ok (.getfield index, 3)) (kk : W p l e R s m args below meth c H locs cells slots Q (F0 m (pc + 3) ls (.ref b :: rest))) : W p l e R s m args below meth c H locs cells slots Q (F0 m pc ls (.ref a :: rest)) := x_getR C0 hw 9 1 ta rfl inG9 (by decide) (by decide) (by decide) (by decide) hl hb hd kk
theorem xp_9_1 (C0 : CX p s m args meth c E cc own nL) (hz : s.heap.size + cells ≤ eB E + G.1) (hw : WD E G I X s.heap H locs) {a b index : Nat} {X1 : Xm} (hin2 : meth.name = "<init>") (hdecl : "RadioCuesModel" = own) (ta : okA E G 9 a) (tb : okA E G 11 b) (hl : Cond.fieldLink own index "RadioCuesModel" "past" "[I" ∈ GT) (hd : decode cc pc = .ok (.putfield index, 3)) (eX : X1 = pR X 145 a (some b)) (kk : ∀ (H : Heap) (locs : List Loc), WD E G I X1 s.heap H locs → W p l e R s m args below meth c H locs cells slots Q (F0 m (pc + 3) ls rest)) : W p l e R s m args below meth c H locs cells slots Q (F0 m pc ls (.ref b :: .ref a :: rest)) := x_putRF C0 hz hw 9 1 ta rfl inG9 tyX9 tyX9_ok nmX9 (by decide) (by decide) (by decide) (by decide) rfl hin2 hdecl rfl rfl tb hl hd eX kk
theorem xg_9_2 (C0 : CX p s m args meth c E cc own nL) (hw : WD E G I X s.heap H locs) {a b index : Nat} (ta : okA E G 9 a) (hl : Cond.fieldLink own index "RadioCuesModel" "slots" "[I" ∈ GT) (hb : gR X 146 a = some b) (hd : decode cc pc = .ok (.getfield index, 3)) (kk : W p l e R s m args below meth c H locs cells slots Q (F0 m (pc + 3) ls (.ref b :: rest))) : W p l e R s m args below meth c H locs cells slots Q (F0 m pc ls (.ref a :: rest)) := x_getR C0 hw 9 2 ta rfl inG9 (by decide) (by decide) (by decide) (by decide) hl hb hd kk
theorem xp_9_2 (C0 : CX p s m args meth c E cc own nL) (hz : s.heap.size + cells ≤ eB E + G.1) (hw : WD E G I X s.heap H locs) {a b index : Nat} {X1 : Xm} (hin2 : meth.name = "<init>") (hdecl : "RadioCuesModel" = own) (ta : okA E G 9 a) (tb : okA E G 11 b) (hl : Cond.fieldLink own index "RadioCuesModel" "slots" "[I" ∈ GT) (hd : decode cc pc = .ok (.putfield index, 3)) (eX : X1 = pR X 146 a (some b)) (kk : ∀ (H : Heap) (locs : List Loc), WD E G I X1 s.heap H locs → W p l e R s m args below meth c H locs cells slots Q (F0 m (pc + 3) ls rest)) : W p l e R s m args below meth c H locs cells slots Q (F0 m pc ls (.ref b :: .ref a :: rest)) := x_putRF C0 hz hw 9 2 ta rfl inG9 tyX9 tyX9_ok nmX9 (by decide) (by decide) (by decide) (by decide) rfl hin2 hdecl rfl rfl tb hl hd eX kk
theorem xg_9_3 (C0 : CX p s m args meth c E cc own nL) (hw : WD E G I X s.heap H locs) {a b index : Nat} (ta : okA E G 9 a) (hl : Cond.fieldLink own index "RadioCuesModel" "isSaved" "[Z" ∈ GT) (hb : gR X 147 a = some b) (hd : decode cc pc = .ok (.getfield index, 3)) (kk : W p l e R s m args below meth c H locs cells slots Q (F0 m (pc + 3) ls (.ref b :: rest))) : W p l e R s m args below meth c H locs cells slots Q (F0 m pc ls (.ref a :: rest)) := x_getR C0 hw 9 3 ta rfl inG9 (by decide) (by decide) (by decide) (by decide) hl hb hd kk
theorem xp_9_3 (C0 : CX p s m args meth c E cc own nL) (hz : s.heap.size + cells ≤ eB E + G.1) (hw : WD E G I X s.heap H locs) {a b index : Nat} {X1 : Xm} (hin2 : meth.name = "<init>") (hdecl : "RadioCuesModel" = own) (ta : okA E G 9 a) (tb : okA E G 12 b) (hl : Cond.fieldLink own index "RadioCuesModel" "isSaved" "[Z" ∈ GT) (hd : decode cc pc = .ok (.putfield index, 3)) (eX : X1 = pR X 147 a (some b)) (kk : ∀ (H : Heap) (locs : List Loc), WD E G I X1 s.heap H locs → W p l e R s m args below meth c H locs cells slots Q (F0 m (pc + 3) ls rest)) : W p l e R s m args below meth c H locs cells slots Q (F0 m pc ls (.ref b :: .ref a :: rest)) := x_putRF C0 hz hw 9 3 ta rfl inG9 tyX9 tyX9_ok nmX9 (by decide) (by decide) (by decide) (by decide) rfl hin2 hdecl rfl rfl tb hl hd eX kk
theorem xg_9_4 (C0 : CX p s m args meth c E cc own nL) (hw : WD E G I X s.heap H locs) {a b index : Nat} (ta : okA E G 9 a) (hl : Cond.fieldLink own index "RadioCuesModel" "spare" "[I" ∈ GT) (hb : gR X 148 a = some b) (hd : decode cc pc = .ok (.getfield index, 3)) (kk : W p l e R s m args below meth c H locs cells slots Q (F0 m (pc + 3) ls (.ref b :: rest))) : W p l e R s m args below meth c H locs cells slots Q (F0 m pc ls (.ref a :: rest)) := x_getR C0 hw 9 4 ta rfl inG9 (by decide) (by decide) (by decide) (by decide) hl hb hd kk
theorem xp_9_4 (C0 : CX p s m args meth c E cc own nL) (hz : s.heap.size + cells ≤ eB E + G.1) (hw : WD E G I X s.heap H locs) {a b index : Nat} {X1 : Xm} (hin2 : meth.name = "<init>") (hdecl : "RadioCuesModel" = own) (ta : okA E G 9 a) (tb : okA E G 11 b) (hl : Cond.fieldLink own index "RadioCuesModel" "spare" "[I" ∈ GT) (hd : decode cc pc = .ok (.putfield index, 3)) (eX : X1 = pR X 148 a (some b)) (kk : ∀ (H : Heap) (locs : List Loc), WD E G I X1 s.heap H locs → W p l e R s m args below meth c H locs cells slots Q (F0 m (pc + 3) ls rest)) : W p l e R s m args below meth c H locs cells slots Q (F0 m pc ls (.ref b :: .ref a :: rest)) := x_putRF C0 hz hw 9 4 ta rfl inG9 tyX9 tyX9_ok nmX9 (by decide) (by decide) (by decide) (by decide) rfl hin2 hdecl rfl rfl tb hl hd eX kk
theorem xg_9_5 (C0 : CX p s m args meth c E cc own nL) (hw : WD E G I X s.heap H locs) {a index : Nat} (ta : okA E G 9 a) (hl : Cond.fieldLink own index "RadioCuesModel" "pasts" "I" ∈ GT) (hd : decode cc pc = .ok (.getfield index, 3)) (kk : W p l e R s m args below meth c H locs cells slots Q (F0 m (pc + 3) ls (.int (gF I 149 a) :: rest))) : W p l e R s m args below meth c H locs cells slots Q (F0 m pc ls (.ref a :: rest)) := x_getI C0 hw 9 5 ta rfl inG9 (by decide) (by decide) (by decide) (by decide) hl hd kk
theorem xp_9_5 (C0 : CX p s m args meth c E cc own nL) (hz : s.heap.size + cells ≤ eB E + G.1) (hw : WD E G I X s.heap H locs) {a index : Nat} {v : Int32} {I1 : Im} (ta : okA E G 9 a) (hn : narrow .int (.int v) = .int v) (hfit : fits .int (.int v) = true) (hl : Cond.fieldLink own index "RadioCuesModel" "pasts" "I" ∈ GT) (hd : decode cc pc = .ok (.putfield index, 3)) (eI : I1 = pF I 149 a v) (kk : ∀ (H : Heap) (locs : List Loc), WD E G I1 X s.heap H locs → W p l e R s m args below meth c H locs cells slots Q (F0 m (pc + 3) ls rest)) : W p l e R s m args below meth c H locs cells slots Q (F0 m pc ls (.int v :: .ref a :: rest)) := x_putI C0 hz hw 9 5 ta rfl inG9 tyX9 tyX9_ok nmX9 (by decide) (by decide) (by decide) (by decide) rfl hn hfit hl hd eI kk
theorem xg_9_6 (C0 : CX p s m args meth c E cc own nL) (hw : WD E G I X s.heap H locs) {a index : Nat} (ta : okA E G 9 a) (hl : Cond.fieldLink own index "RadioCuesModel" "runs" "Z" ∈ GT) (hd : decode cc pc = .ok (.getfield index, 3)) (kk : W p l e R s m args below meth c H locs cells slots Q (F0 m (pc + 3) ls (.int (gF I 150 a) :: rest))) : W p l e R s m args below meth c H locs cells slots Q (F0 m pc ls (.ref a :: rest)) := x_getI C0 hw 9 6 ta rfl inG9 (by decide) (by decide) (by decide) (by decide) hl hd kk
theorem xp_9_6 (C0 : CX p s m args meth c E cc own nL) (hz : s.heap.size + cells ≤ eB E + G.1) (hw : WD E G I X s.heap H locs) {a index : Nat} {v : Int32} {I1 : Im} (ta : okA E G 9 a) (hn : narrow .boolean (.int v) = .int v) (hfit : fits .boolean (.int v) = true) (hl : Cond.fieldLink own index "RadioCuesModel" "runs" "Z" ∈ GT) (hd : decode cc pc = .ok (.putfield index, 3)) (eI : I1 = pF I 150 a v) (kk : ∀ (H : Heap) (locs : List Loc), WD E G I1 X s.heap H locs → W p l e R s m args below meth c H locs cells slots Q (F0 m (pc + 3) ls rest)) : W p l e R s m args below meth c H locs cells slots Q (F0 m pc ls (.int v :: .ref a :: rest)) := x_putI C0 hz hw 9 6 ta rfl inG9 tyX9 tyX9_ok nmX9 (by decide) (by decide) (by decide) (by decide) rfl hn hfit hl hd eI kk
theorem xg_9_7 (C0 : CX p s m args meth c E cc own nL) (hw : WD E G I X s.heap H locs) {a b index : Nat} (ta : okA E G 9 a) (hl : Cond.fieldLink own index "RadioCuesModel" "pad" "[I" ∈ GT) (hb : gR X 151 a = some b) (hd : decode cc pc = .ok (.getfield index, 3)) (kk : W p l e R s m args below meth c H locs cells slots Q (F0 m (pc + 3) ls (.ref b :: rest))) : W p l e R s m args below meth c H locs cells slots Q (F0 m pc ls (.ref a :: rest)) := x_getR C0 hw 9 7 ta rfl inG9 (by decide) (by decide) (by decide) (by decide) hl hb hd kk
theorem xp_9_7 (C0 : CX p s m args meth c E cc own nL) (hz : s.heap.size + cells ≤ eB E + G.1) (hw : WD E G I X s.heap H locs) {a b index : Nat} {X1 : Xm} (hin2 : meth.name = "<init>") (hdecl : "RadioCuesModel" = own) (ta : okA E G 9 a) (tb : okA E G 11 b) (hl : Cond.fieldLink own index "RadioCuesModel" "pad" "[I" ∈ GT) (hd : decode cc pc = .ok (.putfield index, 3)) (eX : X1 = pR X 151 a (some b)) (kk : ∀ (H : Heap) (locs : List Loc), WD E G I X1 s.heap H locs → W p l e R s m args below meth c H locs cells slots Q (F0 m (pc + 3) ls rest)) : W p l e R s m args below meth c H locs cells slots Q (F0 m pc ls (.ref b :: .ref a :: rest)) := x_putRF C0 hz hw 9 7 ta rfl inG9 tyX9 tyX9_ok nmX9 (by decide) (by decide) (by decide) (by decide) rfl hin2 hdecl rfl rfl tb hl hd eX kk
theorem xg_9_8 (C0 : CX p s m args meth c E cc own nL) (hw : WD E G I X s.heap H locs) {a index : Nat} (ta : okA E G 9 a) (hl : Cond.fieldLink own index "RadioCuesModel" "typed" "I" ∈ GT) (hd : decode cc pc = .ok (.getfield index, 3)) (kk : W p l e R s m args below meth c H locs cells slots Q (F0 m (pc + 3) ls (.int (gF I 152 a) :: rest))) : W p l e R s m args below meth c H locs cells slots Q (F0 m pc ls (.ref a :: rest)) := x_getI C0 hw 9 8 ta rfl inG9 (by decide) (by decide) (by decide) (by decide) hl hd kk
theorem xp_9_8 (C0 : CX p s m args meth c E cc own nL) (hz : s.heap.size + cells ≤ eB E + G.1) (hw : WD E G I X s.heap H locs) {a index : Nat} {v : Int32} {I1 : Im} (ta : okA E G 9 a) (hn : narrow .int (.int v) = .int v) (hfit : fits .int (.int v) = true) (hl : Cond.fieldLink own index "RadioCuesModel" "typed" "I" ∈ GT) (hd : decode cc pc = .ok (.putfield index, 3)) (eI : I1 = pF I 152 a v) (kk : ∀ (H : Heap) (locs : List Loc), WD E G I1 X s.heap H locs → W p l e R s m args below meth c H locs cells slots Q (F0 m (pc + 3) ls rest)) : W p l e R s m args below meth c H locs cells slots Q (F0 m pc ls (.int v :: .ref a :: rest)) := x_putI C0 hz hw 9 8 ta rfl inG9 tyX9 tyX9_ok nmX9 (by decide) (by decide) (by decide) (by decide) rfl hn hfit hl hd eI kk
theorem xg_9_9 (C0 : CX p s m args meth c E cc own nL) (hw : WD E G I X s.heap H locs) {a index : Nat} (ta : okA E G 9 a) (hl : Cond.fieldLink own index "RadioCuesModel" "spot" "I" ∈ GT) (hd : decode cc pc = .ok (.getfield index, 3)) (kk : W p l e R s m args below meth c H locs cells slots Q (F0 m (pc + 3) ls (.int (gF I 153 a) :: rest))) : W p l e R s m args below meth c H locs cells slots Q (F0 m pc ls (.ref a :: rest)) := x_getI C0 hw 9 9 ta rfl inG9 (by decide) (by decide) (by decide) (by decide) hl hd kk
theorem xp_9_9 (C0 : CX p s m args meth c E cc own nL) (hz : s.heap.size + cells ≤ eB E + G.1) (hw : WD E G I X s.heap H locs) {a index : Nat} {v : Int32} {I1 : Im} (ta : okA E G 9 a) (hn : narrow .int (.int v) = .int v) (hfit : fits .int (.int v) = true) (hl : Cond.fieldLink own index "RadioCuesModel" "spot" "I" ∈ GT) (hd : decode cc pc = .ok (.putfield index, 3)) (eI : I1 = pF I 153 a v) (kk : ∀ (H : Heap) (locs : List Loc), WD E G I1 X s.heap H locs → W p l e R s m args below meth c H locs cells slots Q (F0 m (pc + 3) ls rest)) : W p l e R s m args below meth c H locs cells slots Q (F0 m pc ls (.int v :: .ref a :: rest)) := x_putI C0 hz hw 9 9 ta rfl inG9 tyX9 tyX9_ok nmX9 (by decide) (by decide) (by decide) (by decide) rfl hn hfit hl hd eI kk
theorem xg_9_10 (C0 : CX p s m args meth c E cc own nL) (hw : WD E G I X s.heap H locs) {a index : Nat} (ta : okA E G 9 a) (hl : Cond.fieldLink own index "RadioCuesModel" "orders" "I" ∈ GT) (hd : decode cc pc = .ok (.getfield index, 3)) (kk : W p l e R s m args below meth c H locs cells slots Q (F0 m (pc + 3) ls (.int (gF I 154 a) :: rest))) : W p l e R s m args below meth c H locs cells slots Q (F0 m pc ls (.ref a :: rest)) := x_getI C0 hw 9 10 ta rfl inG9 (by decide) (by decide) (by decide) (by decide) hl hd kk
theorem xp_9_10 (C0 : CX p s m args meth c E cc own nL) (hz : s.heap.size + cells ≤ eB E + G.1) (hw : WD E G I X s.heap H locs) {a index : Nat} {v : Int32} {I1 : Im} (ta : okA E G 9 a) (hn : narrow .int (.int v) = .int v) (hfit : fits .int (.int v) = true) (hl : Cond.fieldLink own index "RadioCuesModel" "orders" "I" ∈ GT) (hd : decode cc pc = .ok (.putfield index, 3)) (eI : I1 = pF I 154 a v) (kk : ∀ (H : Heap) (locs : List Loc), WD E G I1 X s.heap H locs → W p l e R s m args below meth c H locs cells slots Q (F0 m (pc + 3) ls rest)) : W p l e R s m args below meth c H locs cells slots Q (F0 m pc ls (.int v :: .ref a :: rest)) := x_putI C0 hz hw 9 10 ta rfl inG9 tyX9 tyX9_ok nmX9 (by decide) (by decide) (by decide) (by decide) rfl hn hfit hl hd eI kk
theorem xg_9_11 (C0 : CX p s m args meth c E cc own nL) (hw : WD E G I X s.heap H locs) {a b index : Nat} (ta : okA E G 9 a) (hl : Cond.fieldLink own index "RadioCuesModel" "order" "[I" ∈ GT) (hb : gR X 155 a = some b) (hd : decode cc pc = .ok (.getfield index, 3)) (kk : W p l e R s m args below meth c H locs cells slots Q (F0 m (pc + 3) ls (.ref b :: rest))) : W p l e R s m args below meth c H locs cells slots Q (F0 m pc ls (.ref a :: rest)) := x_getR C0 hw 9 11 ta rfl inG9 (by decide) (by decide) (by decide) (by decide) hl hb hd kk
theorem xp_9_11 (C0 : CX p s m args meth c E cc own nL) (hz : s.heap.size + cells ≤ eB E + G.1) (hw : WD E G I X s.heap H locs) {a b index : Nat} {X1 : Xm} (hin2 : meth.name = "<init>") (hdecl : "RadioCuesModel" = own) (ta : okA E G 9 a) (tb : okA E G 11 b) (hl : Cond.fieldLink own index "RadioCuesModel" "order" "[I" ∈ GT) (hd : decode cc pc = .ok (.putfield index, 3)) (eX : X1 = pR X 155 a (some b)) (kk : ∀ (H : Heap) (locs : List Loc), WD E G I X1 s.heap H locs → W p l e R s m args below meth c H locs cells slots Q (F0 m (pc + 3) ls rest)) : W p l e R s m args below meth c H locs cells slots Q (F0 m pc ls (.ref b :: .ref a :: rest)) := x_putRF C0 hz hw 9 11 ta rfl inG9 tyX9 tyX9_ok nmX9 (by decide) (by decide) (by decide) (by decide) rfl hin2 hdecl rfl rfl tb hl hd eX kk
end XF
end
section
/-! ===== small checks and the rows that use them ===== -/
def isch (v : Int32) : Bool := decide (0 ≤ v.toInt ∧ v.toInt < 65536)
def isbl (v : Int32) : Bool := decide (v = 0 ∨ v = 1)
def cpok (sp dp n : Int32) (l0 l1 : Nat) : Bool := decide (0 ≤ sp.toInt ∧ 0 ≤ dp.toInt ∧ 0 ≤ n.toInt ∧ sp.toNatClampNeg + n.toNatClampNeg ≤ l0 ∧ dp.toNatClampNeg + n.toNatClampNeg ≤ l1)
theorem isch_eq {v : Int32} (h : isch v = true) : ∃ q : Nat, q < 65536 ∧ v = nI q := by
  have h := of_decide_eq_true h
  refine ⟨v.toInt.toNat, by omega, Int32.toInt_inj.mp ?_⟩
  rw [nI_toInt (by omega)]
  omega
theorem isch_nar {v : Int32} (h : isch v = true) : narrow .char (.int v) = .int v := by
  obtain ⟨q, hq, rfl⟩ := isch_eq h
  exact (pk_charN hq).1
theorem isch_fit {v : Int32} (h : isch v = true) : fits .char (.int v) = true := by
  obtain ⟨q, hq, rfl⟩ := isch_eq h
  exact (pk_charN hq).2
theorem isch_vp {v : Int32} (h : isch v = true) : vp_nar .char v = v := by
  have e := isch_nar h
  unfold vp_nar
  rw [e]
theorem isbl_nar {v : Int32} (h : isbl v = true) : narrow .boolean (.int v) = .int v := by
  have h := of_decide_eq_true h
  rcases h with rfl | rfl <;> decide
theorem isbl_fit {v : Int32} (h : isbl v = true) : fits .boolean (.int v) = true := by
  have h := of_decide_eq_true h
  rcases h with rfl | rfl <;> decide
theorem va_rf_cat (o : Option Nat) : (va_rf o).category = 1 := by cases o <;> rfl
theorem tsw_ne {x : Int32} (k : Int32) (h : ¬ x = k) {a : Int} (hk : k.toInt = a) : ¬ x.toInt = a := fun q => h (Int32.toInt_inj.mp (q.trans hk.symm))
def QS (E : EN) (G : GM) (i : Nat) (I : Im) (X : Xm) : Array Value → State → Outcome → State → Prop := va_Qq (fun (r' : Option Nat) (u : Im × Xm) => r' = some (eK E i) ∧ u = (I, X) ∧ i < 6) (fun u t => WH E G u.1 u.2 t.heap) (eA E)
section XM
variable {p : Program} {l : Launch} {e : Env} {R : Room} {s : State} {m : MethodId} {args : Array Value} {below : List Frame} {meth : Method} {c : Code} {H : Heap} {locs : List Loc} {cells slots : Nat} {Q : State → Prop}
variable {cc : ByteArray} {pc : Nat} {ls : Array Slot} {rest : List Value} {E : EN} {own : String} {nL : Nat} {G : GM} {I : Im} {X : Xm}
theorem x_sret (C0 : CX p s m args meth c E cc own nL) {n : String} (hr : meth.sig.returnType = some (.object n)) {i : Nat} (hi : i < 6) (hw : WD E G I X s.heap H locs) (hd : decode cc pc = .ok (.areturn, 1)) : W p l e R s m args below meth c H locs cells slots (MQ below (QS E G i I X) args s cells slots (eA E)) (F0 m pc ls [.ref (eK E i)]) :=
  W.aret C0.1 C0.2.1 hr (Or.inl ⟨n, rfl⟩) (Or.inr ⟨_, rfl⟩) (fun t ht hW => ⟨⟨some (eK E i), (I, X), rfl, ⟨rfl, rfl, hi⟩, wh_of ht hw.1⟩, hw.2.F ht⟩) hw.2.2.2 hd C0.2.2.2.2.2.1
theorem x_cs {G1 : GM} {r : Nat} {I1 : Im} {X1 : Xm} {mc ms : Nat} {a : Array Value} {st0 : List Value} (hr : va_Run p l e R s m args below meth c H locs cells slots mc ms (F0 m pc ls st0) rest (QS E G1 r I1 X1 a) (eA E)) (hw : WD E G I X s.heap H locs)
    (kk : ∀ (H : Heap) (locs : List Loc), WD E G1 I1 X1 s.heap H locs → r < 6 → W p l e R s m args below meth c H locs (cells + mc) (slots + ms) Q (F0 m (pc + 3) ls (.ref (eK E r) :: rest))) : W p l e R s m args below meth c H locs cells slots Q (F0 m pc ls st0) :=
  va_callq hr hw.2 (fun _ _ h => h) (fun _ h => h) fun r' u t H1 locs1 ht _ hp hB _ _ hS1 => by
    obtain ⟨rfl, rfl, tr⟩ := hp
    exact kk H1 locs1 ⟨by rw [← ht]; exact hB, hS1⟩ tr
theorem x_copy (C0 : CX p s m args meth c E cc own nL) (hz : s.heap.size + cells ≤ eB E + G.1) (hw : WD E G I X s.heap H locs) {a0 a index : Nat} {I1 : Im} (ta0 : okA E G 11 a0) (ta : okA E G 11 a) {sp dp n : Int32} (hc : cpok sp dp n (G.2.2 a0) (G.2.2 a) = true) (hml : c.maxLocals = ls.size) (hl : Cond.methodLink own index arraycopyName ∈ GT) (hfr : 1 ≤ R.frames) (hlo : (rest.map fun v => v.category).sum + (nativeFrameWords "java/lang/System" "arraycopy" 5 + 11) ≤ R.locals)
    (hd : decode cc pc = .ok (.invokestatic index, 3)) (eI : I1 = pAr I a (va_cpy (gA I a0) (gA I a) sp.toNatClampNeg dp.toNatClampNeg n.toNatClampNeg)) (kk : ∀ (H : Heap) (locs : List Loc), WD E G I1 X s.heap H locs → W p l e R s m args below meth c H locs cells slots Q (F0 m (pc + 3) ls rest)) : W p l e R s m args below meth c H locs cells slots Q (F0 m pc ls (.int n :: .int dp :: .ref a :: .int sp :: .ref a0 :: rest)) := by
  obtain ⟨h1, h2, h3, h4, h5⟩ := of_decide_eq_true hc
  have hts := C0.2.2.2.2.1
  subst eI
  refine va_copyi C0.1 C0.2.1 hml C0.2.2.2.1 (hts _ hl) (hts _ wd211) (hts _ wd212) (hts _ wd213) C0.2.2.2.2.2.2.1 hw.1.1 (wpl_D E G I X) hw.2 (a0 - eB E) (a - eB E) 1 1 (wpl_i ta0 (by decide) (by decide)) (wpl_i ta (by decide) (by decide)) rfl rfl (by decide) ?_ ?_ ?_ h4 h5 (fun _ _ => rfl) hfr hlo hd fun H1 locs1 hP _ hS1 => ?_
  · rw [Int32.lt_iff_toInt_lt, Int32.toInt_zero]; omega
  · rw [Int32.lt_iff_toInt_lt, Int32.toInt_zero]; omega
  · rw [Int32.lt_iff_toInt_lt, Int32.toInt_zero]; omega
  · exact x_behind (I1 := pAr I a (va_cpy (gA I a0) (gA I a) sp.toNatClampNeg dp.toNatClampNeg n.toNatClampNeg)) (X1 := X) hz ta.pos hw.1.2.2 (wpl_setA ta (by decide) (by decide)) hP hS1 kk
theorem x_astore_n (C0 : CX p s m args meth c E cc own nL) {k : Fin 4} {i nl : Nat} {o : Option Nat} {lv lv' : List (Nat × Value)} (hd : decode cc pc = .ok (.astore_n k, 1)) (hi : (k : Nat) = i) (h : lv_has ls nl lv) (hn : i < nl) (hl : (i, va_rf o) :: lv.filter (fun q => !(q.1 == i) && !(q.1 + 1 == i && q.2.category == 2)) = lv')
    (kk : ∀ ls' : Array Slot, lv_has ls' nl lv' → W p l e R s m args below meth c H locs cells slots Q (F0 m (pc + 1) ls' rest)) : W p l e R s m args below meth c H locs cells slots Q (F0 m pc ls (va_rf o :: rest)) := by
  cases o with
  | none => exact lv_astore_nN C0.1 C0.2.1 hd hi h hn hl kk
  | some a => exact lv_astore_n C0.1 C0.2.1 hd hi h hn hl kk
theorem x_astore (C0 : CX p s m args meth c E cc own nL) {i nl : Nat} {o : Option Nat} {lv lv' : List (Nat × Value)} (hd : decode cc pc = .ok (.astore i, 2)) (h : lv_has ls nl lv) (hn : i < nl) (hl : (i, va_rf o) :: lv.filter (fun q => !(q.1 == i) && !(q.1 + 1 == i && q.2.category == 2)) = lv')
    (kk : ∀ ls' : Array Slot, lv_has ls' nl lv' → W p l e R s m args below meth c H locs cells slots Q (F0 m (pc + 2) ls' rest)) : W p l e R s m args below meth c H locs cells slots Q (F0 m pc ls (va_rf o :: rest)) := by
  cases o with
  | none => exact lv_astoreN C0.1 C0.2.1 hd h hn hl kk
  | some a => exact lv_astore C0.1 C0.2.1 hd h hn hl kk
end XM
end
