section
-- ===== PART A: goes FIRST, ahead of the names: the tables' words, and 'selects' of the private methods out of them =====
/-- a private method of a class that the tables say can be made, by its rows of tables_1 -/
def lw_okq (q : MethodName × Nat) : Prop := (q.1.cls ≠ "java/lang/invoke/MethodHandle" ∧ q.1.cls ≠ "java/lang/invoke/VarHandle") ∧ Cond.instantiable q.1.cls q.2 ∈ tables_1 ∧ Cond.privateMethod q.1 ∈ tables_1 ∧ Cond.instanceMethod q.1 ∈ tables_1
theorem lw_p0 : lw_okq (⟨"java/util/ArrayList", "add", "(Ljava/lang/Object;[Ljava/lang/Object;I)V"⟩, 3) := ⟨⟨by decide +kernel, by decide +kernel⟩, List.mem_of_getElem? (i := 53) (by decide +kernel), List.mem_of_getElem? (i := 126) (by decide +kernel), List.mem_of_getElem? (i := 127) (by decide +kernel)⟩
theorem lw_p1 : lw_okq (⟨"java/util/ArrayList", "grow", "()[Ljava/lang/Object;"⟩, 3) := ⟨⟨by decide +kernel, by decide +kernel⟩, List.mem_of_getElem? (i := 53) (by decide +kernel), List.mem_of_getElem? (i := 130) (by decide +kernel), List.mem_of_getElem? (i := 131) (by decide +kernel)⟩
theorem lw_p2 : lw_okq (⟨"java/util/ArrayList", "grow", "(I)[Ljava/lang/Object;"⟩, 3) := ⟨⟨by decide +kernel, by decide +kernel⟩, List.mem_of_getElem? (i := 53) (by decide +kernel), List.mem_of_getElem? (i := 134) (by decide +kernel), List.mem_of_getElem? (i := 135) (by decide +kernel)⟩
theorem lw_p3 : lw_okq (⟨"java/lang/Throwable", "fillInStackTrace", "(I)Ljava/lang/Throwable;"⟩, 6) := ⟨⟨by decide +kernel, by decide +kernel⟩, List.mem_of_getElem? (i := 783) (by decide +kernel), List.mem_of_getElem? (i := 781) (by decide +kernel), List.mem_of_getElem? (i := 782) (by decide +kernel)⟩
theorem lw_p4 : lw_okq (⟨"ShotListPlanner", "putFourBytes", "(I)V"⟩, 14) := ⟨⟨by decide +kernel, by decide +kernel⟩, List.mem_of_getElem? (i := 190) (by decide +kernel), List.mem_of_getElem? (i := 920) (by decide +kernel), List.mem_of_getElem? (i := 921) (by decide +kernel)⟩
theorem lw_p5 : lw_okq (⟨"ShotListPlanner$BoardReader", "advance", "()V"⟩, 7) := ⟨⟨by decide +kernel, by decide +kernel⟩, List.mem_of_getElem? (i := 335) (by decide +kernel), List.mem_of_getElem? (i := 952) (by decide +kernel), List.mem_of_getElem? (i := 953) (by decide +kernel)⟩
theorem lw_p6 : lw_okq (⟨"ShotListPlanner$BoardReader", "scanNumber", "()V"⟩, 7) := ⟨⟨by decide +kernel, by decide +kernel⟩, List.mem_of_getElem? (i := 335) (by decide +kernel), List.mem_of_getElem? (i := 959) (by decide +kernel), List.mem_of_getElem? (i := 960) (by decide +kernel)⟩
theorem lw_p7 : lw_okq (⟨"ShotListPlanner$BoardReader", "scanKeyword", "()V"⟩, 7) := ⟨⟨by decide +kernel, by decide +kernel⟩, List.mem_of_getElem? (i := 335) (by decide +kernel), List.mem_of_getElem? (i := 966) (by decide +kernel), List.mem_of_getElem? (i := 967) (by decide +kernel)⟩
theorem lw_p8 : lw_okq (⟨"ShotListPlanner$BoardReader", "readLimits", "(LShotListPlanner$Board;)V"⟩, 7) := ⟨⟨by decide +kernel, by decide +kernel⟩, List.mem_of_getElem? (i := 335) (by decide +kernel), List.mem_of_getElem? (i := 970) (by decide +kernel), List.mem_of_getElem? (i := 971) (by decide +kernel)⟩
theorem lw_p9 : lw_okq (⟨"ShotListPlanner$BoardReader", "isKeyword", "(Ljava/lang/String;)Z"⟩, 7) := ⟨⟨by decide +kernel, by decide +kernel⟩, List.mem_of_getElem? (i := 335) (by decide +kernel), List.mem_of_getElem? (i := 975) (by decide +kernel), List.mem_of_getElem? (i := 976) (by decide +kernel)⟩
theorem lw_p10 : lw_okq (⟨"ShotListPlanner$BoardReader", "fail", "(I)V"⟩, 7) := ⟨⟨by decide +kernel, by decide +kernel⟩, List.mem_of_getElem? (i := 335) (by decide +kernel), List.mem_of_getElem? (i := 981) (by decide +kernel), List.mem_of_getElem? (i := 982) (by decide +kernel)⟩
theorem lw_p11 : lw_okq (⟨"ShotListPlanner$BoardReader", "takeNumber", "(II)I"⟩, 7) := ⟨⟨by decide +kernel, by decide +kernel⟩, List.mem_of_getElem? (i := 335) (by decide +kernel), List.mem_of_getElem? (i := 985) (by decide +kernel), List.mem_of_getElem? (i := 986) (by decide +kernel)⟩
theorem lw_p12 : lw_okq (⟨"ShotListPlanner$BoardReader", "seeNumber", "(II)I"⟩, 7) := ⟨⟨by decide +kernel, by decide +kernel⟩, List.mem_of_getElem? (i := 335) (by decide +kernel), List.mem_of_getElem? (i := 989) (by decide +kernel), List.mem_of_getElem? (i := 990) (by decide +kernel)⟩
theorem lw_p13 : lw_okq (⟨"ShotListPlanner$BoardReader", "takeSemicolon", "()V"⟩, 7) := ⟨⟨by decide +kernel, by decide +kernel⟩, List.mem_of_getElem? (i := 335) (by decide +kernel), List.mem_of_getElem? (i := 993) (by decide +kernel), List.mem_of_getElem? (i := 994) (by decide +kernel)⟩
theorem lw_p14 : lw_okq (⟨"ShotListPlanner$BoardReader", "readStatement", "(LShotListPlanner$Board;)V"⟩, 7) := ⟨⟨by decide +kernel, by decide +kernel⟩, List.mem_of_getElem? (i := 335) (by decide +kernel), List.mem_of_getElem? (i := 997) (by decide +kernel), List.mem_of_getElem? (i := 998) (by decide +kernel)⟩
theorem lw_p15 : lw_okq (⟨"ShotListPlanner$BoardReader", "readScene", "(LShotListPlanner$Board;)V"⟩, 7) := ⟨⟨by decide +kernel, by decide +kernel⟩, List.mem_of_getElem? (i := 335) (by decide +kernel), List.mem_of_getElem? (i := 1002) (by decide +kernel), List.mem_of_getElem? (i := 1003) (by decide +kernel)⟩
def lw_privs_1 : List (MethodName × Nat) := [(⟨"java/util/ArrayList", "add", "(Ljava/lang/Object;[Ljava/lang/Object;I)V"⟩, 3), (⟨"java/util/ArrayList", "grow", "()[Ljava/lang/Object;"⟩, 3), (⟨"java/util/ArrayList", "grow", "(I)[Ljava/lang/Object;"⟩, 3), (⟨"java/lang/Throwable", "fillInStackTrace", "(I)Ljava/lang/Throwable;"⟩, 6), (⟨"ShotListPlanner", "putFourBytes", "(I)V"⟩, 14), (⟨"ShotListPlanner$BoardReader", "advance", "()V"⟩, 7), (⟨"ShotListPlanner$BoardReader", "scanNumber", "()V"⟩, 7), (⟨"ShotListPlanner$BoardReader", "scanKeyword", "()V"⟩, 7), (⟨"ShotListPlanner$BoardReader", "readLimits", "(LShotListPlanner$Board;)V"⟩, 7), (⟨"ShotListPlanner$BoardReader", "isKeyword", "(Ljava/lang/String;)Z"⟩, 7), (⟨"ShotListPlanner$BoardReader", "fail", "(I)V"⟩, 7), (⟨"ShotListPlanner$BoardReader", "takeNumber", "(II)I"⟩, 7), (⟨"ShotListPlanner$BoardReader", "seeNumber", "(II)I"⟩, 7), (⟨"ShotListPlanner$BoardReader", "takeSemicolon", "()V"⟩, 7), (⟨"ShotListPlanner$BoardReader", "readStatement", "(LShotListPlanner$Board;)V"⟩, 7), (⟨"ShotListPlanner$BoardReader", "readScene", "(LShotListPlanner$Board;)V"⟩, 7)]
theorem lw_r1 : ∀ q ∈ lw_privs_1, lw_okq q := List.forall_mem_cons.mpr ⟨lw_p0, List.forall_mem_cons.mpr ⟨lw_p1, List.forall_mem_cons.mpr ⟨lw_p2, List.forall_mem_cons.mpr ⟨lw_p3, List.forall_mem_cons.mpr ⟨lw_p4, List.forall_mem_cons.mpr ⟨lw_p5, List.forall_mem_cons.mpr ⟨lw_p6, List.forall_mem_cons.mpr ⟨lw_p7, List.forall_mem_cons.mpr ⟨lw_p8, List.forall_mem_cons.mpr ⟨lw_p9, List.forall_mem_cons.mpr ⟨lw_p10, List.forall_mem_cons.mpr ⟨lw_p11, List.forall_mem_cons.mpr ⟨lw_p12, List.forall_mem_cons.mpr ⟨lw_p13, List.forall_mem_cons.mpr ⟨lw_p14, List.forall_mem_cons.mpr ⟨lw_p15, fun _ h => absurd h List.not_mem_nil⟩⟩⟩⟩⟩⟩⟩⟩⟩⟩⟩⟩⟩⟩⟩⟩
theorem lw_p16 : lw_okq (⟨"ShotListPlanner$BoardReader", "readActor", "(LShotListPlanner$Board;)V"⟩, 7) := ⟨⟨by decide +kernel, by decide +kernel⟩, List.mem_of_getElem? (i := 335) (by decide +kernel), List.mem_of_getElem? (i := 1010) (by decide +kernel), List.mem_of_getElem? (i := 1011) (by decide +kernel)⟩
theorem lw_p17 : lw_okq (⟨"ShotListPlanner$BoardReader", "readShot", "(LShotListPlanner$Board;)V"⟩, 7) := ⟨⟨by decide +kernel, by decide +kernel⟩, List.mem_of_getElem? (i := 335) (by decide +kernel), List.mem_of_getElem? (i := 1026) (by decide +kernel), List.mem_of_getElem? (i := 1027) (by decide +kernel)⟩
theorem lw_p18 : lw_okq (⟨"ShotListPlanner$BoardReader", "readSubject", "(LShotListPlanner$Scene;LShotListPlanner$Shot;)V"⟩, 7) := ⟨⟨by decide +kernel, by decide +kernel⟩, List.mem_of_getElem? (i := 335) (by decide +kernel), List.mem_of_getElem? (i := 1030) (by decide +kernel), List.mem_of_getElem? (i := 1031) (by decide +kernel)⟩
theorem lw_p19 : lw_okq (⟨"ShotListPlanner$BoardReader", "seeActorOf", "(LShotListPlanner$Scene;)I"⟩, 7) := ⟨⟨by decide +kernel, by decide +kernel⟩, List.mem_of_getElem? (i := 335) (by decide +kernel), List.mem_of_getElem? (i := 1034) (by decide +kernel), List.mem_of_getElem? (i := 1035) (by decide +kernel)⟩
theorem lw_p20 : lw_okq (⟨"ShotListPlanner$BoardReader", "readPartner", "(LShotListPlanner$Scene;LShotListPlanner$Shot;)V"⟩, 7) := ⟨⟨by decide +kernel, by decide +kernel⟩, List.mem_of_getElem? (i := 335) (by decide +kernel), List.mem_of_getElem? (i := 1042) (by decide +kernel), List.mem_of_getElem? (i := 1043) (by decide +kernel)⟩
theorem lw_p21 : lw_okq (⟨"ShotListPlanner", "forgetAnswers", "()V"⟩, 14) := ⟨⟨by decide +kernel, by decide +kernel⟩, List.mem_of_getElem? (i := 190) (by decide +kernel), List.mem_of_getElem? (i := 1068) (by decide +kernel), List.mem_of_getElem? (i := 1069) (by decide +kernel)⟩
theorem lw_p22 : lw_okq (⟨"ShotListPlanner", "needBoard", "()V"⟩, 14) := ⟨⟨by decide +kernel, by decide +kernel⟩, List.mem_of_getElem? (i := 190) (by decide +kernel), List.mem_of_getElem? (i := 1096) (by decide +kernel), List.mem_of_getElem? (i := 1097) (by decide +kernel)⟩
theorem lw_p23 : lw_okq (⟨"ShotListPlanner", "beginAction", "()V"⟩, 14) := ⟨⟨by decide +kernel, by decide +kernel⟩, List.mem_of_getElem? (i := 190) (by decide +kernel), List.mem_of_getElem? (i := 1105) (by decide +kernel), List.mem_of_getElem? (i := 1106) (by decide +kernel)⟩
theorem lw_p24 : lw_okq (⟨"ShotListPlanner", "settleSetups", "()V"⟩, 14) := ⟨⟨by decide +kernel, by decide +kernel⟩, List.mem_of_getElem? (i := 190) (by decide +kernel), List.mem_of_getElem? (i := 1115) (by decide +kernel), List.mem_of_getElem? (i := 1116) (by decide +kernel)⟩
theorem lw_p25 : lw_okq (⟨"ShotListPlanner", "needScene", "(I)V"⟩, 14) := ⟨⟨by decide +kernel, by decide +kernel⟩, List.mem_of_getElem? (i := 190) (by decide +kernel), List.mem_of_getElem? (i := 1216) (by decide +kernel), List.mem_of_getElem? (i := 1217) (by decide +kernel)⟩
theorem lw_p26 : lw_okq (⟨"ShotListPlanner", "needShot", "(I)V"⟩, 14) := ⟨⟨by decide +kernel, by decide +kernel⟩, List.mem_of_getElem? (i := 190) (by decide +kernel), List.mem_of_getElem? (i := 1316) (by decide +kernel), List.mem_of_getElem? (i := 1317) (by decide +kernel)⟩
theorem lw_p27 : lw_okq (⟨"java/util/ArrayList", "fastRemove", "([Ljava/lang/Object;I)V"⟩, 3) := ⟨⟨by decide +kernel, by decide +kernel⟩, List.mem_of_getElem? (i := 53) (by decide +kernel), List.mem_of_getElem? (i := 1360) (by decide +kernel), List.mem_of_getElem? (i := 1361) (by decide +kernel)⟩
theorem lw_p28 : lw_okq (⟨"java/util/ArrayList", "rangeCheckForAdd", "(I)V"⟩, 3) := ⟨⟨by decide +kernel, by decide +kernel⟩, List.mem_of_getElem? (i := 53) (by decide +kernel), List.mem_of_getElem? (i := 1369) (by decide +kernel), List.mem_of_getElem? (i := 1370) (by decide +kernel)⟩
theorem lw_p29 : lw_okq (⟨"ShotListPlanner", "obstacleToFlip", "(LShotListPlanner$Shot;)I"⟩, 14) := ⟨⟨by decide +kernel, by decide +kernel⟩, List.mem_of_getElem? (i := 190) (by decide +kernel), List.mem_of_getElem? (i := 1384) (by decide +kernel), List.mem_of_getElem? (i := 1385) (by decide +kernel)⟩
theorem lw_p30 : lw_okq (⟨"ShotListPlanner", "turnOver", "(LShotListPlanner$Shot;)V"⟩, 14) := ⟨⟨by decide +kernel, by decide +kernel⟩, List.mem_of_getElem? (i := 190) (by decide +kernel), List.mem_of_getElem? (i := 1396) (by decide +kernel), List.mem_of_getElem? (i := 1397) (by decide +kernel)⟩
theorem lw_p31 : lw_okq (⟨"ShotListPlanner", "propertyOfFault", "(III)I"⟩, 14) := ⟨⟨by decide +kernel, by decide +kernel⟩, List.mem_of_getElem? (i := 190) (by decide +kernel), List.mem_of_getElem? (i := 1528) (by decide +kernel), List.mem_of_getElem? (i := 1529) (by decide +kernel)⟩
def lw_privs_2 : List (MethodName × Nat) := [(⟨"ShotListPlanner$BoardReader", "readActor", "(LShotListPlanner$Board;)V"⟩, 7), (⟨"ShotListPlanner$BoardReader", "readShot", "(LShotListPlanner$Board;)V"⟩, 7), (⟨"ShotListPlanner$BoardReader", "readSubject", "(LShotListPlanner$Scene;LShotListPlanner$Shot;)V"⟩, 7), (⟨"ShotListPlanner$BoardReader", "seeActorOf", "(LShotListPlanner$Scene;)I"⟩, 7), (⟨"ShotListPlanner$BoardReader", "readPartner", "(LShotListPlanner$Scene;LShotListPlanner$Shot;)V"⟩, 7), (⟨"ShotListPlanner", "forgetAnswers", "()V"⟩, 14), (⟨"ShotListPlanner", "needBoard", "()V"⟩, 14), (⟨"ShotListPlanner", "beginAction", "()V"⟩, 14), (⟨"ShotListPlanner", "settleSetups", "()V"⟩, 14), (⟨"ShotListPlanner", "needScene", "(I)V"⟩, 14), (⟨"ShotListPlanner", "needShot", "(I)V"⟩, 14), (⟨"java/util/ArrayList", "fastRemove", "([Ljava/lang/Object;I)V"⟩, 3), (⟨"java/util/ArrayList", "rangeCheckForAdd", "(I)V"⟩, 3), (⟨"ShotListPlanner", "obstacleToFlip", "(LShotListPlanner$Shot;)I"⟩, 14), (⟨"ShotListPlanner", "turnOver", "(LShotListPlanner$Shot;)V"⟩, 14), (⟨"ShotListPlanner", "propertyOfFault", "(III)I"⟩, 14)]
theorem lw_r2 : ∀ q ∈ lw_privs_2, lw_okq q := List.forall_mem_cons.mpr ⟨lw_p16, List.forall_mem_cons.mpr ⟨lw_p17, List.forall_mem_cons.mpr ⟨lw_p18, List.forall_mem_cons.mpr ⟨lw_p19, List.forall_mem_cons.mpr ⟨lw_p20, List.forall_mem_cons.mpr ⟨lw_p21, List.forall_mem_cons.mpr ⟨lw_p22, List.forall_mem_cons.mpr ⟨lw_p23, List.forall_mem_cons.mpr ⟨lw_p24, List.forall_mem_cons.mpr ⟨lw_p25, List.forall_mem_cons.mpr ⟨lw_p26, List.forall_mem_cons.mpr ⟨lw_p27, List.forall_mem_cons.mpr ⟨lw_p28, List.forall_mem_cons.mpr ⟨lw_p29, List.forall_mem_cons.mpr ⟨lw_p30, List.forall_mem_cons.mpr ⟨lw_p31, fun _ h => absurd h List.not_mem_nil⟩⟩⟩⟩⟩⟩⟩⟩⟩⟩⟩⟩⟩⟩⟩⟩
theorem lw_p32 : lw_okq (⟨"ShotListPlanner", "needSetup", "(I)V"⟩, 14) := ⟨⟨by decide +kernel, by decide +kernel⟩, List.mem_of_getElem? (i := 190) (by decide +kernel), List.mem_of_getElem? (i := 1556) (by decide +kernel), List.mem_of_getElem? (i := 1557) (by decide +kernel)⟩
def lw_privs_3 : List (MethodName × Nat) := [(⟨"ShotListPlanner", "needSetup", "(I)V"⟩, 14)]
theorem lw_r3 : ∀ q ∈ lw_privs_3, lw_okq q := List.forall_mem_cons.mpr ⟨lw_p32, fun _ h => absurd h List.not_mem_nil⟩
def lw_privs : List (MethodName × Nat) := lw_privs_1 ++ (lw_privs_2 ++ (lw_privs_3))
def lw_tbl : List Cond := k2_sels lw_privs ++ tables_1
theorem lw_privs_ok : ∀ q ∈ lw_privs, lw_okq q := by
  show ∀ q ∈ lw_privs_1 ++ (lw_privs_2 ++ (lw_privs_3)), lw_okq q
  exact List.forall_mem_append.mpr ⟨lw_r1, List.forall_mem_append.mpr ⟨lw_r2, lw_r3⟩⟩

/-! ===== BEGIN words of one list among another's, by their places ===== -/
theorem goodIn_r {big : List Cond} (ws : List Cond) (ps : List Nat) (hp : ws = ps.filterMap (fun i => big[i]?)) (h : ws.all goodWord = true) : GoodIn big ws := by
  intro w hw
  have h1 := List.all_eq_true.mp h w hw
  rw [hp] at hw
  obtain ⟨i, -, hi⟩ := List.mem_filterMap.mp hw
  have hm : w ∈ big := by first | exact List.mem_of_getElem? hi | exact List.getElem?_mem hi
  exact ⟨hm, good_of_word h1⟩
theorem goodIn_app {big a b : List Cond} (ha : GoodIn big a) (hb : GoodIn big b) : GoodIn big (a ++ b) := fun w h => (List.mem_append.mp h).elim (ha w) (hb w)
theorem goodIn_ca {big a b : List Cond} {c : Cond} (ha : GoodIn big (c :: a)) (hb : GoodIn big b) : GoodIn big (c :: (a ++ b)) := fun w h => (List.mem_cons.mp h).elim (fun e => ha w (List.mem_cons.mpr (Or.inl e))) (fun h => (List.mem_append.mp h).elim (fun h => ha w (List.mem_cons.mpr (Or.inr h))) (hb w))
theorem goodIn_sub {big ws : List Cond} (hm : ∀ w ∈ ws, w ∈ big) (h : ws.all goodWord = true) : GoodIn big ws := fun w hw => ⟨hm w hw, good_of_word (List.all_eq_true.mp h w hw)⟩
/-! ===== END ===== -/

/-- the arrays over arrays are there -/
def va_AOA (ty : FieldType) (U : State) : Prop := (Cond.arrayOver (.array ty)).before #[] U = true
theorem va_AOA.use {ty : FieldType} {A : Array Value} {U : State} (h : va_AOA ty U) : (Cond.arrayOver (.array ty)).before A U = true := h


/-! ===== BEGIN exceptions that leave a method, and their catching by the caller (launches without stack traces) ===== -/
section VXA
/-! The laws vx_back, vx_callV, vx_callS, vx_callSW, vx_throw0, vx_throwS follow proofs of the library, with one case more: JvmDerived/Free/Laws.lean (Back.of_free), Shelf42/LK1.lean (callV, callS), Shelf/KitTraced.lean (throwNew0V, throwNewS). -/
/-- where a method has thrown q: the class by its name, the cell, what was written, the world -/
def vx_T (XC : String → State → State → Prop) (st : State) (q : Addr) (t : State) (mc ms : Nat) (free : Addr → Prop) : Prop :=
  ∃ (E : String) (ce : Cell) (L : List Loc), XC E st t ∧ t.heap[q]? = some ce ∧ ce.vm = .none ∧ st.vm.findClass E = some ce.cls ∧ st.WarmedH t.vm ∧ st.sameButNew ({ t with vm := st.vm } : State) L mc ms ∧ ∀ z ∈ L, free z.base
def vx_Q (Qc : Array Value → State → Outcome → State → Prop) (XC : String → State → State → Prop) (mc ms : Nat) (free : Addr → Prop) : Array Value → State → Outcome → State → Prop := fun a st o t =>
  (Qc a st o t ∧ ∃ L, FrameEnd st o t L mc ms ∧ ∀ q ∈ L, free q.base) ∨ ∃ q, o = .threw q ∧ vx_T XC st q t mc ms free
/-- a callee that returns or throws -/
def vx_Met (l : Launch) (y : MethodName) (ws : List Cond) (rm : Room) (Pc : Array Value → State → Prop) (Qc : Array Value → State → Outcome → State → Prop) (XC : String → State → State → Prop) (mc ms : Nat) (free : Addr → Prop) : Prop :=
  MetFree l y (headSpec ws rm) Pc (fun _ _ _ _ _ => True) (vx_Q Qc XC mc ms free)
def vx_Post (XC : String → State → State → Prop) (mc ms : Nat) (free : Addr → Prop) : Pt → Array Value → Addr → Pt → Prop := fun A a q B =>
  ∃ (g : JFrame) (mk : MethodId) (t : State) (L : List Loc) (E : String) (ce : Cell), B.U.heap = t.heap ∧ B.U.vm = t.vm ∧ XC E (A.U.calling g mk a) t ∧ t.heap[q]? = some ce ∧ ce.vm = .none ∧ A.U.vm.findClass E = some ce.cls ∧ B.locs = A.locs ++ L ∧ (∀ z ∈ L, free z.base) ∧ B.cells = A.cells + mc ∧ B.slots = A.slots + ms
def vx_Back (l : Launch) (R : Room) (p : Program) (e : Env) (below : List Frame) (s : State) (sargs : Array Value) (y : MethodName) (len W9 : Nat)
    (Pre : Pt → Array Value → Prop) (Post : Pt → Array Value → Option Value → Pt → Prop) (PostX : Pt → Array Value → Addr → Pt → Prop) : Prop :=
  ∀ (m : MethodId) (meth : Method) (c : Code) (A : Pt) (g : JFrame) (ig : Instr) (mk : MethodId) (a : Array Value),
    Stand p l e R s m sargs below meth c A.U A.locs A.cells A.slots → g.method = m → g.locals.size = c.maxLocals → decode c.code g.pc = .ok (ig, len) →
    2 * g.monitorRoom + (g.stack.map fun v => v.category).sum ≤ W9 → A.U.methodNamed? y = some mk → Pre A a →
    (∃ (v : Option Value) (B : Pt), Stand p l e R s m sargs below meth c B.U B.locs B.cells B.slots ∧ Post A a v B ∧
      Steps p.tables e below (doInvoke e (A.U.setTop g) [] mk a).1 (B.U.setTop { g with pc := g.pc + len, stack := v.toList ++ g.stack })) ∨
    (∃ (q : Addr) (B : Pt), Stand p l e R s m sargs below meth c B.U B.locs B.cells B.slots ∧ PostX A a q B ∧
      Steps p.tables e below (doInvoke e (A.U.setTop g) [] mk a).1 ((B.U.setTop g).pushFrame (.throwing q)))
section Payer
variable {l : Launch} {R : Room} {p : Program} {e : Env} {below : List Frame} {s : State} {sargs : Array Value} {y : MethodName} {len W9 : Nat}
theorem vx_back {ws : List Cond} {rm : Room} {Pc : Array Value → State → Prop} {Qc : Array Value → State → Outcome → State → Prop} {XC : String → State → State → Prop} {mc ms : Nat} {free : Addr → Prop} {bytes : ByteArray} {maxL : Nat} {ret : Option FieldType}
    (hM : vx_Met l y ws rm Pc Qc XC mc ms free) (hblind : FrameBlind Pc) (hrc : rm.cells = mc) (hrs : rm.slots = ms)
    (hframes : rm.frames + 1 ≤ R.frames) (hlocals : W9 + (maxL + 11) + rm.locals ≤ R.locals)
    (hws : ∀ w ∈ ws, ∀ a' U, s.WarmedH U.vm → w.before a' U = true) (hcode : Cond.code y bytes maxL ret ∈ ws) (hinit : ∀ a' U, s.WarmedH U.vm → (Cond.initialized y.cls).before a' U = true) :
    vx_Back l R p e below s sargs y len W9 (PreOf R mc ms Pc) (PostOf Qc mc ms free) (vx_Post XC mc ms free) := by
  intro m meth c A g ig mk a X hg hsize hdg hW hn hp
  have h1 : (headSpec ws rm).pre.before a A.U = true := atoms_intro fun w hw => hws w hw _ _ X.warmed
  have h2 : (Cond.code y bytes maxL ret).before a A.U = true := hws _ hcode _ _ X.warmed
  have h3 : (Cond.initialized y.cls).before a A.U = true := hinit _ _ X.warmed
  have h4 : A.cells + (headSpec ws rm).room.cells ≤ R.cells := by rw [show (headSpec ws rm).room.cells = mc from hrc]; exact hp.1
  have h5 : A.slots + (headSpec ws rm).room.slots ≤ R.slots := by rw [show (headSpec ws rm).room.slots = ms from hrs]; exact hp.2.1
  have hPc : Pc a (A.U.calling g mk a) := hblind _ _ _ _ hp.2.2
  obtain ⟨U, Ls, c0, s0⟩ := A
  dsimp only [Pt.U, Pt.locs, Pt.cells, Pt.slots] at h1 h2 h3 h4 h5 X hn hPc ⊢
  obtain ⟨methY, cY, hmY, hcY, -, hlY, -, -, -, -⟩ := Cond.code_spec hn h2
  obtain ⟨kY, hkY, -⟩ := className_of_methodNamed hn
  have hinitY : kY.init = .initialized := Cond.initialized_spec (findClass_of_methodNamed hn) hkY h3
  have h : At U g.method c below := by rw [hg]; exact X.here
  have hlocals9 : W9 + (maxL + 11) + (headSpec ws rm).room.locals ≤ R.locals := hlocals
  have happ : (headSpec ws rm).appliesLoose y e.platform (U.calling g mk a) = true :=
    Spec.appliesLoose_calling (g := g) h hdg hn hkY hinitY
      (X.room_calling (g := g) (R' := (headSpec ws rm).room) hsize hmY hcY hframes (by rw [hlY]; omega) h4 h5) h1
  obtain ⟨mid, hmid⟩ := h.above
  have hfr : (U.setTop g).frames = (.java g :: mid) ++ below := by rw [State.frames_setTop' g h.top, hmid]; rfl
  obtain ⟨o, s₂, hsteps, -, hend, hq⟩ := Steps.callFree hM p X.admits X.cas X.clock (acts := []) hfr happ hPc trivial
  have hq' : vx_Q Qc XC mc ms free a (U.calling g mk a) o s₂ := hq
  rw [State.frames_setTop' g h.top] at hend
  obtain ⟨g₀, hg0⟩ := Option.isSome_iff_exists.mp h.top
  obtain ⟨r, hr⟩ := State.topJava?_eq_some.mp hg0
  have hr' : (({ U with heap := s₂.heap, slotsUsed := s₂.slotsUsed } : State).setVm s₂.vm).frames = .java g₀ :: r := hr
  rcases hq' with ⟨hqc, L, hfe, hL⟩ | ⟨q, rfl, E, ce, L, hx, hce, hcv, hcl, hW₂, hsm, hL⟩
  · obtain ⟨⟨v, rfl⟩, hW₂, e2, q2, q3, q4, q5, q6⟩ := id hfe
    have e3 : s₂ = ({ (U.calling g mk a).setFrames s₂.frames with heap := s₂.heap, slotsUsed := s₂.slotsUsed } : State).setVm s₂.vm := by
      have : s₂ = ({ s₂ with vm := (U.calling g mk a).vm } : State).setVm s₂.vm := rfl
      rw [e2] at this
      exact this
    obtain ⟨c₂, i₂, len₂, hc₂, hd₂, hf₂⟩ := hend
    have hW' : U.WarmedH s₂.vm := hW₂
    have hcc : c₂ = c := by
      have h1 : s₂.code? g.method = U.code? g.method := by
        rw [State.code?_eq, State.code?_eq, hW'.alike.method?]
      exact Option.some.inj (hc₂.symm.trans (h1.trans h.code))
    subst hcc
    have hlen : len₂ = len := by rw [hdg] at hd₂; cases hd₂; rfl
    subst hlen
    have hs₂ : s₂ = (({ U with heap := s₂.heap, slotsUsed := s₂.slotsUsed } : State).setVm s₂.vm).setTop { g with pc := g.pc + len₂, stack := v.toList ++ g.stack } := by
      refine e3.trans ?_
      rw [hf₂, State.calling_eq h.top, State.setFrames_setFrames, State.setTop_of_frames _ hr', hr]
      rfl
    have hsame : U.sameButNew ({ U with heap := s₂.heap, slotsUsed := s₂.slotsUsed } : State) L mc ms := by
      refine ⟨?_, q2, q3, q4, q5, q6⟩
      obtain ⟨t, ht, -⟩ := State.frames_cons hr
      show ({ U with heap := s₂.heap, slotsUsed := s₂.slotsUsed } : State) = { U.setFrames U.frames with heap := s₂.heap, slotsUsed := s₂.slotsUsed }
      rw [State.setFrames_self ht]
    subst hg
    refine Or.inl ⟨v, ⟨(({ U with heap := s₂.heap, slotsUsed := s₂.slotsUsed } : State).setVm s₂.vm), Ls ++ L, c0 + mc, s0 + ms⟩,
      ⟨X.admits, X.cas, X.clock, X.frames, X.room, X.hears, X.method, X.code, (X.here.setHeapUsed s₂.heap s₂.slotsUsed).setVm hW'.alike, X.tail, State.WarmedH.trans X.warmed hW', X.limits, X.bytes, X.same.trans (hsame.setVm s.vm)⟩,
      ⟨g, mk, s₂, L, rfl, rfl, hqc, rfl, hL, rfl, rfl⟩, ?_⟩
    show Steps p.tables e below _ ((({ U with heap := s₂.heap, slotsUsed := s₂.slotsUsed } : State).setVm s₂.vm).setTop { g with pc := g.pc + len₂, stack := v.toList ++ g.stack })
    rw [← hs₂]
    exact hsteps
  · obtain ⟨e2, q2, q3, q4, q5, q6⟩ := id hsm
    have e3 : s₂ = ({ (U.calling g mk a).setFrames s₂.frames with heap := s₂.heap, slotsUsed := s₂.slotsUsed } : State).setVm s₂.vm := by
      have : s₂ = ({ s₂ with vm := (U.calling g mk a).vm } : State).setVm s₂.vm := rfl
      rw [e2] at this
      exact this
    have hf₂ : s₂.frames = .throwing q :: .java g :: U.frames.tail := hend
    have hW' : U.WarmedH s₂.vm := hW₂
    have hs₂ : s₂ = ((({ U with heap := s₂.heap, slotsUsed := s₂.slotsUsed } : State).setVm s₂.vm).setTop g).pushFrame (.throwing q) := by
      refine e3.trans ?_
      rw [hf₂, State.calling_eq h.top, State.setFrames_setFrames, State.pushFrame, State.frames_setTop _ hr', State.setTop_of_frames _ hr', State.setFrames_setFrames, hr]
      rfl
    have hsame : U.sameButNew ({ U with heap := s₂.heap, slotsUsed := s₂.slotsUsed } : State) L mc ms := by
      refine ⟨?_, q2, q3, q4, q5, q6⟩
      obtain ⟨t, ht, -⟩ := State.frames_cons hr
      show ({ U with heap := s₂.heap, slotsUsed := s₂.slotsUsed } : State) = { U.setFrames U.frames with heap := s₂.heap, slotsUsed := s₂.slotsUsed }
      rw [State.setFrames_self ht]
    subst hg
    refine Or.inr ⟨q, ⟨(({ U with heap := s₂.heap, slotsUsed := s₂.slotsUsed } : State).setVm s₂.vm), Ls ++ L, c0 + mc, s0 + ms⟩,
      ⟨X.admits, X.cas, X.clock, X.frames, X.room, X.hears, X.method, X.code, (X.here.setHeapUsed s₂.heap s₂.slotsUsed).setVm hW'.alike, X.tail, State.WarmedH.trans X.warmed hW', X.limits, X.bytes, X.same.trans (hsame.setVm s.vm)⟩,
      ⟨g, mk, s₂, L, E, ce, rfl, rfl, hx, hce, hcv, hcl, rfl, hL, rfl, rfl⟩, ?_⟩
    show Steps p.tables e below _ (((({ U with heap := s₂.heap, slotsUsed := s₂.slotsUsed } : State).setVm s₂.vm).setTop g).pushFrame (.throwing q))
    rw [← hs₂]
    exact hsteps
end Payer
section Calls
variable {p : Program} {l : Launch} {e : Env} {R : Room} {s : State} {m : MethodId} {args : Array Value} {below : List Frame} {meth : Method} {c : Code} {T : State} {locs : List Loc} {cells slots : Nat}
theorem vx_callV (X : Stand p l e R s m args below meth c T locs cells slots) (hexec : p.tables.exec = Jvm.exec) {own C : String} {index : Nat} {y : MethodName} {bytes : ByteArray} {maxL : Nat} {ret : Option FieldType}
    (hown : s.vm.findClass own = some m.cls) (hlink : (Cond.methodLink own index y).before args s = true) (hinst : (Cond.instanceMethod y).before args s = true) (hsel : (Cond.selects C y y).before args s = true)
    (hcode : (Cond.code y bytes maxL ret).before args s = true) (hy : y.cls ≠ "java/lang/invoke/MethodHandle" ∧ y.cls ≠ "java/lang/invoke/VarHandle")
    {W9 : Nat} {Pre : Pt → Array Value → Prop} {Post : Pt → Array Value → Option Value → Pt → Prop} {PostX : Pt → Array Value → Addr → Pt → Prop} (hK : vx_Back l R p e below s args y 3 W9 Pre Post PostX)
    {b : Addr} {cellB : Cell} (hcell : T.heap[b]? = some cellB) (hobj : cellB.vm.isStatics = false) (hcls : s.vm.findClass C = some cellB.cls)
    {g : JFrame} (hg : g.method = m) (hsize : g.locals.size = c.maxLocals) {argsL rest : List Value} (hlen : ∀ sig, parseMethodDescriptor y.desc = some sig → argsL.length = sig.parameters.length)
    (hstack : g.stack = argsL.reverse ++ .ref b :: rest) (hW : 2 * g.monitorRoom + (rest.map fun v => v.category).sum ≤ W9) (hdg : decode c.code g.pc = .ok (.invokevirtual index, 3))
    (hpre : ∀ vm₁, s.WarmedH vm₁ → Pre ⟨T.setVm vm₁, locs, cells, slots⟩ (Value.ref b :: argsL).toArray) :
    (∃ (v : Option Value) (vm₁ : Vm) (B : Pt), s.WarmedH vm₁ ∧ Stand p l e R s m args below meth c B.U B.locs B.cells B.slots ∧ Post ⟨T.setVm vm₁, locs, cells, slots⟩ (Value.ref b :: argsL).toArray v B ∧
      ∀ target, Steps p.tables e below (B.U.setTop { g with pc := g.pc + 3, stack := v.toList ++ rest }) target → Steps p.tables e below (T.setTop g) target) ∨
    (∃ (q : Addr) (vm₁ : Vm) (B : Pt), s.WarmedH vm₁ ∧ Stand p l e R s m args below meth c B.U B.locs B.cells B.slots ∧ PostX ⟨T.setVm vm₁, locs, cells, slots⟩ (Value.ref b :: argsL).toArray q B ∧
      Steps p.tables e below (T.setTop g) ((B.U.setTop { g with stack := rest }).pushFrame (.throwing q))) := by
  obtain ⟨mk, methM, hnamed, hmethM, hstM, habM⟩ := Cond.instanceMethod_spec hinst
  obtain ⟨methM', cM, hmethM', -, -, -, -, -, -, hsigM⟩ := Cond.code_spec hnamed hcode
  cases hmethM.symm.trans hmethM'
  obtain ⟨c2, r2, m2, q1, q2, q3, q4, kP, hkP, hkPi⟩ := Cond.selects_spec hsel
  cases hcls.symm.trans q1
  cases (State.methodFound?_of_named hnamed hy).symm.trans q2
  cases hnamed.symm.trans q3
  have hselP : selectMethod e.platform s.vm cellB.cls mk = .method mk := by rw [Launch.admits_selectMethod X.admits]; exact q4
  obtain ⟨vm₁, X₁, hstep₁⟩ := X.invokevirtual hexec hown hlink hnamed hmethM hstM hkP hkPi hy (a := b) (cell := cellB) hcell
    (fun z h => by rw [h] at hobj; cases hobj) hselP hmethM habM hkP hkPi (g := g) hg (argsL := argsL) (rest := rest) (hlen _ hsigM) hstack hdg
  rcases hK m meth c ⟨T.setVm vm₁, locs, cells, slots⟩ { g with stack := rest } (.invokevirtual index) mk (Value.ref b :: argsL).toArray X₁ hg hsize hdg hW (X₁.named hnamed) (hpre vm₁ X₁.warmed) with ⟨v, B, X', hpost, hsteps⟩ | ⟨q, B, X', hpost, hsteps⟩
  · exact Or.inl ⟨v, vm₁, B, X₁.warmed, X', hpost, fun target h => hstep₁ _ fun acts => by rw [doInvoke_state]; exact hsteps.trans h⟩
  · exact Or.inr ⟨q, vm₁, B, X₁.warmed, X', hpost, hstep₁ _ fun acts => by rw [doInvoke_state]; exact hsteps⟩
theorem vx_callS (X : Stand p l e R s m args below meth c T locs cells slots) (hexec : p.tables.exec = Jvm.exec) {own : String} {index : Nat} {y : MethodName} {bytes : ByteArray} {maxL : Nat} {ret : Option FieldType}
    (hown : s.vm.findClass own = some m.cls) (hlink : (Cond.methodLink own index y).before args s = true) (hstat : (Cond.static y).before args s = true) (hinit : (Cond.initialized y.cls).before args s = true)
    (hcode : (Cond.code y bytes maxL ret).before args s = true) (hy : y.cls ≠ "java/lang/invoke/MethodHandle" ∧ y.cls ≠ "java/lang/invoke/VarHandle")
    {W9 : Nat} {Pre : Pt → Array Value → Prop} {Post : Pt → Array Value → Option Value → Pt → Prop} {PostX : Pt → Array Value → Addr → Pt → Prop} (hK : vx_Back l R p e below s args y 3 W9 Pre Post PostX)
    {g : JFrame} (hg : g.method = m) (hsize : g.locals.size = c.maxLocals) {argsL rest : List Value} (hlen : ∀ sig, parseMethodDescriptor y.desc = some sig → argsL.length = sig.parameters.length)
    (hstack : g.stack = argsL.reverse ++ rest) (hW : 2 * g.monitorRoom + (rest.map fun v => v.category).sum ≤ W9) (hdg : decode c.code g.pc = .ok (.invokestatic index, 3))
    (hpre : ∀ vm₁, s.WarmedH vm₁ → Pre ⟨T.setVm vm₁, locs, cells, slots⟩ argsL.toArray) :
    (∃ (v : Option Value) (vm₁ : Vm) (B : Pt), s.WarmedH vm₁ ∧ Stand p l e R s m args below meth c B.U B.locs B.cells B.slots ∧ Post ⟨T.setVm vm₁, locs, cells, slots⟩ argsL.toArray v B ∧
      ∀ target, Steps p.tables e below (B.U.setTop { g with pc := g.pc + 3, stack := v.toList ++ rest }) target → Steps p.tables e below (T.setTop g) target) ∨
    (∃ (q : Addr) (vm₁ : Vm) (B : Pt), s.WarmedH vm₁ ∧ Stand p l e R s m args below meth c B.U B.locs B.cells B.slots ∧ PostX ⟨T.setVm vm₁, locs, cells, slots⟩ argsL.toArray q B ∧
      Steps p.tables e below (T.setTop g) ((B.U.setTop { g with stack := rest }).pushFrame (.throwing q))) := by
  obtain ⟨mk, hnamed⟩ := Cond.code_named hcode
  obtain ⟨methM, cM, hmethM, -, -, -, -, -, -, hsigM⟩ := Cond.code_spec hnamed hcode
  have hstatic : methM.isStatic = true := Cond.static_spec hnamed hmethM hstat
  obtain ⟨kP, hkP, -⟩ := className_of_methodNamed hnamed
  have hinitP : kP.init = .initialized := Cond.initialized_spec (findClass_of_methodNamed hnamed) hkP hinit
  obtain ⟨vm₁, X₁, hstep₁⟩ := X.invokestatic hexec hown hlink hnamed hmethM hstatic hkP hinitP hy (g := g) hg (argsL := argsL) (rest := rest) (hlen _ hsigM) hstack hdg
  rcases hK m meth c ⟨T.setVm vm₁, locs, cells, slots⟩ { g with stack := rest } (.invokestatic index) mk argsL.toArray X₁ hg hsize hdg hW (X₁.named hnamed) (hpre vm₁ X₁.warmed) with ⟨v, B, X', hpost, hsteps⟩ | ⟨q, B, X', hpost, hsteps⟩
  · exact Or.inl ⟨v, vm₁, B, X₁.warmed, X', hpost, fun target h => hstep₁ _ fun acts => by rw [doInvoke_state]; exact hsteps.trans h⟩
  · exact Or.inr ⟨q, vm₁, B, X₁.warmed, X', hpost, hstep₁ _ fun acts => by rw [doInvoke_state]; exact hsteps⟩
end Calls
theorem vx_cls {s : State} {T : State} {vm₁ : Vm} {E : String} {k : ClassId} (hW : s.WarmedH vm₁) (h : (T.setVm vm₁).vm.findClass E = some k) : s.vm.findClass E = some k := by
  have h1 : vm₁.findClass E = some k := h
  rw [hW.alike.findClass] at h1
  exact h1
/-- the method's frame g, with q thrown over it -/
def vx_W (p : Program) (l : Launch) (e : Env) (R : Room) (s : State) (m : MethodId) (args : Array Value) (below : List Frame) (meth : Method) (c : Code) (H : Heap) (locs : List Loc) (cells slots : Nat) (Q : State → Prop) (g : JFrame) (q : Addr) : Prop :=
  ∀ T : State, T.heap = H → Stand p l e R s m args below meth c T locs cells slots → ∃ t, Steps p.tables e below ((T.setTop g).pushFrame (.throwing q)) t ∧ Q t
def vx_Run (p : Program) (l : Launch) (e : Env) (R : Room) (s : State) (m : MethodId) (args : Array Value) (below : List Frame) (meth : Method) (c : Code) (H : Heap) (locs : List Loc) (cells slots mc ms : Nat) (g : JFrame) (rest : List Value) (Qa : State → Outcome → State → Prop) (XC : String → State → State → Prop) (free : Addr → Prop) : Prop :=
  ∀ T : State, T.heap = H → Stand p l e R s m args below meth c T locs cells slots →
    (∃ (v : Option Value) (st₀ t T' : State) (L : List Loc), st₀.heap = H ∧ Stand p l e R s m args below meth c T' (locs ++ L) (cells + mc) (slots + ms) ∧ (∀ q ∈ L, free q.base) ∧ T'.heap = t.heap ∧ T'.vm = t.vm ∧ Qa st₀ (.returned v) t ∧
      Goes p e below T g T' { g with pc := g.pc + 3, stack := v.toList ++ rest }) ∨
    (∃ (q : Addr) (st₀ t T' : State) (L : List Loc) (E : String) (ce : Cell), st₀.heap = H ∧ Stand p l e R s m args below meth c T' (locs ++ L) (cells + mc) (slots + ms) ∧ (∀ z ∈ L, free z.base) ∧ T'.heap = t.heap ∧ T'.vm = t.vm ∧ XC E st₀ t ∧ t.heap[q]? = some ce ∧ ce.vm = .none ∧ s.vm.findClass E = some ce.cls ∧
      Steps p.tables e below (T.setTop g) ((T'.setTop { g with stack := rest }).pushFrame (.throwing q)))
def vx_X {S : Type} (px : S → Prop) (B : String → S → State → Prop) (A : Nat → Prop) : String → State → State → Prop := fun E st t => ∃ u : S, px u ∧ B E u t ∧ va_F A st t
section Runs
variable {p : Program} {l : Launch} {e : Env} {R : Room} {s : State} {m : MethodId} {args : Array Value} {below : List Frame} {meth : Method} {c : Code} {H : Heap} {locs : List Loc} {cells slots : Nat}
variable {y : MethodName} {bytes cc : ByteArray} {maxL nL mc ms n index : Nat} {ret : Option FieldType} {ws : List Cond} {rm : Room} {Pc : Array Value → State → Prop} {Qc : Array Value → State → Outcome → State → Prop} {XC : String → State → State → Prop} {free : Addr → Prop} {Ts : List Cond} {own C : String} {b : Addr} {As rest : List Value} {g : JFrame}
theorem vx_callBack (cb : CallB R s args own index y bytes maxL ret ws rm mc ms n) (hM : vx_Met l y ws rm Pc Qc XC mc ms free) (hbl : FrameBlind Pc) : vx_Back l R p e below s args y 3 8 (PreOf R mc ms Pc) (PostOf Qc mc ms free) (vx_Post XC mc ms free) := by
  obtain ⟨hrc, hrs, hfr, hlo, hws, hcw, -, hini, -⟩ := cb
  exact vx_back (bytes := bytes) (maxL := maxL) (ret := ret) hM hbl hrc hrs hfr hlo hws hcw (fun a' U hW => word_at hW (Or.inl (by first | rfl | simp [Cond.onTables, Cond.keeps, Cond.steady])) hini)
theorem vx_runV (S : CallFix p m c cc nL s args Ts own) (hM : vx_Met l y ws rm Pc Qc XC mc ms free) (cw : CallW R s args own C index y bytes maxL ret ws rm mc ms n) (hp : PreV s H C b Pc As)
    (hg : g.method = m) (hn : As.length = n) (hsize : g.locals.size = nL) (hstack : g.stack = As.reverse ++ .ref b :: rest) (hW : 2 * g.monitorRoom + (rest.map fun v => v.category).sum ≤ 8) (hdg : decode cc g.pc = .ok (.invokevirtual index, 3)) (hf : cells + mc ≤ R.cells ∧ slots + ms ≤ R.slots) :
    vx_Run p l e R s m args below meth c H locs cells slots mc ms g rest (Qc (Value.ref b :: As).toArray) XC free := by
  have hK : vx_Back l R p e below s args y 3 8 (PreOf R mc ms Pc) (PostOf Qc mc ms free) (vx_Post XC mc ms free) := vx_callBack cw.1 hM hp.1
  obtain ⟨⟨-, -, -, -, -, -, hcode, -, hy, hlen, hl⟩, hin, hse⟩ := cw
  obtain ⟨hx, hb, hml, ho, -⟩ := S
  obtain ⟨-, ⟨cellB, hcB, hoB, hclB⟩, hPc⟩ := hp
  intro T hT X
  rcases vx_callV X hx (C := C) (bytes := bytes) (maxL := maxL) (ret := ret) ho hl hin hse hcode hy hK (by rw [hT]; exact hcB) hoB hclB hg (hsize.trans hml.symm) (argsL := As) (rest := rest) (fun sig h => hn.trans (hlen sig h)) hstack hW (by rw [hb]; exact hdg)
    (fun vm₁ hW₁ => ⟨hf.1, hf.2, hPc (T.setVm vm₁) hT hW₁⟩) with ⟨v, vm₁, ⟨U', l2, c2, s2⟩, hW₁, X', ⟨g', mk, t, L, e1, e2, hq, h1, hL, h2, h3⟩, st⟩ | ⟨q, vm₁, ⟨U', l2, c2, s2⟩, hW₁, X', ⟨g', mk, t, L, E, ce, e1, e2, hq, hce, hcv, hcl, h1, hL, h2, h3⟩, st⟩
  · dsimp only [Pt.U, Pt.locs, Pt.cells, Pt.slots] at X' e1 e2 h1 h2 h3 st
    subst h1; subst h2; subst h3
    exact Or.inl ⟨v, (T.setVm vm₁).calling g' mk (Value.ref b :: As).toArray, t, U', L, hT, X', hL, e1, e2, hq, st⟩
  · dsimp only [Pt.U, Pt.locs, Pt.cells, Pt.slots] at X' e1 e2 h1 h2 h3 st hcl
    subst h1; subst h2; subst h3
    exact Or.inr ⟨q, (T.setVm vm₁).calling g' mk (Value.ref b :: As).toArray, t, U', L, E, ce, hT, X', hL, e1, e2, hq, hce, hcv, vx_cls hW₁ hcl, st⟩
theorem vx_runS (S : CallFix p m c cc nL s args Ts own) (hM : vx_Met l y ws rm Pc Qc XC mc ms free) (cw : CallB R s args own index y bytes maxL ret ws rm mc ms n ∧ (Cond.static y).before args s = true) (hp : PreS s H Pc As)
    (hg : g.method = m) (hn : As.length = n) (hsize : g.locals.size = nL) (hstack : g.stack = As.reverse ++ rest) (hW : 2 * g.monitorRoom + (rest.map fun v => v.category).sum ≤ 8) (hdg : decode cc g.pc = .ok (.invokestatic index, 3)) (hf : cells + mc ≤ R.cells ∧ slots + ms ≤ R.slots) :
    vx_Run p l e R s m args below meth c H locs cells slots mc ms g rest (Qc As.toArray) XC free := by
  have hK : vx_Back l R p e below s args y 3 8 (PreOf R mc ms Pc) (PostOf Qc mc ms free) (vx_Post XC mc ms free) := vx_callBack cw.1 hM hp.1
  obtain ⟨⟨-, -, -, -, -, -, hcode, hini, hy, hlen, hl⟩, hstt⟩ := cw
  obtain ⟨hx, hb, hml, ho, -⟩ := S
  intro T hT X
  rcases vx_callS X hx (bytes := bytes) (maxL := maxL) (ret := ret) ho hl hstt hini hcode hy hK hg (hsize.trans hml.symm) (argsL := As) (rest := rest) (fun sig h => hn.trans (hlen sig h)) hstack hW (by rw [hb]; exact hdg)
    (fun vm₁ hW₁ => ⟨hf.1, hf.2, hp.2 (T.setVm vm₁) hT hW₁⟩) with ⟨v, vm₁, ⟨U', l2, c2, s2⟩, hW₁, X', ⟨g', mk, t, L, e1, e2, hq, h1, hL, h2, h3⟩, st⟩ | ⟨q, vm₁, ⟨U', l2, c2, s2⟩, hW₁, X', ⟨g', mk, t, L, E, ce, e1, e2, hq, hce, hcv, hcl, h1, hL, h2, h3⟩, st⟩
  · dsimp only [Pt.U, Pt.locs, Pt.cells, Pt.slots] at X' e1 e2 h1 h2 h3 st
    subst h1; subst h2; subst h3
    exact Or.inl ⟨v, (T.setVm vm₁).calling g' mk As.toArray, t, U', L, hT, X', hL, e1, e2, hq, st⟩
  · dsimp only [Pt.U, Pt.locs, Pt.cells, Pt.slots] at X' e1 e2 h1 h2 h3 st hcl
    subst h1; subst h2; subst h3
    exact Or.inr ⟨q, (T.setVm vm₁).calling g' mk As.toArray, t, U', L, E, ce, hT, X', hL, e1, e2, hq, hce, hcv, vx_cls hW₁ hcl, st⟩
end Runs
section Rows
variable {p : Program} {l : Launch} {e : Env} {R : Room} {s : State} {m : MethodId} {args : Array Value} {below : List Frame} {meth : Method} {c : Code} {H : Heap} {locs : List Loc} {cells slots : Nat} {Q : State → Prop}
variable {mc ms : Nat} {free : Addr → Prop} {A0 A1 : Nat → Prop} {H0 : Heap} {a : Array Value} {pc : Nat} {ls : Array Slot} {st0 rest : List Value}
theorem vx_keep {st₀ t T' : State} {L : List Loc} (h0 : st₀.heap = H) (e1 : T'.heap = t.heap) (hS : va_S A0 H0 H locs) (hA : ∀ q, q < H.size → A1 q → A0 q) (hf : ∀ q, free q → A0 q) (hL : ∀ q ∈ L, free q.base) (hF : va_F A1 st₀ t) :
    H.size ≤ T'.heap.size ∧ (∀ q : Nat, q < H.size → ¬ A1 q → T'.heap[q]? = H[q]?) ∧ va_S A0 H0 T'.heap (locs ++ L) := by
  obtain ⟨hz, hk⟩ := hF
  rw [h0] at hz hk
  exact ⟨by rw [e1]; exact hz, fun q h1 h2 => by rw [e1]; exact hk q h1 h2,
    ⟨Nat.le_trans hS.1 (by rw [e1]; exact hz), fun q h1 h2 => by rw [e1, hk q (Nat.lt_of_lt_of_le h1 hS.1) (fun z => h2 (hA q (Nat.lt_of_lt_of_le h1 hS.1) z))]; exact hS.2.1 q h1 h2, fun q hq => by
      rcases List.mem_append.mp hq with h | h
      · exact hS.2.2 q h
      · exact hf _ (hL q h)⟩⟩
theorem vx_calli {S SX : Type} {post : Int32 → S → Prop} {px : SX → Prop} {B : S → State → Prop} {BX : String → SX → State → Prop} {AX : Nat → Prop} (hr : vx_Run p l e R s m args below meth c H locs cells slots mc ms (F0 m pc ls st0) rest (va_Qi post B A1 a) (vx_X px BX AX) free) (hS : va_S A0 H0 H locs) (hA : ∀ q, q < H.size → A1 q → A0 q) (hf : ∀ q, free q → A0 q) (hAX : ∀ q, q < H.size → AX q → A0 q)
    (kx : ∀ (E : String) (ce : Cell) (q9 : Addr) (u : SX) (t : State) (H1 : Heap) (locs1 : List Loc), t.heap = H1 → s.vm.Alike t.vm → px u → BX E u t → H.size ≤ H1.size → (∀ q : Nat, q < H.size → ¬ AX q → H1[q]? = H[q]?) → va_S A0 H0 H1 locs1 → H1[q9]? = some ce → ce.vm = .none → s.vm.findClass E = some ce.cls → vx_W p l e R s m args below meth c H1 locs1 (cells + mc) (slots + ms) Q (F0 m pc ls rest) q9)
    (kk : ∀ (r : Int32) (u : S) (t : State) (H1 : Heap) (locs1 : List Loc), t.heap = H1 → s.vm.Alike t.vm → post r u → B u t → H.size ≤ H1.size → (∀ q : Nat, q < H.size → ¬ A1 q → H1[q]? = H[q]?) → va_S A0 H0 H1 locs1 → W p l e R s m args below meth c H1 locs1 (cells + mc) (slots + ms) Q (F0 m (pc + 3) ls (.int r :: rest))) : W p l e R s m args below meth c H locs cells slots Q (F0 m pc ls st0) := by
  intro T hT X
  rcases hr T hT X with ⟨v, st₀, t, T', L, h0, X', hL, e1, e2, ⟨⟨r, u, hv, hp, hb⟩, hF⟩, st⟩ | ⟨q, st₀, t, T', L, E, ce, h0, X', hL, e1, e2, ⟨u, hp, hb, hF⟩, hce, hcv, hcl, st⟩
  · cases hv
    obtain ⟨k1, k2, k3⟩ := vx_keep h0 e1 hS hA hf hL hF
    obtain ⟨t2, a1, b1⟩ := kk r u t T'.heap (locs ++ L) e1.symm (by rw [← e2]; exact X'.warmed.alike) hp hb k1 k2 k3 T' rfl X'
    exact ⟨t2, st t2 a1, b1⟩
  · obtain ⟨k1, k2, k3⟩ := vx_keep h0 e1 hS hAX hf hL hF
    obtain ⟨t2, a1, b1⟩ := kx E ce q u t T'.heap (locs ++ L) e1.symm (by rw [← e2]; exact X'.warmed.alike) hp hb k1 k2 k3 (by rw [e1]; exact hce) hcv hcl T' rfl X'
    exact ⟨t2, st.trans a1, b1⟩
theorem vx_calll {S SX : Type} {post : Int64 → S → Prop} {px : SX → Prop} {B : S → State → Prop} {BX : String → SX → State → Prop} {AX : Nat → Prop} (hr : vx_Run p l e R s m args below meth c H locs cells slots mc ms (F0 m pc ls st0) rest (va_Ql post B A1 a) (vx_X px BX AX) free) (hS : va_S A0 H0 H locs) (hA : ∀ q, q < H.size → A1 q → A0 q) (hf : ∀ q, free q → A0 q) (hAX : ∀ q, q < H.size → AX q → A0 q)
    (kx : ∀ (E : String) (ce : Cell) (q9 : Addr) (u : SX) (t : State) (H1 : Heap) (locs1 : List Loc), t.heap = H1 → s.vm.Alike t.vm → px u → BX E u t → H.size ≤ H1.size → (∀ q : Nat, q < H.size → ¬ AX q → H1[q]? = H[q]?) → va_S A0 H0 H1 locs1 → H1[q9]? = some ce → ce.vm = .none → s.vm.findClass E = some ce.cls → vx_W p l e R s m args below meth c H1 locs1 (cells + mc) (slots + ms) Q (F0 m pc ls rest) q9)
    (kk : ∀ (r : Int64) (u : S) (t : State) (H1 : Heap) (locs1 : List Loc), t.heap = H1 → s.vm.Alike t.vm → post r u → B u t → H.size ≤ H1.size → (∀ q : Nat, q < H.size → ¬ A1 q → H1[q]? = H[q]?) → va_S A0 H0 H1 locs1 → W p l e R s m args below meth c H1 locs1 (cells + mc) (slots + ms) Q (F0 m (pc + 3) ls (.long r :: rest))) : W p l e R s m args below meth c H locs cells slots Q (F0 m pc ls st0) := by
  intro T hT X
  rcases hr T hT X with ⟨v, st₀, t, T', L, h0, X', hL, e1, e2, ⟨⟨r, u, hv, hp, hb⟩, hF⟩, st⟩ | ⟨q, st₀, t, T', L, E, ce, h0, X', hL, e1, e2, ⟨u, hp, hb, hF⟩, hce, hcv, hcl, st⟩
  · cases hv
    obtain ⟨k1, k2, k3⟩ := vx_keep h0 e1 hS hA hf hL hF
    obtain ⟨t2, a1, b1⟩ := kk r u t T'.heap (locs ++ L) e1.symm (by rw [← e2]; exact X'.warmed.alike) hp hb k1 k2 k3 T' rfl X'
    exact ⟨t2, st t2 a1, b1⟩
  · obtain ⟨k1, k2, k3⟩ := vx_keep h0 e1 hS hAX hf hL hF
    obtain ⟨t2, a1, b1⟩ := kx E ce q u t T'.heap (locs ++ L) e1.symm (by rw [← e2]; exact X'.warmed.alike) hp hb k1 k2 k3 (by rw [e1]; exact hce) hcv hcl T' rfl X'
    exact ⟨t2, st.trans a1, b1⟩
theorem vx_callf {S SX : Type} {post : UInt32 → S → Prop} {px : SX → Prop} {B : S → State → Prop} {BX : String → SX → State → Prop} {AX : Nat → Prop} (hr : vx_Run p l e R s m args below meth c H locs cells slots mc ms (F0 m pc ls st0) rest (va_Qf post B A1 a) (vx_X px BX AX) free) (hS : va_S A0 H0 H locs) (hA : ∀ q, q < H.size → A1 q → A0 q) (hf : ∀ q, free q → A0 q) (hAX : ∀ q, q < H.size → AX q → A0 q)
    (kx : ∀ (E : String) (ce : Cell) (q9 : Addr) (u : SX) (t : State) (H1 : Heap) (locs1 : List Loc), t.heap = H1 → s.vm.Alike t.vm → px u → BX E u t → H.size ≤ H1.size → (∀ q : Nat, q < H.size → ¬ AX q → H1[q]? = H[q]?) → va_S A0 H0 H1 locs1 → H1[q9]? = some ce → ce.vm = .none → s.vm.findClass E = some ce.cls → vx_W p l e R s m args below meth c H1 locs1 (cells + mc) (slots + ms) Q (F0 m pc ls rest) q9)
    (kk : ∀ (r : UInt32) (u : S) (t : State) (H1 : Heap) (locs1 : List Loc), t.heap = H1 → s.vm.Alike t.vm → post r u → B u t → H.size ≤ H1.size → (∀ q : Nat, q < H.size → ¬ A1 q → H1[q]? = H[q]?) → va_S A0 H0 H1 locs1 → W p l e R s m args below meth c H1 locs1 (cells + mc) (slots + ms) Q (F0 m (pc + 3) ls (.float r :: rest))) : W p l e R s m args below meth c H locs cells slots Q (F0 m pc ls st0) := by
  intro T hT X
  rcases hr T hT X with ⟨v, st₀, t, T', L, h0, X', hL, e1, e2, ⟨⟨r, u, hv, hp, hb⟩, hF⟩, st⟩ | ⟨q, st₀, t, T', L, E, ce, h0, X', hL, e1, e2, ⟨u, hp, hb, hF⟩, hce, hcv, hcl, st⟩
  · cases hv
    obtain ⟨k1, k2, k3⟩ := vx_keep h0 e1 hS hA hf hL hF
    obtain ⟨t2, a1, b1⟩ := kk r u t T'.heap (locs ++ L) e1.symm (by rw [← e2]; exact X'.warmed.alike) hp hb k1 k2 k3 T' rfl X'
    exact ⟨t2, st t2 a1, b1⟩
  · obtain ⟨k1, k2, k3⟩ := vx_keep h0 e1 hS hAX hf hL hF
    obtain ⟨t2, a1, b1⟩ := kx E ce q u t T'.heap (locs ++ L) e1.symm (by rw [← e2]; exact X'.warmed.alike) hp hb k1 k2 k3 (by rw [e1]; exact hce) hcv hcl T' rfl X'
    exact ⟨t2, st.trans a1, b1⟩
theorem vx_calld {S SX : Type} {post : UInt64 → S → Prop} {px : SX → Prop} {B : S → State → Prop} {BX : String → SX → State → Prop} {AX : Nat → Prop} (hr : vx_Run p l e R s m args below meth c H locs cells slots mc ms (F0 m pc ls st0) rest (va_Qd post B A1 a) (vx_X px BX AX) free) (hS : va_S A0 H0 H locs) (hA : ∀ q, q < H.size → A1 q → A0 q) (hf : ∀ q, free q → A0 q) (hAX : ∀ q, q < H.size → AX q → A0 q)
    (kx : ∀ (E : String) (ce : Cell) (q9 : Addr) (u : SX) (t : State) (H1 : Heap) (locs1 : List Loc), t.heap = H1 → s.vm.Alike t.vm → px u → BX E u t → H.size ≤ H1.size → (∀ q : Nat, q < H.size → ¬ AX q → H1[q]? = H[q]?) → va_S A0 H0 H1 locs1 → H1[q9]? = some ce → ce.vm = .none → s.vm.findClass E = some ce.cls → vx_W p l e R s m args below meth c H1 locs1 (cells + mc) (slots + ms) Q (F0 m pc ls rest) q9)
    (kk : ∀ (r : UInt64) (u : S) (t : State) (H1 : Heap) (locs1 : List Loc), t.heap = H1 → s.vm.Alike t.vm → post r u → B u t → H.size ≤ H1.size → (∀ q : Nat, q < H.size → ¬ A1 q → H1[q]? = H[q]?) → va_S A0 H0 H1 locs1 → W p l e R s m args below meth c H1 locs1 (cells + mc) (slots + ms) Q (F0 m (pc + 3) ls (.double r :: rest))) : W p l e R s m args below meth c H locs cells slots Q (F0 m pc ls st0) := by
  intro T hT X
  rcases hr T hT X with ⟨v, st₀, t, T', L, h0, X', hL, e1, e2, ⟨⟨r, u, hv, hp, hb⟩, hF⟩, st⟩ | ⟨q, st₀, t, T', L, E, ce, h0, X', hL, e1, e2, ⟨u, hp, hb, hF⟩, hce, hcv, hcl, st⟩
  · cases hv
    obtain ⟨k1, k2, k3⟩ := vx_keep h0 e1 hS hA hf hL hF
    obtain ⟨t2, a1, b1⟩ := kk r u t T'.heap (locs ++ L) e1.symm (by rw [← e2]; exact X'.warmed.alike) hp hb k1 k2 k3 T' rfl X'
    exact ⟨t2, st t2 a1, b1⟩
  · obtain ⟨k1, k2, k3⟩ := vx_keep h0 e1 hS hAX hf hL hF
    obtain ⟨t2, a1, b1⟩ := kx E ce q u t T'.heap (locs ++ L) e1.symm (by rw [← e2]; exact X'.warmed.alike) hp hb k1 k2 k3 (by rw [e1]; exact hce) hcv hcl T' rfl X'
    exact ⟨t2, st.trans a1, b1⟩
theorem vx_callv {S SX : Type} {post : S → Prop} {px : SX → Prop} {B : S → State → Prop} {BX : String → SX → State → Prop} {AX : Nat → Prop} (hr : vx_Run p l e R s m args below meth c H locs cells slots mc ms (F0 m pc ls st0) rest (va_Qv post B A1 a) (vx_X px BX AX) free) (hS : va_S A0 H0 H locs) (hA : ∀ q, q < H.size → A1 q → A0 q) (hf : ∀ q, free q → A0 q) (hAX : ∀ q, q < H.size → AX q → A0 q)
    (kx : ∀ (E : String) (ce : Cell) (q9 : Addr) (u : SX) (t : State) (H1 : Heap) (locs1 : List Loc), t.heap = H1 → s.vm.Alike t.vm → px u → BX E u t → H.size ≤ H1.size → (∀ q : Nat, q < H.size → ¬ AX q → H1[q]? = H[q]?) → va_S A0 H0 H1 locs1 → H1[q9]? = some ce → ce.vm = .none → s.vm.findClass E = some ce.cls → vx_W p l e R s m args below meth c H1 locs1 (cells + mc) (slots + ms) Q (F0 m pc ls rest) q9)
    (kk : ∀ (u : S) (t : State) (H1 : Heap) (locs1 : List Loc), t.heap = H1 → s.vm.Alike t.vm → post u → B u t → H.size ≤ H1.size → (∀ q : Nat, q < H.size → ¬ A1 q → H1[q]? = H[q]?) → va_S A0 H0 H1 locs1 → W p l e R s m args below meth c H1 locs1 (cells + mc) (slots + ms) Q (F0 m (pc + 3) ls (rest))) : W p l e R s m args below meth c H locs cells slots Q (F0 m pc ls st0) := by
  intro T hT X
  rcases hr T hT X with ⟨v, st₀, t, T', L, h0, X', hL, e1, e2, ⟨⟨u, hv, hp, hb⟩, hF⟩, st⟩ | ⟨q, st₀, t, T', L, E, ce, h0, X', hL, e1, e2, ⟨u, hp, hb, hF⟩, hce, hcv, hcl, st⟩
  · cases hv
    obtain ⟨k1, k2, k3⟩ := vx_keep h0 e1 hS hA hf hL hF
    obtain ⟨t2, a1, b1⟩ := kk u t T'.heap (locs ++ L) e1.symm (by rw [← e2]; exact X'.warmed.alike) hp hb k1 k2 k3 T' rfl X'
    exact ⟨t2, st t2 a1, b1⟩
  · obtain ⟨k1, k2, k3⟩ := vx_keep h0 e1 hS hAX hf hL hF
    obtain ⟨t2, a1, b1⟩ := kx E ce q u t T'.heap (locs ++ L) e1.symm (by rw [← e2]; exact X'.warmed.alike) hp hb k1 k2 k3 (by rw [e1]; exact hce) hcv hcl T' rfl X'
    exact ⟨t2, st.trans a1, b1⟩
/-- caught by the row x of this method's table; the rows ahead don't take it -/
theorem vx_catch {own name : String} {E : String} {ce : Cell} {q : Addr} (hown : s.vm.findClass own = some m.cls) (pre : List ExceptionTableEntry) (x : ExceptionTableEntry) (suf : List ExceptionTableEntry) (hsplit : c.exceptionTable.toList = pre ++ x :: suf)
    (hpass : ∀ z ∈ pre, covers z pc = false ∨ (z.catchType ≠ 0 ∧ ∃ nm : String, (Cond.classLink own z.catchType nm).before args s = true ∧ va_Nc E nm s)) (hx : covers x pc = true) (h0 : x.catchType ≠ 0)
    (hlink : (Cond.classLink own x.catchType name).before args s = true) (hcast : (Cond.castable E name).before args s = true) (hcell : H[q]? = some ce) (hv : ce.vm = .none) (hcl : s.vm.findClass E = some ce.cls)
    (kk : W p l e R s m args below meth c H locs cells slots Q (F0 m x.handlerPc ls [.ref q])) : vx_W p l e R s m args below meth c H locs cells slots Q (F0 m pc ls rest) q := by
  intro T hT X
  have hpl : e.platform.magicAccessors = ({} : Platform).magicAccessors := by rw [X.admits.platform]
  obtain ⟨c3, c4, hc3, hc4, hasg⟩ := Cond.castable_spec hcast
  cases Option.some.inj (hc3.symm.trans hcl)
  obtain ⟨c5, hc5, hcl5⟩ := Cond.classLink_spec hown hlink e.platform hpl
  cases Option.some.inj (hc4.symm.trans hc5)
  obtain ⟨vm', X', st⟩ := X.thenCaughtThrough q (g := F0 m pc ls rest) rfl (Steps.refl _) (by rw [hT]; exact hcell) (by rw [hv]; rfl) (by obtain ⟨k9, h9, -⟩ := Vm.findClass_spec hcl; exact ⟨k9, h9⟩) pre x suf hsplit
    (fun z hz => by
      rcases hpass z hz with h | ⟨hz0, nm, hl1, hn1⟩
      · exact Or.inl h
      · obtain ⟨c6, hc6, hcl6⟩ := Cond.classLink_spec hown hl1 e.platform hpl
        obtain ⟨a8, b8, h1, h2, h3⟩ := hn1
        cases Option.some.inj (h1.symm.trans hcl)
        cases Option.some.inj (h2.symm.trans hc6)
        exact Or.inr ⟨hz0, _, hcl6, h3⟩) hx (Or.inr ⟨h0, c4, hcl5, hasg⟩)
  obtain ⟨t, a1, b1⟩ := kk (T.setVm vm') hT X'
  exact ⟨t, st.trans a1, b1⟩
end Rows
section Ends
variable {p : Program} {l : Launch} {e : Env} {R : Room} {s : State} {m : MethodId} {args : Array Value} {below : List Frame} {meth : Method} {c : Code} {H : Heap} {locs : List Loc} {cells slots : Nat} {Q : State → Prop}
variable {mc ms : Nat} {free : Addr → Prop} {A0 A1 : Nat → Prop} {H0 : Heap} {a : Array Value} {ls : Array Slot} {st0 rest : List Value}
variable {Qc : Array Value → State → Outcome → State → Prop} {XC : String → State → State → Prop}
/-- what a body that may throw owes at its end -/
def vx_MQ (below : List Frame) (Qc : Array Value → State → Outcome → State → Prop) (XC : String → State → State → Prop) (a : Array Value) (s : State) (mc ms : Nat) (free : Addr → Prop) : State → Prop := fun t =>
  ∃ o, t.status = .running ∧ Ended t below o ∧ vx_Q Qc XC mc ms free a s o t
theorem vx_ret {g : JFrame} {mc ms : Nat} (k : W p l e R s m args below meth c H locs cells slots (MQ below Qc args s mc ms free) g) : W p l e R s m args below meth c H locs cells slots (vx_MQ below Qc XC args s mc ms free) g := by
  intro T hT X
  obtain ⟨t, a1, o, b1, b2, b3, b4⟩ := k T hT X
  exact ⟨t, a1, o, b1, b2, Or.inl ⟨b3, b4⟩⟩
/-- not caught here: it goes on to the caller -/
theorem vx_widen {g : JFrame} {q : Addr} {k n : Nat} (h1 : cells ≤ k) (h2 : slots ≤ n) (kk : vx_W p l e R s m args below meth c H locs k n Q g q) : vx_W p l e R s m args below meth c H locs cells slots Q g q := fun T hT X => kk T hT (stand_widen X h1 h2)
theorem vx_out {pc : Nat} {E : String} {ce : Cell} {q : Addr} {mc ms : Nat} (hout : ∀ x ∈ c.exceptionTable.toList, covers x pc = false) (hlocks : meth.locks = false) (hcell : H[q]? = some ce) (hv : ce.vm = .none) (hcl : s.vm.findClass E = some ce.cls)
    (hx : ∀ t : State, t.heap = H → s.vm.Alike t.vm → XC E s t) (hf : ∀ z ∈ locs, free z.base) (hc : cells ≤ mc) (hs : slots ≤ ms) :
    vx_W p l e R s m args below meth c H locs cells slots (vx_MQ below Qc XC args s mc ms free) (F0 m pc ls rest) q := by
  intro T hT X
  obtain ⟨st1, hrun, hend, hW, hsm⟩ := X.leaveThrown q (g := F0 m pc ls rest) rfl rfl rfl hout hlocks
  have hcell9 : (T.setFrames (.throwing q :: below)).heap[q]? = some ce := by
    show T.heap[q]? = some ce
    rw [hT]; exact hcell
  exact ⟨_, st1, .threw q, hrun, hend, Or.inr ⟨q, rfl, E, ce, locs, hx _ hT hW.alike, hcell9, hv, hcl, hW, hsm.mono hc hs, hf⟩⟩
theorem vx_frame {U : State} {k n : Nat} (h : s.sameButNew ({ U with vm := s.vm } : State) locs k n) : s.heap.size ≤ U.heap.size ∧ ∀ q : Nat, q < s.heap.size → (∀ z ∈ locs, z.base ≠ q) → U.heap[q]? = s.heap[q]? := by
  obtain ⟨-, h2, -, -, -, h6⟩ := h
  refine ⟨h2, fun q hq hz => ?_⟩
  obtain ⟨c9, e1, e2, e3, e4⟩ := h6 q _ (Array.getElem?_eq_getElem hq)
  have hs : c9.slots = (s.heap[q]).slots := Array.ext_getElem? fun i => e4 i fun hm => hz _ hm rfl
  have h9 : c9 = s.heap[q] := by
    rw [hs] at e2
    exact e2
  have e5 : U.heap[q]? = some c9 := e1
  rw [e5, h9, Array.getElem?_eq_getElem hq]
/-- the words of a throw but the four that speak of the heap -/
def vx_no (w : Cond) : Bool := decide (w ≠ .isRef (.static Bundle.tN "UNASSIGNED_STACK" Bundle.steD)) && decide (w ≠ .isRef (.static Bundle.tN "SUPPRESSED_SENTINEL" Bundle.listD)) && decide (w ≠ .laysStatic Bundle.tN "UNASSIGNED_STACK" Bundle.steD) && decide (w ≠ .laysStatic Bundle.tN "SUPPRESSED_SENTINEL" Bundle.listD)
def vx_at0 (own : String) (ic : Nat) (X : String) (names : List String) : List Cond := (Bundle.ownAtoms0 own ic X names).filter vx_no
def vx_atS (own : String) (ic : Nat) (X : String) (names : List String) : List Cond := (Bundle.ownAtoms own ic X names).filter vx_no
/-- a word that the tables alone decide, or a good one -/
def vx_ot (w : Cond) : Bool := w.onTables || goodWord w
theorem vx_ot_at {args a' : Array Value} {s U : State} {w : Cond} (hW : s.WarmedH U.vm) (hvm : s.vm = U.vm) (hg : vx_ot w = true) (h : w.before args s = true) : w.before a' U = true := by
  simp only [vx_ot, Bool.or_eq_true] at hg
  rcases hg with hg | hg
  · exact va_tabs hg hvm h
  · exact word_at hW (good_of_word hg) h
/-- a list's words: the good ones out of the method's own list, the others by premises of their own -/
theorem vx_hat {args : Array Value} {s : State} {L B : List Cond} (h1 : ∀ w ∈ L.filter goodWord, w.before args s = true) (h2 : ∀ w ∈ L.filter (fun w => !goodWord w), w ∈ B) (h3 : ∀ w ∈ B, w.before args s = true) : ∀ w ∈ L, w.before args s = true := by
  intro w hw
  by_cases g : goodWord w = true
  · exact h1 w (List.mem_filter.mpr ⟨hw, g⟩)
  · refine h3 w (h2 w (List.mem_filter.mpr ⟨hw, ?_⟩))
    show (!goodWord w) = true
    cases hgw : goodWord w
    · rfl
    · exact absurd hgw g
theorem vx_c {args : Array Value} {s : State} {w : Cond} {B : List Cond} (h : w.before args s = true) (t : ∀ w ∈ B, w.before args s = true) : ∀ w' ∈ w :: B, w'.before args s = true := fun w' h' => (List.mem_cons.mp h').elim (fun e => by rw [e]; exact h) (t w')
theorem vx_n {args : Array Value} {s : State} : ∀ w ∈ ([] : List Cond), w.before args s = true := fun _ h => nomatch h
theorem vx_own {args : Array Value} {s : State} {L : List Cond} (h1 : ∀ w ∈ L.filter vx_no, w.before args s = true)
    (hU : (Cond.isRef (.static Bundle.tN "UNASSIGNED_STACK" Bundle.steD)).before args s = true) (hN : (Cond.isRef (.static Bundle.tN "SUPPRESSED_SENTINEL" Bundle.listD)).before args s = true)
    (lU : (Cond.laysStatic Bundle.tN "UNASSIGNED_STACK" Bundle.steD).before args s = true) (lN : (Cond.laysStatic Bundle.tN "SUPPRESSED_SENTINEL" Bundle.listD).before args s = true) : ∀ w ∈ L, w.before args s = true := by
  intro w hw
  by_cases e1 : w = .isRef (.static Bundle.tN "UNASSIGNED_STACK" Bundle.steD)
  · rw [e1]; exact hU
  · by_cases e2 : w = .isRef (.static Bundle.tN "SUPPRESSED_SENTINEL" Bundle.listD)
    · rw [e2]; exact hN
    · by_cases e3 : w = .laysStatic Bundle.tN "UNASSIGNED_STACK" Bundle.steD
      · rw [e3]; exact lU
      · by_cases e4 : w = .laysStatic Bundle.tN "SUPPRESSED_SENTINEL" Bundle.listD
        · rw [e4]; exact lN
        · exact h1 w (List.mem_filter.mpr ⟨hw, by unfold vx_no; rw [decide_eq_true e1, decide_eq_true e2, decide_eq_true e3, decide_eq_true e4]; rfl⟩)
/-- where a static field lies, its class's statics cell in H -/
def vx_L (C n d : String) (A : Nat → Prop) (U : State) (H : Heap) : Prop := ∃ (c : ClassId) (k : Class) (i : Nat) (f : Field) (a : Nat) (cell : Cell), U.vm.findClass C = some c ∧ U.fieldFound? C n d = some (c, k, i, f) ∧ f.isStatic = true ∧ k.statics = some a ∧ H[a]? = some cell ∧ cell.vm.isStatics = true ∧ cell.cls = c ∧ f.slot < cell.slots.size ∧ k.staticTypes[f.slot]? = some f.type ∧ ¬ A a
theorem vx_L.moved {C n d : String} {A : Nat → Prop} {u U : State} {H : Heap} (hvm : u.vm.Alike U.vm) (h : vx_L C n d A u H) : vx_L C n d A U H := by
  obtain ⟨c, k, i, f, a, cell, h1, h2, h3, h4, h5, h6, h7, h8, h9, h10⟩ := h
  obtain ⟨k', hi', he⟩ := State.fieldFound?_setVm hvm h2
  exact ⟨c, k', i, f, a, cell, by rw [hvm.findClass]; exact h1, hi', h3, by rw [he]; exact h4, h5, h6, h7, h8, by rw [he]; exact h9, h10⟩
theorem vx_L.kept {C n d : String} {A : Nat → Prop} {U : State} {H H1 : Heap} (h : vx_L C n d A U H) (hq : ∀ a : Nat, a < H.size → ¬ A a → H1[a]? = H[a]?) : vx_L C n d A U H1 := by
  obtain ⟨c, k, i, f, a, cell, h1, h2, h3, h4, h5, h6, h7, h8, h9, h10⟩ := h
  exact ⟨c, k, i, f, a, cell, h1, h2, h3, h4, by rw [hq a (Array.getElem?_eq_some_iff.mp h5).1 h10]; exact h5, h6, h7, h8, h9, h10⟩
theorem vx_L.narrow {C n d : String} {A B : Nat → Prop} {U : State} {H : Heap} (h : vx_L C n d A U H) (hAB : ∀ q, B q → A q) : vx_L C n d B U H := by
  obtain ⟨c, k, i, f, a, cell, h1, h2, h3, h4, h5, h6, h7, h8, h9, h10⟩ := h
  exact ⟨c, k, i, f, a, cell, h1, h2, h3, h4, h5, h6, h7, h8, h9, fun z => h10 (hAB _ z)⟩
theorem vx_L.word {C n d : String} {A : Nat → Prop} {s : State} {args : Array Value} (h : vx_L C n d A s s.heap) : (Cond.laysStatic C n d).before args s = true := by
  obtain ⟨c, k, i, f, a, cell, h1, h2, h3, h4, h5, h6, h7, h8, h9, -⟩ := h
  show (Cond.laysStatic C n d).holds args s none s [] = true
  exact Cond.laysStatic_of h1 h2 h3 h4 h5 h6 h7 h8 h9
/-- .. and what it holds: null or some reference -/
def vx_Zq (C n d : String) (A : Nat → Prop) (U : State) (H : Heap) : Prop := va_Zq C n d A U H ∧ vx_L C n d A U H
theorem vx_Zq.moved {C n d : String} {A : Nat → Prop} {u U : State} {H : Heap} (hvm : u.vm.Alike U.vm) (h : vx_Zq C n d A u H) : vx_Zq C n d A U H := ⟨va_Zq.moved hvm h.1, vx_L.moved hvm h.2⟩
theorem vx_Zq.kept {C n d : String} {A : Nat → Prop} {U : State} {H H1 : Heap} (h : vx_Zq C n d A U H) (hq : ∀ a : Nat, a < H.size → ¬ A a → H1[a]? = H[a]?) : vx_Zq C n d A U H1 := ⟨va_Zq.kept h.1 hq, vx_L.kept h.2 hq⟩
theorem vx_Zq.narrow {C n d : String} {A B : Nat → Prop} {U : State} {H : Heap} (h : vx_Zq C n d A U H) (hAB : ∀ q, B q → A q) : vx_Zq C n d B U H := ⟨va_Zq.narrow h.1 hAB, vx_L.narrow h.2 hAB⟩
theorem vx_Zqof {args : Array Value} {s : State} {C n d : String} {A : Nat → Prop} (hl : (Cond.laysStatic C n d).before args s = true) (hini : (Cond.initialized C).before args s = true) (h : (Cond.isRef (.static C n d)).before args s = true) (hA : ∀ a : Nat, a < s.heap.size → ¬ A a) : vx_Zq C n d A s s.heap := by
  refine ⟨va_Zqof hl hini h hA, ?_⟩
  obtain ⟨c, k, i, f, a, cell, h1, h2, h3, h4, h5, h6, h7, h8, h9⟩ := Cond.laysStatic_spec hl
  exact ⟨c, k, i, f, a, cell, h1, h2, h3, h4, h5, h6, h7, h8, h9, hA a (Array.getElem?_eq_some_iff.mp h5).1⟩
theorem vx_isRef {C n d : String} {v : Value} {A : Nat → Prop} {s : State} {args : Array Value} (h : va_Z C n d v A s s.heap) (hv : v.isRef = true) : (Cond.isRef (.static C n d)).before args s = true := by
  obtain ⟨cf, kf, fi, f, a, cell, h1, h2, h3, h4, h5, h6, h7, -⟩ := h
  have he : (Term.static C n d).eval args s none [] s = some v := by
    simp [Term.eval, State.fieldNamed?, h1, h2, h4, h5, h6, h7]
  simp only [Cond.before, Cond.holds, Cond.value, he]
  cases v <;> simp_all [Value.isRef]
theorem vx_isRefq {C n d : String} {A : Nat → Prop} {s : State} {args : Array Value} (h : va_Zq C n d A s s.heap) : (Cond.isRef (.static C n d)).before args s = true := by
  rcases h with h | ⟨t, h⟩
  · exact vx_isRef h rfl
  · exact vx_isRef h rfl
/-- the same frame, seen from here: as if the method were called anew in this heap -/
theorem vx_rebase {T : State} (X : Stand p l e R s m args below meth c T locs cells slots) {R' : Room} (hf : R'.frames ≤ R.frames) (hl : R'.locals ≤ R.locals) (hc : cells + R'.cells ≤ R.cells) (hs : slots + R'.slots ≤ R.slots) :
    Stand p l e R' ((T.setVm s.vm).setFrames (.invoking m args :: below)) m args below meth c T [] 0 0 := by
  have htop : (T.setVm s.vm).topJava?.isSome := X.here.top
  have hF : ((T.setVm s.vm).setFrames (.invoking m args :: below)).frames = .invoking m args :: below := State.frames_setFrames _ (State.cur_lt_of_top htop)
  obtain ⟨g₀, hg0⟩ := Option.isSome_iff_exists.mp htop
  obtain ⟨r, hr⟩ := State.topJava?_eq_some.mp hg0
  have hl9 : e.platform.stackLimits (T.setVm s.vm).me = e.platform.stackLimits s.me := X.limits
  have hb9 : (T.setVm s.vm).me.stackBytes = s.me.stackBytes := X.bytes
  refine ⟨X.admits, X.cas, X.clock, hF, ?_, X.hears, X.method, X.code, X.here, X.tail, X.warmed, ?_, ?_, ?_⟩
  · have h := X.room
    have hU : ((T.setVm s.vm).setFrames (.invoking m args :: below)).localsInUse = s.localsInUse := by
      rw [State.localsInUse_invoking hF (meth := meth) (c := c) X.method X.code, State.localsInUse_invoking X.frames X.method X.code]
    simp only [State.hasRoom, Bool.and_eq_true, decide_eq_true_eq] at h ⊢
    obtain ⟨⟨⟨⟨h1, h2, h3, h4, h5, h6⟩, h7⟩, h8⟩, h9⟩ := h
    rw [X.frames, List.length_cons] at h2 h3
    have q1 := X.heapSize
    have q2 := X.used
    simp only [hF, hU, List.length_cons, State.stackLimits_setFrames, State.stackBytes_setFrames, hl9, hb9]
    refine ⟨⟨⟨⟨by omega, by omega, by omega, by omega, by omega, h6⟩, ?_⟩, ?_⟩, X.book⟩
    · show T.heap.size + R'.cells ≤ e.platform.maxCells
      omega
    · show T.slotsUsed + R'.slots ≤ e.platform.maxSlots
      omega
  · rw [State.stackLimits_setFrames]; rfl
  · rw [State.stackBytes_setFrames]; rfl
  · refine ⟨?_, Nat.le_refl _, Nat.le_refl _, ?_, ?_, fun a c9 h9 => ⟨c9, h9, rfl, rfl, fun _ _ => rfl⟩⟩
    · obtain ⟨t, ht, -⟩ := State.frames_cons hr
      show T.setVm s.vm = { ((T.setVm s.vm).setFrames (.invoking m args :: below)).setFrames (T.setVm s.vm).frames with heap := T.heap, slotsUsed := T.slotsUsed }
      rw [State.setFrames_setFrames, State.setFrames_self ht]
      rfl
    · show T.slotsUsed = T.slotsUsed + ((T.heap.toList.drop T.heap.size).map (·.slots.size)).sum
      rw [List.drop_eq_nil_of_le (Nat.le_of_eq Array.length_toList)]
      rfl
    · show ((T.heap.toList.drop T.heap.size).map (·.slots.size)).sum ≤ 0
      rw [List.drop_eq_nil_of_le (Nat.le_of_eq Array.length_toList)]
      exact Nat.le_refl _
/-- 'throw new E()': new; dup; invokespecial; athrow -/
theorem vx_throw0 {cc : ByteArray} {pc : Nat} (hexec : p.tables.exec = Jvm.exec) (hb : c.code = cc) (hl : l.stackTraces = false) {own cls : String} {names : List String} {ik ic mc ms : Nat} {A : Nat → Prop}
    (hown : s.vm.findClass own = some m.cls) (hcls : Bundle.fit cls = true) (hnames : ∀ n ∈ names, Bundle.fit n = true)
    (hk : (Cond.classLink own ik cls).before args s = true) (hini : (Cond.initialized cls).before args s = true) (hat : ∀ w ∈ vx_at0 own ic cls names, w.before args s = true)
    (hgood : ∀ w ∈ Cond.classLink own ik cls :: Cond.initialized cls :: vx_at0 own ic cls names, vx_ot w = true)
    (hU : vx_Zq Bundle.tN "UNASSIGNED_STACK" Bundle.steD A s s.heap) (hN : vx_Zq Bundle.tN "SUPPRESSED_SENTINEL" Bundle.listD A s s.heap) (hS : va_S A s.heap H locs) (hsize : ls.size = c.maxLocals)
    (d0 : decode cc pc = .ok (.new ik, 3)) (d3 : decode cc (pc + 3) = .ok (.dup, 1)) (d4 : decode cc (pc + 4) = .ok (.invokespecial ic, 3)) (d7 : decode cc (pc + 7) = .ok (.athrow, 1))
    (hout : ∀ x ∈ c.exceptionTable.toList, covers x (pc + 7) = false)
    (hRframes : names.length + 3 < R.frames) (hRlocals : (rest.map fun v => v.category).sum + (13 * (names.length + 1) + 42) ≤ R.locals) (hRcells : cells + 1 ≤ R.cells) (hRslots : slots + 6 ≤ R.slots) (hlocks : meth.locks = false)
    (hx : ∀ t : State, s.vm.Alike t.vm → H.size ≤ t.heap.size → (∀ q : Nat, q < H.size → t.heap[q]? = H[q]?) → XC cls s t)
    (hf : ∀ z ∈ locs, free z.base) (hc : cells + 1 ≤ mc) (hs : slots + 6 ≤ ms) :
    W p l e R s m args below meth c H locs cells slots (vx_MQ below Qc XC args s mc ms free) (F0 m pc ls rest) := by
  intro T hT X
  have htr : e.platform.stackTraces = false := (show e.platform.stackTraces = l.stackTraces by rw [X.admits.platform]).trans hl
  have Y := vx_rebase X (R' := { frames := R.frames, locals := R.locals, cells := 1, slots := 6 }) (Nat.le_refl _) (Nat.le_refl _) hRcells hRslots
  obtain ⟨s', hA⟩ : ∃ z, z = (T.setVm s.vm).setFrames (.invoking m args :: below) := ⟨_, rfl⟩
  rw [← hA] at Y
  have hvm : s'.vm = s.vm := by rw [hA]; rfl
  have hhp : s'.heap = H := by rw [hA]; exact hT
  have hW0 : s.WarmedH s'.vm := by rw [hvm]; exact State.WarmedH.refl s
  have hat' : ∀ w ∈ vx_at0 own ic cls names, w.before args s' = true := fun w hw => vx_ot_at hW0 hvm.symm (hgood w (List.mem_cons_of_mem _ (List.mem_cons_of_mem _ hw))) (hat w hw)
  have hk' : (Cond.classLink own ik cls).before args s' = true := vx_ot_at hW0 hvm.symm (hgood _ List.mem_cons_self) hk
  have hini' : (Cond.initialized cls).before args s' = true := vx_ot_at hW0 hvm.symm (hgood _ (List.mem_cons_of_mem _ List.mem_cons_self)) hini
  have hU' : vx_Zq Bundle.tN "UNASSIGNED_STACK" Bundle.steD A s' s'.heap := by rw [hhp]; exact vx_Zq.moved hW0.alike (hU.kept hS.2.1)
  have hN' : vx_Zq Bundle.tN "SUPPRESSED_SENTINEL" Bundle.listD A s' s'.heap := by rw [hhp]; exact vx_Zq.moved hW0.alike (hN.kept hS.2.1)
  have h : ∀ w ∈ Bundle.ownAtoms0 own ic cls names, w.before args s' = true := vx_own hat' (vx_isRefq hU'.1) (vx_isRefq hN'.1) hU'.2.word hN'.2.word
  have hown' : s'.vm.findClass own = some m.cls := by rw [hvm]; exact hown
  have hins : (Cond.instantiable cls 6).before args s' = true := h _ (by simp [Bundle.ownAtoms0])
  obtain ⟨vm₁, cX, kX, hfX, hkX, -, -, X₁, st1⟩ := Y.newCold hexec (own := own) (C := cls) (index := ik) (n := 6) hown' hk' hins hini'
    (g := F0 m pc ls rest) rfl (by rw [hb]; exact d0) (Nat.le_refl _) (Nat.le_refl _)
  generalize hT1 : (T.setVm vm₁).pushCell { cls := cX, slots := kX.instanceTypes.map defaultValue, vm := .none } = T1 at X₁ st1
  have hcat : (Value.ref T.heap.size).category = 1 := rfl
  have hcellA : T1.heap[T.heap.size]? = some (freshCell cX kX) := by rw [← hT1]; exact State.heap_pushCell_size _ _
  have d3' : decode c.code (pc + 3) = .ok (.dup, 1) := by rw [hb]; exact d3
  obtain ⟨U, hsteps, hrun, hend, hW, hsame, ce, hce, hO⟩ := X₁.ctorThrow0 hexec htr (own := own) (cls := cls) (names := names) (ic := ic) hown' hcls hnames h (fun x hx => nomatch hx) hfX hkX hcellA (by rw [hhp, hT]; exact Nat.le_refl _)
    (g := { method := m, pc := pc + 4, locals := ls, stack := .ref T.heap.size :: .ref T.heap.size :: rest, locked := none }) rfl hsize rfl rfl (rest := rest) rfl
    (by rw [hb]; exact d4) (by rw [hb]; exact d7) hout hRframes (by simp only [List.map_cons, List.sum_cons, hcat]; omega) hlocks
  obtain ⟨f1, f2⟩ := vx_frame hsame
  rw [hhp] at f1 f2
  have hWs : s.WarmedH U.vm := State.WarmedH.trans hW0 hW
  have hcl : s.vm.findClass cls = some ce.cls := by
    have h9 := hO.cls
    rw [hvm] at h9
    exact h9
  have hall : s.sameButNew ({ U with vm := s.vm } : State) locs mc ms := by
    subst hA
    obtain ⟨e1, e2⟩ := hsame
    rw [State.setFrames_setFrames] at e1
    have h2 : (T.setVm s.vm).sameButNew ({ U with vm := s.vm } : State) [] (0 + 1) (0 + 6) := ⟨e1, e2⟩
    have h3 := X.same.trans h2
    rw [List.append_nil] at h3
    exact h3.mono hc hs
  refine ⟨U, ?_, .threw T.heap.size, hrun, hend, Or.inr ⟨T.heap.size, rfl, cls, ce, locs, hx U hWs.alike f1 (fun q hq => f2 q hq (fun z hz => nomatch hz)), hce, hO.vm, hcl, hWs, hall, hf⟩⟩
  refine st1 _ ?_
  show Steps p.tables e below (T1.setTop { method := m, pc := pc + 3, locals := ls, stack := .ref T.heap.size :: rest, locked := none }) _
  jvm_step X₁.here [X₁.here.top, hexec, d3', Value.category]
  exact hsteps
/-- 'throw new E("text")': new; dup; ldc; invokespecial; athrow -/
theorem vx_throwS {cc : ByteArray} {pc : Nat} (hexec : p.tables.exec = Jvm.exec) (hb : c.code = cc) (hl : l.stackTraces = false) {own cls text : String} {names : List String} {ik is ic mc ms sa : Nat} {A : Nat → Prop}
    (hown : s.vm.findClass own = some m.cls) (hcls : Bundle.fit cls = true) (hnames : ∀ n ∈ names, Bundle.fit n = true)
    (hk : (Cond.classLink own ik cls).before args s = true) (hini : (Cond.initialized cls).before args s = true) (hstr : vk_R own is text sa s) (hat : ∀ w ∈ vx_atS own ic cls names, w.before args s = true)
    (hgood : ∀ w ∈ Cond.classLink own ik cls :: Cond.initialized cls :: vx_atS own ic cls names, vx_ot w = true)
    (hU : vx_Zq Bundle.tN "UNASSIGNED_STACK" Bundle.steD A s s.heap) (hN : vx_Zq Bundle.tN "SUPPRESSED_SENTINEL" Bundle.listD A s s.heap) (hS : va_S A s.heap H locs) (hsize : ls.size = c.maxLocals)
    (d0 : decode cc pc = .ok (.new ik, 3)) (d3 : decode cc (pc + 3) = .ok (.dup, 1)) (d4 : decode cc (pc + 4) = .ok (.ldc is, 2)) (d6 : decode cc (pc + 6) = .ok (.invokespecial ic, 3)) (d9 : decode cc (pc + 9) = .ok (.athrow, 1))
    (hout : ∀ x ∈ c.exceptionTable.toList, covers x (pc + 9) = false)
    (hRframes : names.length + 3 < R.frames) (hRlocals : (rest.map fun v => v.category).sum + (13 * (names.length + 1) + 43) ≤ R.locals) (hRcells : cells + 1 ≤ R.cells) (hRslots : slots + 6 ≤ R.slots) (hlocks : meth.locks = false)
    (hx : ∀ t : State, s.vm.Alike t.vm → H.size ≤ t.heap.size → (∀ q : Nat, q < H.size → t.heap[q]? = H[q]?) → XC cls s t)
    (hf : ∀ z ∈ locs, free z.base) (hc : cells + 1 ≤ mc) (hs : slots + 6 ≤ ms) :
    W p l e R s m args below meth c H locs cells slots (vx_MQ below Qc XC args s mc ms free) (F0 m pc ls rest) := by
  intro T hT X
  have htr : e.platform.stackTraces = false := (show e.platform.stackTraces = l.stackTraces by rw [X.admits.platform]).trans hl
  have Y := vx_rebase X (R' := { frames := R.frames, locals := R.locals, cells := 1, slots := 6 }) (Nat.le_refl _) (Nat.le_refl _) hRcells hRslots
  obtain ⟨s', hA⟩ : ∃ z, z = (T.setVm s.vm).setFrames (.invoking m args :: below) := ⟨_, rfl⟩
  rw [← hA] at Y
  have hvm : s'.vm = s.vm := by rw [hA]; rfl
  have hhp : s'.heap = H := by rw [hA]; exact hT
  have hW0 : s.WarmedH s'.vm := by rw [hvm]; exact State.WarmedH.refl s
  have hat' : ∀ w ∈ vx_atS own ic cls names, w.before args s' = true := fun w hw => vx_ot_at hW0 hvm.symm (hgood w (List.mem_cons_of_mem _ (List.mem_cons_of_mem _ hw))) (hat w hw)
  have hk' : (Cond.classLink own ik cls).before args s' = true := vx_ot_at hW0 hvm.symm (hgood _ List.mem_cons_self) hk
  have hini' : (Cond.initialized cls).before args s' = true := vx_ot_at hW0 hvm.symm (hgood _ (List.mem_cons_of_mem _ List.mem_cons_self)) hini
  have hU' : vx_Zq Bundle.tN "UNASSIGNED_STACK" Bundle.steD A s' s'.heap := by rw [hhp]; exact vx_Zq.moved hW0.alike (hU.kept hS.2.1)
  have hN' : vx_Zq Bundle.tN "SUPPRESSED_SENTINEL" Bundle.listD A s' s'.heap := by rw [hhp]; exact vx_Zq.moved hW0.alike (hN.kept hS.2.1)
  have h : ∀ w ∈ Bundle.ownAtoms own ic cls names, w.before args s' = true := vx_own hat' (vx_isRefq hU'.1) (vx_isRefq hN'.1) hU'.2.word hN'.2.word
  have hown' : s'.vm.findClass own = some m.cls := by rw [hvm]; exact hown
  have hins : (Cond.instantiable cls 6).before args s' = true := h _ (by simp [Bundle.ownAtoms])
  obtain ⟨vm₁, cX, kX, hfX, hkX, -, -, X₁, st1⟩ := Y.newCold hexec (own := own) (C := cls) (index := ik) (n := 6) hown' hk' hins hini'
    (g := F0 m pc ls rest) rfl (by rw [hb]; exact d0) (Nat.le_refl _) (Nat.le_refl _)
  generalize hT1 : (T.setVm vm₁).pushCell { cls := cX, slots := kX.instanceTypes.map defaultValue, vm := .none } = T1 at X₁ st1
  have hcat : (Value.ref T.heap.size).category = 1 := rfl
  have hcellA : T1.heap[T.heap.size]? = some (freshCell cX kX) := by rw [← hT1]; exact State.heap_pushCell_size _ _
  have d3' : decode c.code (pc + 3) = .ok (.dup, 1) := by rw [hb]; exact d3
  have d4' : decode c.code (pc + 4) = .ok (.ldc is, 2) := by rw [hb]; exact d4
  have hstr' : vk_R own is text sa s' := vk_R.warm hW0 hstr
  obtain ⟨U, hsteps, hrun, hend, hW, hsame, ce, hce, hO⟩ := X₁.ctorThrowS hexec htr (own := own) (cls := cls) (names := names) (ic := ic) hown' hcls hnames h (fun x hx => nomatch hx) hfX hkX hcellA (by rw [hhp, hT]; exact Nat.le_refl _) (msg := .ref sa) rfl
    (g := { method := m, pc := pc + 6, locals := ls, stack := .ref sa :: .ref T.heap.size :: .ref T.heap.size :: rest, locked := none }) rfl hsize rfl rfl (rest := rest) rfl
    (by rw [hb]; exact d6) (by rw [hb]; exact d9) hout hRframes (by simp only [List.map_cons, List.sum_cons, hcat]; omega) hlocks
  obtain ⟨f1, f2⟩ := vx_frame hsame
  rw [hhp] at f1 f2
  have hWs : s.WarmedH U.vm := State.WarmedH.trans hW0 hW
  have hcl : s.vm.findClass cls = some ce.cls := by
    have h9 := hO.cls
    rw [hvm] at h9
    exact h9
  have hall : s.sameButNew ({ U with vm := s.vm } : State) locs mc ms := by
    subst hA
    obtain ⟨e1, e2⟩ := hsame
    rw [State.setFrames_setFrames] at e1
    have h2 : (T.setVm s.vm).sameButNew ({ U with vm := s.vm } : State) [] (0 + 1) (0 + 6) := ⟨e1, e2⟩
    have h3 := X.same.trans h2
    rw [List.append_nil] at h3
    exact h3.mono hc hs
  refine ⟨U, ?_, .threw T.heap.size, hrun, hend, Or.inr ⟨T.heap.size, rfl, cls, ce, locs, hx U hWs.alike f1 (fun q hq => f2 q hq (fun z hz => nomatch hz)), hce, hO.vm, hcl, hWs, hall, hf⟩⟩
  refine st1 _ ?_
  show Steps p.tables e below (T1.setTop { method := m, pc := pc + 3, locals := ls, stack := .ref T.heap.size :: rest, locked := none }) _
  jvm_step X₁.here [X₁.here.top, hexec, d3', Value.category]
  exact X₁.ldcString hexec (own := own) (text := text) (index := is) (a := sa) hown' hstr'.1 hstr'.2
    (g := { method := m, pc := pc + 4, locals := ls, stack := .ref T.heap.size :: .ref T.heap.size :: rest, locked := none }) rfl d4' _ hsteps
/-- 'throw new E("text")', the text by a wide index -/
theorem vx_throwSW {cc : ByteArray} {pc : Nat} (hexec : p.tables.exec = Jvm.exec) (hb : c.code = cc) (hl : l.stackTraces = false) {own cls text : String} {names : List String} {ik is ic mc ms sa : Nat} {A : Nat → Prop}
    (hown : s.vm.findClass own = some m.cls) (hcls : Bundle.fit cls = true) (hnames : ∀ n ∈ names, Bundle.fit n = true)
    (hk : (Cond.classLink own ik cls).before args s = true) (hini : (Cond.initialized cls).before args s = true) (hstr : vk_R own is text sa s) (hat : ∀ w ∈ vx_atS own ic cls names, w.before args s = true)
    (hgood : ∀ w ∈ Cond.classLink own ik cls :: Cond.initialized cls :: vx_atS own ic cls names, vx_ot w = true)
    (hU : vx_Zq Bundle.tN "UNASSIGNED_STACK" Bundle.steD A s s.heap) (hN : vx_Zq Bundle.tN "SUPPRESSED_SENTINEL" Bundle.listD A s s.heap) (hS : va_S A s.heap H locs) (hsize : ls.size = c.maxLocals)
    (d0 : decode cc pc = .ok (.new ik, 3)) (d3 : decode cc (pc + 3) = .ok (.dup, 1)) (d4 : decode cc (pc + 4) = .ok (.ldc_w is, 3)) (d7 : decode cc (pc + 7) = .ok (.invokespecial ic, 3)) (d10 : decode cc (pc + 10) = .ok (.athrow, 1))
    (hout : ∀ x ∈ c.exceptionTable.toList, covers x (pc + 10) = false)
    (hRframes : names.length + 3 < R.frames) (hRlocals : (rest.map fun v => v.category).sum + (13 * (names.length + 1) + 43) ≤ R.locals) (hRcells : cells + 1 ≤ R.cells) (hRslots : slots + 6 ≤ R.slots) (hlocks : meth.locks = false)
    (hx : ∀ t : State, s.vm.Alike t.vm → H.size ≤ t.heap.size → (∀ q : Nat, q < H.size → t.heap[q]? = H[q]?) → XC cls s t)
    (hf : ∀ z ∈ locs, free z.base) (hc : cells + 1 ≤ mc) (hs : slots + 6 ≤ ms) :
    W p l e R s m args below meth c H locs cells slots (vx_MQ below Qc XC args s mc ms free) (F0 m pc ls rest) := by
  intro T hT X
  have htr : e.platform.stackTraces = false := (show e.platform.stackTraces = l.stackTraces by rw [X.admits.platform]).trans hl
  have Y := vx_rebase X (R' := { frames := R.frames, locals := R.locals, cells := 1, slots := 6 }) (Nat.le_refl _) (Nat.le_refl _) hRcells hRslots
  obtain ⟨s', hA⟩ : ∃ z, z = (T.setVm s.vm).setFrames (.invoking m args :: below) := ⟨_, rfl⟩
  rw [← hA] at Y
  have hvm : s'.vm = s.vm := by rw [hA]; rfl
  have hhp : s'.heap = H := by rw [hA]; exact hT
  have hW0 : s.WarmedH s'.vm := by rw [hvm]; exact State.WarmedH.refl s
  have hat' : ∀ w ∈ vx_atS own ic cls names, w.before args s' = true := fun w hw => vx_ot_at hW0 hvm.symm (hgood w (List.mem_cons_of_mem _ (List.mem_cons_of_mem _ hw))) (hat w hw)
  have hk' : (Cond.classLink own ik cls).before args s' = true := vx_ot_at hW0 hvm.symm (hgood _ List.mem_cons_self) hk
  have hini' : (Cond.initialized cls).before args s' = true := vx_ot_at hW0 hvm.symm (hgood _ (List.mem_cons_of_mem _ List.mem_cons_self)) hini
  have hU' : vx_Zq Bundle.tN "UNASSIGNED_STACK" Bundle.steD A s' s'.heap := by rw [hhp]; exact vx_Zq.moved hW0.alike (hU.kept hS.2.1)
  have hN' : vx_Zq Bundle.tN "SUPPRESSED_SENTINEL" Bundle.listD A s' s'.heap := by rw [hhp]; exact vx_Zq.moved hW0.alike (hN.kept hS.2.1)
  have h : ∀ w ∈ Bundle.ownAtoms own ic cls names, w.before args s' = true := vx_own hat' (vx_isRefq hU'.1) (vx_isRefq hN'.1) hU'.2.word hN'.2.word
  have hown' : s'.vm.findClass own = some m.cls := by rw [hvm]; exact hown
  have hins : (Cond.instantiable cls 6).before args s' = true := h _ (by simp [Bundle.ownAtoms])
  obtain ⟨vm₁, cX, kX, hfX, hkX, -, -, X₁, st1⟩ := Y.newCold hexec (own := own) (C := cls) (index := ik) (n := 6) hown' hk' hins hini'
    (g := F0 m pc ls rest) rfl (by rw [hb]; exact d0) (Nat.le_refl _) (Nat.le_refl _)
  generalize hT1 : (T.setVm vm₁).pushCell { cls := cX, slots := kX.instanceTypes.map defaultValue, vm := .none } = T1 at X₁ st1
  have hcat : (Value.ref T.heap.size).category = 1 := rfl
  have hcellA : T1.heap[T.heap.size]? = some (freshCell cX kX) := by rw [← hT1]; exact State.heap_pushCell_size _ _
  have d3' : decode c.code (pc + 3) = .ok (.dup, 1) := by rw [hb]; exact d3
  have d4' : decode c.code (pc + 4) = .ok (.ldc_w is, 3) := by rw [hb]; exact d4
  have hstr' : vk_R own is text sa s' := vk_R.warm hW0 hstr
  obtain ⟨U, hsteps, hrun, hend, hW, hsame, ce, hce, hO⟩ := X₁.ctorThrowS hexec htr (own := own) (cls := cls) (names := names) (ic := ic) hown' hcls hnames h (fun x hx => nomatch hx) hfX hkX hcellA (by rw [hhp, hT]; exact Nat.le_refl _) (msg := .ref sa) rfl
    (g := { method := m, pc := pc + 7, locals := ls, stack := .ref sa :: .ref T.heap.size :: .ref T.heap.size :: rest, locked := none }) rfl hsize rfl rfl (rest := rest) rfl
    (by rw [hb]; exact d7) (by rw [hb]; exact d10) hout hRframes (by simp only [List.map_cons, List.sum_cons, hcat]; omega) hlocks
  obtain ⟨f1, f2⟩ := vx_frame hsame
  rw [hhp] at f1 f2
  have hWs : s.WarmedH U.vm := State.WarmedH.trans hW0 hW
  have hcl : s.vm.findClass cls = some ce.cls := by
    have h9 := hO.cls
    rw [hvm] at h9
    exact h9
  have hall : s.sameButNew ({ U with vm := s.vm } : State) locs mc ms := by
    subst hA
    obtain ⟨e1, e2⟩ := hsame
    rw [State.setFrames_setFrames] at e1
    have h2 : (T.setVm s.vm).sameButNew ({ U with vm := s.vm } : State) [] (0 + 1) (0 + 6) := ⟨e1, e2⟩
    have h3 := X.same.trans h2
    rw [List.append_nil] at h3
    exact h3.mono hc hs
  refine ⟨U, ?_, .threw T.heap.size, hrun, hend, Or.inr ⟨T.heap.size, rfl, cls, ce, locs, hx U hWs.alike f1 (fun q hq => f2 q hq (fun z hz => nomatch hz)), hce, hO.vm, hcl, hWs, hall, hf⟩⟩
  refine st1 _ ?_
  show Steps p.tables e below (T1.setTop { method := m, pc := pc + 3, locals := ls, stack := .ref T.heap.size :: rest, locked := none }) _
  jvm_step X₁.here [X₁.here.top, hexec, d3', Value.category]
  exact X₁.ldcStringW hexec (own := own) (text := text) (index := is) (a := sa) hown' hstr'.1 hstr'.2
    (g := { method := m, pc := pc + 4, locals := ls, stack := .ref T.heap.size :: .ref T.heap.size :: rest, locked := none }) rfl d4' _ hsteps
end Ends
section Bodies
variable {l : Launch}
theorem vx_ofW {y : MethodName} {ws ws' : List Cond} {rm : Room} {Pc : Array Value → State → Prop} {Qc : Array Value → State → Outcome → State → Prop} {XC : String → State → State → Prop} {mc ms : Nat} {free : Addr → Prop} {cc : ByteArray} {maxL : Nat} {ret : Option FieldType}
    (hy : plainName y.cls = true) (hw : ws = Cond.code y cc maxL ret :: ws')
    (body : ∀ p e s m args below meth c s₁, BodyLoose p l y (headSpec ws rm) cc maxL ret e s m args below meth c s₁ → c.maxLocals = maxL → (∀ x ∈ c.exceptionTable.toList, False) → Pc args s →
      W p l e (headSpec ws rm).room s m args below meth c s.heap [] 0 0 (vx_MQ below Qc XC args s mc ms free) (entryFrame m args maxL)) : vx_Met l y ws rm Pc Qc XC mc ms free := by
  refine MetFree.of_bodyS (code := cc) (maxLocals := maxL) (ret := ret) hy ?_ ?_
  · intro args s m h hn
    obtain ⟨meth, c, h1, h2, h3, h4, h5, h6, -, -⟩ := Cond.code_spec hn (atoms_spec (ws := ws) h _ (by rw [hw]; exact List.mem_cons_self))
    exact ⟨meth, c, h1, h2, h3, h4, h5, h6⟩
  · intro p e s m args below meth c s₁ B hml hP _
    have hh0 : s₁.heap = s.heap := by rw [B.state]; rfl
    have ht : ∀ x ∈ c.exceptionTable.toList, False := by
      obtain ⟨meth9, c9, h1, h2, -, -, -, -, h7, -⟩ := Cond.code_spec B.named (atoms_spec (ws := ws) B.pre _ (by rw [hw]; exact List.mem_cons_self))
      cases Option.some.inj (h1.symm.trans B.method)
      cases Option.some.inj (h2.symm.trans (Stand.of_body B).code)
      intro x hx
      rw [Array.isEmpty_iff.mp h7] at hx
      cases hx
    obtain ⟨t, a1, o, b1, b2, b3⟩ := body p e s m args below meth c s₁ B hml ht hP s₁ hh0 (Stand.of_body B)
    exact ⟨t, o, a1, b1, b2, b3⟩
/-- the table of a body with handlers -/
theorem vx_table {p : Program} {x y : MethodName} {S : Spec} {cc bytes : ByteArray} {maxL maxL' : Nat} {ret ret' : Option FieldType} {e : Env} {s s₁ : State} {m : MethodId} {args : Array Value} {below : List Frame} {meth : Method} {c : Code} {hh : List (Nat × Nat × Nat × Nat)}
    (B : BodyLoose p l y S cc maxL ret e s m args below meth c s₁) (h : (Cond.codeWith y bytes maxL' ret' hh).before args s = true) : c.exceptionTable.toList = tableOf hh := by
  obtain ⟨m9, meth9, c9, hn9, h1, h2, -, -, h6, -⟩ := Cond.codeWith_spec h
  cases Option.some.inj (hn9.symm.trans B.named)
  cases Option.some.inj (h1.symm.trans B.method)
  cases Option.some.inj (h2.symm.trans (Stand.of_body B).code)
  rw [← h6, table_eq]
end Bodies
end VXA
/-! ===== END ===== -/
/-! ===== BEGIN a static call of a method with an exception table ===== -/
section VXS
variable {p : Program} {l : Launch} {e : Env} {R : Room} {s : State} {m : MethodId} {args : Array Value} {below : List Frame} {meth : Method} {c : Code} {T : State} {H : Heap} {locs : List Loc} {cells slots : Nat}
abbrev vx_CSW (R : Room) (s : State) (args : Array Value) (own : String) (index : Nat) (y : MethodName) (bytes : ByteArray) (maxL : Nat) (ret : Option FieldType) (hh : List (Nat × Nat × Nat × Nat)) (ws : List Cond) (rm : Room) (mc ms n : Nat) : Prop :=
  (rm.cells = mc ∧ rm.slots = ms ∧ rm.frames + 1 ≤ R.frames ∧ 8 + (maxL + 11) + rm.locals ≤ R.locals ∧ (∀ w ∈ ws, ∀ (a' : Array Value) (U : State), s.WarmedH U.vm → w.before a' U = true) ∧ Cond.codeWith y bytes maxL ret hh ∈ ws) ∧
  (Cond.codeWith y bytes maxL ret hh).before args s = true ∧ (Cond.initialized y.cls).before args s = true ∧ (y.cls ≠ "java/lang/invoke/MethodHandle" ∧ y.cls ≠ "java/lang/invoke/VarHandle") ∧
  (∀ sig, parseMethodDescriptor y.desc = some sig → n = sig.parameters.length) ∧ (Cond.methodLink own index y).before args s = true ∧ (Cond.static y).before args s = true
theorem vx_cwSW {own : String} {index maxL mc ms : Nat} {y : MethodName} {bytes : ByteArray} {ret : Option FieldType} {hh : List (Nat × Nat × Nat × Nat)} {Ts ws ws' : List Cond} {rm : Room} (n : Nat) (ht : ∀ w ∈ Ts, w.before args s = true) (hT : GoodIn Ts (va_wsS own index y ws)) (hw : ws = Cond.codeWith y bytes maxL ret hh :: ws') (hrc : rm.cells = mc) (hrs : rm.slots = ms)
    (hd : y.cls ≠ "java/lang/invoke/MethodHandle" ∧ y.cls ≠ "java/lang/invoke/VarHandle" ∧ (parseMethodDescriptor y.desc).map (fun d => d.parameters.length) = some n) (hR : rm.frames + 1 ≤ R.frames ∧ 8 + (maxL + 11) + rm.locals ≤ R.locals) :
    vx_CSW R s args own index y bytes maxL ret hh ws rm mc ms n := by
  have ok : ∀ w ∈ va_wsS own index y ws, w.before args s = true := fun w h => ht w (hT w h).1
  have hG : GoodIn Ts ws := fun w h => hT w (by unfold va_wsS; exact List.mem_append_right _ h)
  have hc : Cond.codeWith y bytes maxL ret hh ∈ ws := by rw [hw]; exact List.mem_cons_self
  refine ⟨⟨hrc, hrs, hR.1, hR.2, pay_in ht hG, hc⟩, ht _ (hG _ hc).1, ok _ (by simp [va_wsS]), ⟨hd.1, hd.2.1⟩, fun sig h => ?_, ok _ (by simp [va_wsS]), ok _ (by simp [va_wsS])⟩
  have h2 := hd.2.2
  rw [h] at h2
  exact (Option.some.inj h2).symm
theorem vx_callSW (X : Stand p l e R s m args below meth c T locs cells slots) (hexec : p.tables.exec = Jvm.exec) {own : String} {index : Nat} {y : MethodName} {bytes : ByteArray} {maxL : Nat} {ret : Option FieldType} {hh : List (Nat × Nat × Nat × Nat)}
    (hown : s.vm.findClass own = some m.cls) (hlink : (Cond.methodLink own index y).before args s = true) (hstat : (Cond.static y).before args s = true) (hinit : (Cond.initialized y.cls).before args s = true)
    (hcode : (Cond.codeWith y bytes maxL ret hh).before args s = true) (hy : y.cls ≠ "java/lang/invoke/MethodHandle" ∧ y.cls ≠ "java/lang/invoke/VarHandle")
    {W9 : Nat} {Pre : Pt → Array Value → Prop} {Post : Pt → Array Value → Option Value → Pt → Prop} (hK : Back l R p e below s args y 3 W9 Pre Post)
    {g : JFrame} (hg : g.method = m) (hsize : g.locals.size = c.maxLocals) {argsL rest : List Value} (hlen : ∀ sig, parseMethodDescriptor y.desc = some sig → argsL.length = sig.parameters.length)
    (hstack : g.stack = argsL.reverse ++ rest) (hW : 2 * g.monitorRoom + (rest.map fun v => v.category).sum ≤ W9) (hdg : decode c.code g.pc = .ok (.invokestatic index, 3))
    (hpre : ∀ vm₁, s.WarmedH vm₁ → Pre ⟨T.setVm vm₁, locs, cells, slots⟩ argsL.toArray) :
    ∃ (v : Option Value) (vm₁ : Vm) (B : Pt), s.WarmedH vm₁ ∧ Stand p l e R s m args below meth c B.U B.locs B.cells B.slots ∧ Post ⟨T.setVm vm₁, locs, cells, slots⟩ argsL.toArray v B ∧
      ∀ target, Steps p.tables e below (B.U.setTop { g with pc := g.pc + 3, stack := v.toList ++ rest }) target → Steps p.tables e below (T.setTop g) target := by
  obtain ⟨mk, methM, cM, hnamed, hmethM, -, -, -, -, -, -, hsigM⟩ := Cond.codeWith_spec hcode
  have hstatic : methM.isStatic = true := Cond.static_spec hnamed hmethM hstat
  obtain ⟨kP, hkP, -⟩ := className_of_methodNamed hnamed
  have hinitP : kP.init = .initialized := Cond.initialized_spec (findClass_of_methodNamed hnamed) hkP hinit
  obtain ⟨vm₁, X₁, hstep₁⟩ := X.invokestatic hexec hown hlink hnamed hmethM hstatic hkP hinitP hy (g := g) hg (argsL := argsL) (rest := rest) (hlen _ hsigM) hstack hdg
  obtain ⟨v, B, X', hpost, hsteps⟩ := hK m meth c ⟨T.setVm vm₁, locs, cells, slots⟩ { g with stack := rest } (.invokestatic index) mk argsL.toArray X₁ hg hsize hdg hW (X₁.named hnamed) (hpre vm₁ X₁.warmed)
  exact ⟨v, vm₁, B, X₁.warmed, X', hpost, fun target h => hstep₁ _ fun acts => by rw [doInvoke_state]; exact hsteps.trans h⟩
theorem vx_runSW {y : MethodName} {bytes cc : ByteArray} {maxL nL mc ms n index : Nat} {ret : Option FieldType} {hh : List (Nat × Nat × Nat × Nat)} {ws : List Cond} {rm : Room} {Pc : Array Value → State → Prop} {Qc : Array Value → State → Outcome → State → Prop} {free : Addr → Prop} {Ts : List Cond} {own : String} {As rest : List Value} {g : JFrame}
    (S : CallFix p m c cc nL s args Ts own) (hM : Met l y ws rm Pc Qc mc ms free) (cw : vx_CSW R s args own index y bytes maxL ret hh ws rm mc ms n) (hp : PreS s H Pc As)
    (hg : g.method = m) (hn : As.length = n) (hsize : g.locals.size = nL) (hstack : g.stack = As.reverse ++ rest) (hW : 2 * g.monitorRoom + (rest.map fun v => v.category).sum ≤ 8) (hdg : decode cc g.pc = .ok (.invokestatic index, 3)) (hf : cells + mc ≤ R.cells ∧ slots + ms ≤ R.slots) :
    va_Run p l e R s m args below meth c H locs cells slots mc ms g rest (Qc As.toArray) (free) := by
  obtain ⟨⟨hrc, hrs, hfr, hlo, hws, hcw⟩, hcode, hini, hy, hlen, hl, hstt⟩ := cw
  have hK : Back l R p e below s args y 3 8 (PreOf R mc ms Pc) (PostOf Qc mc ms free) := va_backW (hh := hh) (bytes := bytes) (maxL := maxL) (ret := ret) hM hp.1 hrc hrs hfr hlo hws hcw (fun a' U hW => word_at hW (Or.inl (by first | rfl | simp [Cond.onTables, Cond.keeps, Cond.steady])) hini)
  obtain ⟨hx, hb, hml, ho, -⟩ := S
  intro T hT X
  obtain ⟨v, vm₁, ⟨U', l2, c2, s2⟩, hW₁, X', ⟨g', mk, t, L, e1, e2, hq, h1, hL, h2, h3⟩, st⟩ := vx_callSW X hx (hh := hh) (bytes := bytes) (maxL := maxL) (ret := ret) ho hl hstt hini hcode hy hK hg (hsize.trans hml.symm) (argsL := As) (rest := rest) (fun sig h => hn.trans (hlen sig h)) hstack hW (by rw [hb]; exact hdg)
    (fun vm₁ hW₁ => ⟨hf.1, hf.2, hp.2 (T.setVm vm₁) hT hW₁⟩)
  dsimp only [Pt.U, Pt.locs, Pt.cells, Pt.slots] at X' e1 e2 h1 h2 h3 st
  subst h1; subst h2; subst h3
  exact ⟨v, (T.setVm vm₁).calling g' mk As.toArray, t, U', L, hT, X', hL, e1, e2, hq, st⟩
/-- not caught here, past rows that name other classes: it goes on to the caller -/
theorem vx_outP {p : Program} {l : Launch} {e : Env} {R : Room} {s : State} {m : MethodId} {args : Array Value} {below : List Frame} {meth : Method} {c : Code} {H : Heap} {locs : List Loc} {cells slots : Nat} {free : Addr → Prop} {ls : Array Slot} {rest : List Value} {Qc : Array Value → State → Outcome → State → Prop} {XC : String → State → State → Prop}
    {pc : Nat} {own E : String} {ce : Cell} {q : Addr} {mc ms : Nat} (hown : s.vm.findClass own = some m.cls) (hlocks : meth.locks = false)
    (hpass : ∀ z ∈ c.exceptionTable.toList, covers z pc = false ∨ (z.catchType ≠ 0 ∧ ∃ nm : String, (Cond.classLink own z.catchType nm).before args s = true ∧ va_Nc E nm s)) (hcell : H[q]? = some ce) (hv : ce.vm = .none) (hcl : s.vm.findClass E = some ce.cls)
    (hx : ∀ t : State, t.heap = H → s.vm.Alike t.vm → XC E s t) (hf : ∀ z ∈ locs, free z.base) (hc : cells ≤ mc) (hs : slots ≤ ms) :
    vx_W p l e R s m args below meth c H locs cells slots (vx_MQ below Qc XC args s mc ms free) (F0 m pc ls rest) q := by
  intro T hT X
  have hpl : e.platform.magicAccessors = ({} : Platform).magicAccessors := by rw [X.admits.platform]
  obtain ⟨vm', hW', X', st⟩ := X.outThrough hlocks q (g := F0 m pc ls rest) rfl rfl rfl (cell := ce) (by rw [hT]; exact hcell) (by rw [hv]; rfl)
    (by obtain ⟨k9, h9, -⟩ := Vm.findClass_spec hcl; exact ⟨k9, h9⟩) (fun z hz => by
      rcases hpass z hz with h | ⟨hz0, nm, hl1, hn1⟩
      · exact Or.inl h
      · obtain ⟨c6, hc6, hcl6⟩ := Cond.classLink_spec hown hl1 e.platform hpl
        obtain ⟨a8, b8, h1, h2, h3⟩ := hn1
        cases Option.some.inj (h1.symm.trans hcl)
        cases Option.some.inj (h2.symm.trans hc6)
        exact Or.inr ⟨hz0, _, hcl6, h3⟩)
  obtain ⟨g₀, hfr⟩ := X'.frames_eq
  have hcell9 : ((T.setVm vm').setFrames (.throwing q :: below)).heap[q]? = some ce := by
    show T.heap[q]? = some ce
    rw [hT]; exact hcell
  have hend : Ended ((T.setVm vm').setFrames (.throwing q :: below)) below (.threw q) := State.frames_setFrames _ (State.cur_lt_of_frames hfr)
  refine ⟨(T.setVm vm').setFrames (.throwing q :: below), ?_, .threw q, X'.here.running, hend, Or.inr ⟨q, rfl, E, ce, locs, hx _ hT (X'.ends _).1.alike, hcell9, hv, hcl, (X'.ends _).1, (X'.ends _).2.mono hc hs, hf⟩⟩
  rw [X.pushThrowing_eq]
  exact st
/-- a thing of a world lies in the heap -/
theorem vx_lt {D : va_G} {cl : List vw_C} {ws : va_W} {H1 : Heap} (h : va_P D cl ws H1) {k : Nat} {q : Nat × va_E} (hk : ws[k]? = some q) : q.1 < H1.size := (h k q hk).lt
end VXS
/-! ===== END ===== -/
/-! ===== BEGIN methods with a table of their own: called by a name, returning or throwing ===== -/
section VXH
/-! vx_backW, vx_callVX, vx_callSX, vx_callVW, vx_runVW, vx_runVX, vx_runSX, vx_ofWH follow the same proofs as their sisters above (Free/Laws.lean, Shelf42/LK1.lean); vx_outP calls Shelf42/NT130.lean (outThrough). -/
section
variable {l : Launch} {R : Room} {p : Program} {e : Env} {below : List Frame} {s : State} {sargs : Array Value} {y : MethodName} {len W9 : Nat}
theorem vx_backW {ws : List Cond} {rm : Room} {Pc : Array Value → State → Prop} {Qc : Array Value → State → Outcome → State → Prop} {XC : String → State → State → Prop} {mc ms : Nat} {free : Addr → Prop} {bytes : ByteArray} {maxL : Nat} {ret : Option FieldType} {hh : List (Nat × Nat × Nat × Nat)}
    (hM : vx_Met l y ws rm Pc Qc XC mc ms free) (hblind : FrameBlind Pc) (hrc : rm.cells = mc) (hrs : rm.slots = ms)
    (hframes : rm.frames + 1 ≤ R.frames) (hlocals : W9 + (maxL + 11) + rm.locals ≤ R.locals)
    (hws : ∀ w ∈ ws, ∀ a' U, s.WarmedH U.vm → w.before a' U = true) (hcode : Cond.codeWith y bytes maxL ret hh ∈ ws) (hinit : ∀ a' U, s.WarmedH U.vm → (Cond.initialized y.cls).before a' U = true) :
    vx_Back l R p e below s sargs y len W9 (PreOf R mc ms Pc) (PostOf Qc mc ms free) (vx_Post XC mc ms free) := by
  intro m meth c A g ig mk a X hg hsize hdg hW hn hp
  have h1 : (headSpec ws rm).pre.before a A.U = true := atoms_intro fun w hw => hws w hw _ _ X.warmed
  have h2 : (Cond.codeWith y bytes maxL ret hh).before a A.U = true := hws _ hcode _ _ X.warmed
  have h3 : (Cond.initialized y.cls).before a A.U = true := hinit _ _ X.warmed
  have h4 : A.cells + (headSpec ws rm).room.cells ≤ R.cells := by rw [show (headSpec ws rm).room.cells = mc from hrc]; exact hp.1
  have h5 : A.slots + (headSpec ws rm).room.slots ≤ R.slots := by rw [show (headSpec ws rm).room.slots = ms from hrs]; exact hp.2.1
  have hPc : Pc a (A.U.calling g mk a) := hblind _ _ _ _ hp.2.2
  obtain ⟨U, Ls, c0, s0⟩ := A
  dsimp only [Pt.U, Pt.locs, Pt.cells, Pt.slots] at h1 h2 h3 h4 h5 X hn hPc ⊢
  obtain ⟨m9, methY, cY, hn9, hmY, hcY, -, hlY, -⟩ := Cond.codeWith_spec h2
  cases Option.some.inj (hn9.symm.trans hn)
  obtain ⟨kY, hkY, -⟩ := className_of_methodNamed hn
  have hinitY : kY.init = .initialized := Cond.initialized_spec (findClass_of_methodNamed hn) hkY h3
  have h : At U g.method c below := by rw [hg]; exact X.here
  have hlocals9 : W9 + (maxL + 11) + (headSpec ws rm).room.locals ≤ R.locals := hlocals
  have happ : (headSpec ws rm).appliesLoose y e.platform (U.calling g mk a) = true :=
    Spec.appliesLoose_calling (g := g) h hdg hn hkY hinitY
      (X.room_calling (g := g) (R' := (headSpec ws rm).room) hsize hmY hcY hframes (by rw [hlY]; omega) h4 h5) h1
  obtain ⟨mid, hmid⟩ := h.above
  have hfr : (U.setTop g).frames = (.java g :: mid) ++ below := by rw [State.frames_setTop' g h.top, hmid]; rfl
  obtain ⟨o, s₂, hsteps, -, hend, hq⟩ := Steps.callFree hM p X.admits X.cas X.clock (acts := []) hfr happ hPc trivial
  have hq' : vx_Q Qc XC mc ms free a (U.calling g mk a) o s₂ := hq
  rw [State.frames_setTop' g h.top] at hend
  obtain ⟨g₀, hg0⟩ := Option.isSome_iff_exists.mp h.top
  obtain ⟨r, hr⟩ := State.topJava?_eq_some.mp hg0
  have hr' : (({ U with heap := s₂.heap, slotsUsed := s₂.slotsUsed } : State).setVm s₂.vm).frames = .java g₀ :: r := hr
  rcases hq' with ⟨hqc, L, hfe, hL⟩ | ⟨q, rfl, E, ce, L, hx, hce, hcv, hcl, hW₂, hsm, hL⟩
  · obtain ⟨⟨v, rfl⟩, hW₂, e2, q2, q3, q4, q5, q6⟩ := id hfe
    have e3 : s₂ = ({ (U.calling g mk a).setFrames s₂.frames with heap := s₂.heap, slotsUsed := s₂.slotsUsed } : State).setVm s₂.vm := by
      have : s₂ = ({ s₂ with vm := (U.calling g mk a).vm } : State).setVm s₂.vm := rfl
      rw [e2] at this
      exact this
    obtain ⟨c₂, i₂, len₂, hc₂, hd₂, hf₂⟩ := hend
    have hW' : U.WarmedH s₂.vm := hW₂
    have hcc : c₂ = c := by
      have h1 : s₂.code? g.method = U.code? g.method := by
        rw [State.code?_eq, State.code?_eq, hW'.alike.method?]
      exact Option.some.inj (hc₂.symm.trans (h1.trans h.code))
    subst hcc
    have hlen : len₂ = len := by rw [hdg] at hd₂; cases hd₂; rfl
    subst hlen
    have hs₂ : s₂ = (({ U with heap := s₂.heap, slotsUsed := s₂.slotsUsed } : State).setVm s₂.vm).setTop { g with pc := g.pc + len₂, stack := v.toList ++ g.stack } := by
      refine e3.trans ?_
      rw [hf₂, State.calling_eq h.top, State.setFrames_setFrames, State.setTop_of_frames _ hr', hr]
      rfl
    have hsame : U.sameButNew ({ U with heap := s₂.heap, slotsUsed := s₂.slotsUsed } : State) L mc ms := by
      refine ⟨?_, q2, q3, q4, q5, q6⟩
      obtain ⟨t, ht, -⟩ := State.frames_cons hr
      show ({ U with heap := s₂.heap, slotsUsed := s₂.slotsUsed } : State) = { U.setFrames U.frames with heap := s₂.heap, slotsUsed := s₂.slotsUsed }
      rw [State.setFrames_self ht]
    subst hg
    refine Or.inl ⟨v, ⟨(({ U with heap := s₂.heap, slotsUsed := s₂.slotsUsed } : State).setVm s₂.vm), Ls ++ L, c0 + mc, s0 + ms⟩,
      ⟨X.admits, X.cas, X.clock, X.frames, X.room, X.hears, X.method, X.code, (X.here.setHeapUsed s₂.heap s₂.slotsUsed).setVm hW'.alike, X.tail, State.WarmedH.trans X.warmed hW', X.limits, X.bytes, X.same.trans (hsame.setVm s.vm)⟩,
      ⟨g, mk, s₂, L, rfl, rfl, hqc, rfl, hL, rfl, rfl⟩, ?_⟩
    show Steps p.tables e below _ ((({ U with heap := s₂.heap, slotsUsed := s₂.slotsUsed } : State).setVm s₂.vm).setTop { g with pc := g.pc + len₂, stack := v.toList ++ g.stack })
    rw [← hs₂]
    exact hsteps
  · obtain ⟨e2, q2, q3, q4, q5, q6⟩ := id hsm
    have e3 : s₂ = ({ (U.calling g mk a).setFrames s₂.frames with heap := s₂.heap, slotsUsed := s₂.slotsUsed } : State).setVm s₂.vm := by
      have : s₂ = ({ s₂ with vm := (U.calling g mk a).vm } : State).setVm s₂.vm := rfl
      rw [e2] at this
      exact this
    have hf₂ : s₂.frames = .throwing q :: .java g :: U.frames.tail := hend
    have hW' : U.WarmedH s₂.vm := hW₂
    have hs₂ : s₂ = ((({ U with heap := s₂.heap, slotsUsed := s₂.slotsUsed } : State).setVm s₂.vm).setTop g).pushFrame (.throwing q) := by
      refine e3.trans ?_
      rw [hf₂, State.calling_eq h.top, State.setFrames_setFrames, State.pushFrame, State.frames_setTop _ hr', State.setTop_of_frames _ hr', State.setFrames_setFrames, hr]
      rfl
    have hsame : U.sameButNew ({ U with heap := s₂.heap, slotsUsed := s₂.slotsUsed } : State) L mc ms := by
      refine ⟨?_, q2, q3, q4, q5, q6⟩
      obtain ⟨t, ht, -⟩ := State.frames_cons hr
      show ({ U with heap := s₂.heap, slotsUsed := s₂.slotsUsed } : State) = { U.setFrames U.frames with heap := s₂.heap, slotsUsed := s₂.slotsUsed }
      rw [State.setFrames_self ht]
    subst hg
    refine Or.inr ⟨q, ⟨(({ U with heap := s₂.heap, slotsUsed := s₂.slotsUsed } : State).setVm s₂.vm), Ls ++ L, c0 + mc, s0 + ms⟩,
      ⟨X.admits, X.cas, X.clock, X.frames, X.room, X.hears, X.method, X.code, (X.here.setHeapUsed s₂.heap s₂.slotsUsed).setVm hW'.alike, X.tail, State.WarmedH.trans X.warmed hW', X.limits, X.bytes, X.same.trans (hsame.setVm s.vm)⟩,
      ⟨g, mk, s₂, L, E, ce, rfl, rfl, hx, hce, hcv, hcl, rfl, hL, rfl, rfl⟩, ?_⟩
    show Steps p.tables e below _ (((({ U with heap := s₂.heap, slotsUsed := s₂.slotsUsed } : State).setVm s₂.vm).setTop g).pushFrame (.throwing q))
    rw [← hs₂]
    exact hsteps
end
variable {p : Program} {l : Launch} {e : Env} {R : Room} {s : State} {m : MethodId} {args : Array Value} {below : List Frame} {meth : Method} {c : Code} {T : State} {H : Heap} {locs : List Loc} {cells slots : Nat}
theorem vx_callVX (X : Stand p l e R s m args below meth c T locs cells slots) (hexec : p.tables.exec = Jvm.exec) {own C : String} {index : Nat} {y : MethodName} {bytes : ByteArray} {maxL : Nat} {ret : Option FieldType} {hh : List (Nat × Nat × Nat × Nat)}
    (hown : s.vm.findClass own = some m.cls) (hlink : (Cond.methodLink own index y).before args s = true) (hinst : (Cond.instanceMethod y).before args s = true) (hsel : (Cond.selects C y y).before args s = true)
    (hcode : (Cond.codeWith y bytes maxL ret hh).before args s = true) (hy : y.cls ≠ "java/lang/invoke/MethodHandle" ∧ y.cls ≠ "java/lang/invoke/VarHandle")
    {W9 : Nat} {Pre : Pt → Array Value → Prop} {Post : Pt → Array Value → Option Value → Pt → Prop} {PostX : Pt → Array Value → Addr → Pt → Prop} (hK : vx_Back l R p e below s args y 3 W9 Pre Post PostX)
    {b : Addr} {cellB : Cell} (hcell : T.heap[b]? = some cellB) (hobj : cellB.vm.isStatics = false) (hcls : s.vm.findClass C = some cellB.cls)
    {g : JFrame} (hg : g.method = m) (hsize : g.locals.size = c.maxLocals) {argsL rest : List Value} (hlen : ∀ sig, parseMethodDescriptor y.desc = some sig → argsL.length = sig.parameters.length)
    (hstack : g.stack = argsL.reverse ++ .ref b :: rest) (hW : 2 * g.monitorRoom + (rest.map fun v => v.category).sum ≤ W9) (hdg : decode c.code g.pc = .ok (.invokevirtual index, 3))
    (hpre : ∀ vm₁, s.WarmedH vm₁ → Pre ⟨T.setVm vm₁, locs, cells, slots⟩ (Value.ref b :: argsL).toArray) :
    (∃ (v : Option Value) (vm₁ : Vm) (B : Pt), s.WarmedH vm₁ ∧ Stand p l e R s m args below meth c B.U B.locs B.cells B.slots ∧ Post ⟨T.setVm vm₁, locs, cells, slots⟩ (Value.ref b :: argsL).toArray v B ∧
      ∀ target, Steps p.tables e below (B.U.setTop { g with pc := g.pc + 3, stack := v.toList ++ rest }) target → Steps p.tables e below (T.setTop g) target) ∨
    (∃ (q : Addr) (vm₁ : Vm) (B : Pt), s.WarmedH vm₁ ∧ Stand p l e R s m args below meth c B.U B.locs B.cells B.slots ∧ PostX ⟨T.setVm vm₁, locs, cells, slots⟩ (Value.ref b :: argsL).toArray q B ∧
      Steps p.tables e below (T.setTop g) ((B.U.setTop { g with stack := rest }).pushFrame (.throwing q))) := by
  obtain ⟨mk, methM, hnamed, hmethM, hstM, habM⟩ := Cond.instanceMethod_spec hinst
  obtain ⟨m8, methM', cM, hn8, hmethM', -, -, -, -, -, -, hsigM⟩ := Cond.codeWith_spec hcode
  cases Option.some.inj (hn8.symm.trans hnamed)
  cases hmethM.symm.trans hmethM'
  obtain ⟨c2, r2, m2, q1, q2, q3, q4, kP, hkP, hkPi⟩ := Cond.selects_spec hsel
  cases hcls.symm.trans q1
  cases (State.methodFound?_of_named hnamed hy).symm.trans q2
  cases hnamed.symm.trans q3
  have hselP : selectMethod e.platform s.vm cellB.cls mk = .method mk := by rw [Launch.admits_selectMethod X.admits]; exact q4
  obtain ⟨vm₁, X₁, hstep₁⟩ := X.invokevirtual hexec hown hlink hnamed hmethM hstM hkP hkPi hy (a := b) (cell := cellB) hcell
    (fun z h => by rw [h] at hobj; cases hobj) hselP hmethM habM hkP hkPi (g := g) hg (argsL := argsL) (rest := rest) (hlen _ hsigM) hstack hdg
  rcases hK m meth c ⟨T.setVm vm₁, locs, cells, slots⟩ { g with stack := rest } (.invokevirtual index) mk (Value.ref b :: argsL).toArray X₁ hg hsize hdg hW (X₁.named hnamed) (hpre vm₁ X₁.warmed) with ⟨v, B, X', hpost, hsteps⟩ | ⟨q, B, X', hpost, hsteps⟩
  · exact Or.inl ⟨v, vm₁, B, X₁.warmed, X', hpost, fun target h => hstep₁ _ fun acts => by rw [doInvoke_state]; exact hsteps.trans h⟩
  · exact Or.inr ⟨q, vm₁, B, X₁.warmed, X', hpost, hstep₁ _ fun acts => by rw [doInvoke_state]; exact hsteps⟩
theorem vx_callSX (X : Stand p l e R s m args below meth c T locs cells slots) (hexec : p.tables.exec = Jvm.exec) {own : String} {index : Nat} {y : MethodName} {bytes : ByteArray} {maxL : Nat} {ret : Option FieldType} {hh : List (Nat × Nat × Nat × Nat)}
    (hown : s.vm.findClass own = some m.cls) (hlink : (Cond.methodLink own index y).before args s = true) (hstat : (Cond.static y).before args s = true) (hinit : (Cond.initialized y.cls).before args s = true)
    (hcode : (Cond.codeWith y bytes maxL ret hh).before args s = true) (hy : y.cls ≠ "java/lang/invoke/MethodHandle" ∧ y.cls ≠ "java/lang/invoke/VarHandle")
    {W9 : Nat} {Pre : Pt → Array Value → Prop} {Post : Pt → Array Value → Option Value → Pt → Prop} {PostX : Pt → Array Value → Addr → Pt → Prop} (hK : vx_Back l R p e below s args y 3 W9 Pre Post PostX)
    {g : JFrame} (hg : g.method = m) (hsize : g.locals.size = c.maxLocals) {argsL rest : List Value} (hlen : ∀ sig, parseMethodDescriptor y.desc = some sig → argsL.length = sig.parameters.length)
    (hstack : g.stack = argsL.reverse ++ rest) (hW : 2 * g.monitorRoom + (rest.map fun v => v.category).sum ≤ W9) (hdg : decode c.code g.pc = .ok (.invokestatic index, 3))
    (hpre : ∀ vm₁, s.WarmedH vm₁ → Pre ⟨T.setVm vm₁, locs, cells, slots⟩ argsL.toArray) :
    (∃ (v : Option Value) (vm₁ : Vm) (B : Pt), s.WarmedH vm₁ ∧ Stand p l e R s m args below meth c B.U B.locs B.cells B.slots ∧ Post ⟨T.setVm vm₁, locs, cells, slots⟩ argsL.toArray v B ∧
      ∀ target, Steps p.tables e below (B.U.setTop { g with pc := g.pc + 3, stack := v.toList ++ rest }) target → Steps p.tables e below (T.setTop g) target) ∨
    (∃ (q : Addr) (vm₁ : Vm) (B : Pt), s.WarmedH vm₁ ∧ Stand p l e R s m args below meth c B.U B.locs B.cells B.slots ∧ PostX ⟨T.setVm vm₁, locs, cells, slots⟩ argsL.toArray q B ∧
      Steps p.tables e below (T.setTop g) ((B.U.setTop { g with stack := rest }).pushFrame (.throwing q))) := by
  obtain ⟨mk, methM, cM, hnamed, hmethM, -, -, -, -, -, -, hsigM⟩ := Cond.codeWith_spec hcode
  have hstatic : methM.isStatic = true := Cond.static_spec hnamed hmethM hstat
  obtain ⟨kP, hkP, -⟩ := className_of_methodNamed hnamed
  have hinitP : kP.init = .initialized := Cond.initialized_spec (findClass_of_methodNamed hnamed) hkP hinit
  obtain ⟨vm₁, X₁, hstep₁⟩ := X.invokestatic hexec hown hlink hnamed hmethM hstatic hkP hinitP hy (g := g) hg (argsL := argsL) (rest := rest) (hlen _ hsigM) hstack hdg
  rcases hK m meth c ⟨T.setVm vm₁, locs, cells, slots⟩ { g with stack := rest } (.invokestatic index) mk argsL.toArray X₁ hg hsize hdg hW (X₁.named hnamed) (hpre vm₁ X₁.warmed) with ⟨v, B, X', hpost, hsteps⟩ | ⟨q, B, X', hpost, hsteps⟩
  · exact Or.inl ⟨v, vm₁, B, X₁.warmed, X', hpost, fun target h => hstep₁ _ fun acts => by rw [doInvoke_state]; exact hsteps.trans h⟩
  · exact Or.inr ⟨q, vm₁, B, X₁.warmed, X', hpost, hstep₁ _ fun acts => by rw [doInvoke_state]; exact hsteps⟩
theorem vx_callVW (X : Stand p l e R s m args below meth c T locs cells slots) (hexec : p.tables.exec = Jvm.exec) {own C : String} {index : Nat} {y : MethodName} {bytes : ByteArray} {maxL : Nat} {ret : Option FieldType} {hh : List (Nat × Nat × Nat × Nat)}
    (hown : s.vm.findClass own = some m.cls) (hlink : (Cond.methodLink own index y).before args s = true) (hinst : (Cond.instanceMethod y).before args s = true) (hsel : (Cond.selects C y y).before args s = true)
    (hcode : (Cond.codeWith y bytes maxL ret hh).before args s = true) (hy : y.cls ≠ "java/lang/invoke/MethodHandle" ∧ y.cls ≠ "java/lang/invoke/VarHandle")
    {W9 : Nat} {Pre : Pt → Array Value → Prop} {Post : Pt → Array Value → Option Value → Pt → Prop} (hK : Back l R p e below s args y 3 W9 Pre Post)
    {b : Addr} {cellB : Cell} (hcell : T.heap[b]? = some cellB) (hobj : cellB.vm.isStatics = false) (hcls : s.vm.findClass C = some cellB.cls)
    {g : JFrame} (hg : g.method = m) (hsize : g.locals.size = c.maxLocals) {argsL rest : List Value} (hlen : ∀ sig, parseMethodDescriptor y.desc = some sig → argsL.length = sig.parameters.length)
    (hstack : g.stack = argsL.reverse ++ .ref b :: rest) (hW : 2 * g.monitorRoom + (rest.map fun v => v.category).sum ≤ W9) (hdg : decode c.code g.pc = .ok (.invokevirtual index, 3))
    (hpre : ∀ vm₁, s.WarmedH vm₁ → Pre ⟨T.setVm vm₁, locs, cells, slots⟩ (Value.ref b :: argsL).toArray) :
    ∃ (v : Option Value) (vm₁ : Vm) (B : Pt), s.WarmedH vm₁ ∧ Stand p l e R s m args below meth c B.U B.locs B.cells B.slots ∧ Post ⟨T.setVm vm₁, locs, cells, slots⟩ (Value.ref b :: argsL).toArray v B ∧
      ∀ target, Steps p.tables e below (B.U.setTop { g with pc := g.pc + 3, stack := v.toList ++ rest }) target → Steps p.tables e below (T.setTop g) target := by
  obtain ⟨mk, methM, hnamed, hmethM, hstM, habM⟩ := Cond.instanceMethod_spec hinst
  obtain ⟨m8, methM', cM, hn8, hmethM', -, -, -, -, -, -, hsigM⟩ := Cond.codeWith_spec hcode
  cases Option.some.inj (hn8.symm.trans hnamed)
  cases hmethM.symm.trans hmethM'
  obtain ⟨c2, r2, m2, q1, q2, q3, q4, kP, hkP, hkPi⟩ := Cond.selects_spec hsel
  cases hcls.symm.trans q1
  cases (State.methodFound?_of_named hnamed hy).symm.trans q2
  cases hnamed.symm.trans q3
  have hselP : selectMethod e.platform s.vm cellB.cls mk = .method mk := by rw [Launch.admits_selectMethod X.admits]; exact q4
  obtain ⟨vm₁, X₁, hstep₁⟩ := X.invokevirtual hexec hown hlink hnamed hmethM hstM hkP hkPi hy (a := b) (cell := cellB) hcell
    (fun z h => by rw [h] at hobj; cases hobj) hselP hmethM habM hkP hkPi (g := g) hg (argsL := argsL) (rest := rest) (hlen _ hsigM) hstack hdg
  obtain ⟨v, B, X', hpost, hsteps⟩ := hK m meth c ⟨T.setVm vm₁, locs, cells, slots⟩ { g with stack := rest } (.invokevirtual index) mk (Value.ref b :: argsL).toArray X₁ hg hsize hdg hW (X₁.named hnamed) (hpre vm₁ X₁.warmed)
  exact ⟨v, vm₁, B, X₁.warmed, X', hpost, fun target h => hstep₁ _ fun acts => by rw [doInvoke_state]; exact hsteps.trans h⟩
abbrev vx_CVW (R : Room) (s : State) (args : Array Value) (own C : String) (index : Nat) (y : MethodName) (bytes : ByteArray) (maxL : Nat) (ret : Option FieldType) (hh : List (Nat × Nat × Nat × Nat)) (ws : List Cond) (rm : Room) (mc ms n : Nat) : Prop :=
  (rm.cells = mc ∧ rm.slots = ms ∧ rm.frames + 1 ≤ R.frames ∧ 8 + (maxL + 11) + rm.locals ≤ R.locals ∧ (∀ w ∈ ws, ∀ (a' : Array Value) (U : State), s.WarmedH U.vm → w.before a' U = true) ∧ Cond.codeWith y bytes maxL ret hh ∈ ws) ∧
  (Cond.codeWith y bytes maxL ret hh).before args s = true ∧ (Cond.initialized y.cls).before args s = true ∧ (y.cls ≠ "java/lang/invoke/MethodHandle" ∧ y.cls ≠ "java/lang/invoke/VarHandle") ∧
  (∀ sig, parseMethodDescriptor y.desc = some sig → n = sig.parameters.length) ∧ (Cond.methodLink own index y).before args s = true ∧ (Cond.instanceMethod y).before args s = true ∧ (Cond.selects C y y).before args s = true
theorem vx_cwVW {own C : String} {index maxL mc ms : Nat} {y : MethodName} {bytes : ByteArray} {ret : Option FieldType} {hh : List (Nat × Nat × Nat × Nat)} {Ts ws ws' : List Cond} {rm : Room} (n : Nat) (ht : ∀ w ∈ Ts, w.before args s = true) (hT : GoodIn Ts (wsV own index C y ws)) (hw : ws = Cond.codeWith y bytes maxL ret hh :: ws') (hrc : rm.cells = mc) (hrs : rm.slots = ms)
    (hd : y.cls = C ∧ y.cls ≠ "java/lang/invoke/MethodHandle" ∧ y.cls ≠ "java/lang/invoke/VarHandle" ∧ (parseMethodDescriptor y.desc).map (fun d => d.parameters.length) = some n) (hR : rm.frames + 1 ≤ R.frames ∧ 8 + (maxL + 11) + rm.locals ≤ R.locals) :
    vx_CVW R s args own C index y bytes maxL ret hh ws rm mc ms n := by
  obtain ⟨hC, hd⟩ := hd
  subst hC
  have ok : ∀ w ∈ wsV own index y.cls y ws, w.before args s = true := fun w h => ht w (hT w h).1
  have hG : GoodIn Ts ws := fun w h => hT w (by unfold wsV; exact List.mem_append_right _ h)
  have hc : Cond.codeWith y bytes maxL ret hh ∈ ws := by rw [hw]; exact List.mem_cons_self
  refine ⟨⟨hrc, hrs, hR.1, hR.2, pay_in ht hG, hc⟩, ht _ (hG _ hc).1, ok _ (by simp [wsV]), ⟨hd.1, hd.2.1⟩, fun sig h => ?_, ok _ (by simp [wsV]), ok _ (by simp [wsV]), ok _ (by simp [wsV])⟩
  have h2 := hd.2.2
  rw [h] at h2
  exact (Option.some.inj h2).symm
theorem vx_runVW {y : MethodName} {bytes cc : ByteArray} {maxL nL mc ms n index : Nat} {ret : Option FieldType} {hh : List (Nat × Nat × Nat × Nat)} {ws : List Cond} {rm : Room} {Pc : Array Value → State → Prop} {Qc : Array Value → State → Outcome → State → Prop} {free : Addr → Prop} {Ts : List Cond} {own C : String} {b : Addr} {As rest : List Value} {g : JFrame}
    (S : CallFix p m c cc nL s args Ts own) (hM : Met l y ws rm Pc Qc mc ms free) (cw : vx_CVW R s args own C index y bytes maxL ret hh ws rm mc ms n) (hp : PreV s H C b Pc As)
    (hg : g.method = m) (hn : As.length = n) (hsize : g.locals.size = nL) (hstack : g.stack = As.reverse ++ .ref b :: rest) (hW : 2 * g.monitorRoom + (rest.map fun v => v.category).sum ≤ 8) (hdg : decode cc g.pc = .ok (.invokevirtual index, 3)) (hf : cells + mc ≤ R.cells ∧ slots + ms ≤ R.slots) :
    va_Run p l e R s m args below meth c H locs cells slots mc ms g rest (Qc (Value.ref b :: As).toArray) free := by
  obtain ⟨⟨hrc, hrs, hfr, hlo, hws, hcw⟩, hcode, hini, hy, hlen, hl, hin, hse⟩ := cw
  have hK : Back l R p e below s args y 3 8 (PreOf R mc ms Pc) (PostOf Qc mc ms free) := va_backW (hh := hh) (bytes := bytes) (maxL := maxL) (ret := ret) hM hp.1 hrc hrs hfr hlo hws hcw (fun a' U hW => word_at hW (Or.inl (by first | rfl | simp [Cond.onTables, Cond.keeps, Cond.steady])) hini)
  obtain ⟨hx, hb, hml, ho, -⟩ := S
  obtain ⟨-, ⟨cellB, hcB, hoB, hclB⟩, hPc⟩ := hp
  intro T hT X
  obtain ⟨v, vm₁, ⟨U', l2, c2, s2⟩, hW₁, X', ⟨g', mk, t, L, e1, e2, hq, h1, hL, h2, h3⟩, st⟩ := vx_callVW X hx (C := C) (hh := hh) (bytes := bytes) (maxL := maxL) (ret := ret) ho hl hin hse hcode hy hK (by rw [hT]; exact hcB) hoB hclB hg (hsize.trans hml.symm) (argsL := As) (rest := rest) (fun sig h => hn.trans (hlen sig h)) hstack hW (by rw [hb]; exact hdg)
    (fun vm₁ hW₁ => ⟨hf.1, hf.2, hPc (T.setVm vm₁) hT hW₁⟩)
  dsimp only [Pt.U, Pt.locs, Pt.cells, Pt.slots] at X' e1 e2 h1 h2 h3 st
  subst h1; subst h2; subst h3
  exact ⟨v, (T.setVm vm₁).calling g' mk (Value.ref b :: As).toArray, t, U', L, hT, X', hL, e1, e2, hq, st⟩
section
variable {y : MethodName} {bytes cc : ByteArray} {maxL nL mc ms n index : Nat} {ret : Option FieldType} {ws : List Cond} {rm : Room} {Pc : Array Value → State → Prop} {Qc : Array Value → State → Outcome → State → Prop} {XC : String → State → State → Prop} {free : Addr → Prop} {Ts : List Cond} {own C : String} {b : Addr} {As rest : List Value} {g : JFrame}
theorem vx_runVX {hh : List (Nat × Nat × Nat × Nat)} (S : CallFix p m c cc nL s args Ts own) (hM : vx_Met l y ws rm Pc Qc XC mc ms free) (cw : vx_CVW R s args own C index y bytes maxL ret hh ws rm mc ms n) (hp : PreV s H C b Pc As)
    (hg : g.method = m) (hn : As.length = n) (hsize : g.locals.size = nL) (hstack : g.stack = As.reverse ++ .ref b :: rest) (hW : 2 * g.monitorRoom + (rest.map fun v => v.category).sum ≤ 8) (hdg : decode cc g.pc = .ok (.invokevirtual index, 3)) (hf : cells + mc ≤ R.cells ∧ slots + ms ≤ R.slots) :
    vx_Run p l e R s m args below meth c H locs cells slots mc ms g rest (Qc (Value.ref b :: As).toArray) XC free := by
  obtain ⟨⟨hrc, hrs, hfr, hlo, hws, hcw⟩, hcode, hini, hy, hlen, hl, hin, hse⟩ := cw
  have hK : vx_Back l R p e below s args y 3 8 (PreOf R mc ms Pc) (PostOf Qc mc ms free) (vx_Post XC mc ms free) := vx_backW (hh := hh) (bytes := bytes) (maxL := maxL) (ret := ret) hM hp.1 hrc hrs hfr hlo hws hcw (fun a' U hW => word_at hW (Or.inl (by first | rfl | simp [Cond.onTables, Cond.keeps, Cond.steady])) hini)
  obtain ⟨hx, hb, hml, ho, -⟩ := S
  obtain ⟨-, ⟨cellB, hcB, hoB, hclB⟩, hPc⟩ := hp
  intro T hT X
  rcases vx_callVX X hx (C := C) (hh := hh) (bytes := bytes) (maxL := maxL) (ret := ret) ho hl hin hse hcode hy hK (by rw [hT]; exact hcB) hoB hclB hg (hsize.trans hml.symm) (argsL := As) (rest := rest) (fun sig h => hn.trans (hlen sig h)) hstack hW (by rw [hb]; exact hdg)
    (fun vm₁ hW₁ => ⟨hf.1, hf.2, hPc (T.setVm vm₁) hT hW₁⟩) with ⟨v, vm₁, ⟨U', l2, c2, s2⟩, hW₁, X', ⟨g', mk, t, L, e1, e2, hq, h1, hL, h2, h3⟩, st⟩ | ⟨q, vm₁, ⟨U', l2, c2, s2⟩, hW₁, X', ⟨g', mk, t, L, E, ce, e1, e2, hq, hce, hcv, hcl, h1, hL, h2, h3⟩, st⟩
  · dsimp only [Pt.U, Pt.locs, Pt.cells, Pt.slots] at X' e1 e2 h1 h2 h3 st
    subst h1; subst h2; subst h3
    exact Or.inl ⟨v, (T.setVm vm₁).calling g' mk (Value.ref b :: As).toArray, t, U', L, hT, X', hL, e1, e2, hq, st⟩
  · dsimp only [Pt.U, Pt.locs, Pt.cells, Pt.slots] at X' e1 e2 h1 h2 h3 st hcl
    subst h1; subst h2; subst h3
    exact Or.inr ⟨q, (T.setVm vm₁).calling g' mk (Value.ref b :: As).toArray, t, U', L, E, ce, hT, X', hL, e1, e2, hq, hce, hcv, vx_cls hW₁ hcl, st⟩
theorem vx_runSX {hh : List (Nat × Nat × Nat × Nat)} (S : CallFix p m c cc nL s args Ts own) (hM : vx_Met l y ws rm Pc Qc XC mc ms free) (cw : vx_CSW R s args own index y bytes maxL ret hh ws rm mc ms n) (hp : PreS s H Pc As)
    (hg : g.method = m) (hn : As.length = n) (hsize : g.locals.size = nL) (hstack : g.stack = As.reverse ++ rest) (hW : 2 * g.monitorRoom + (rest.map fun v => v.category).sum ≤ 8) (hdg : decode cc g.pc = .ok (.invokestatic index, 3)) (hf : cells + mc ≤ R.cells ∧ slots + ms ≤ R.slots) :
    vx_Run p l e R s m args below meth c H locs cells slots mc ms g rest (Qc As.toArray) XC free := by
  obtain ⟨⟨hrc, hrs, hfr, hlo, hws, hcw⟩, hcode, hini, hy, hlen, hl, hstt⟩ := cw
  have hK : vx_Back l R p e below s args y 3 8 (PreOf R mc ms Pc) (PostOf Qc mc ms free) (vx_Post XC mc ms free) := vx_backW (hh := hh) (bytes := bytes) (maxL := maxL) (ret := ret) hM hp.1 hrc hrs hfr hlo hws hcw (fun a' U hW => word_at hW (Or.inl (by first | rfl | simp [Cond.onTables, Cond.keeps, Cond.steady])) hini)
  obtain ⟨hx, hb, hml, ho, -⟩ := S
  intro T hT X
  rcases vx_callSX X hx (hh := hh) (bytes := bytes) (maxL := maxL) (ret := ret) ho hl hstt hini hcode hy hK hg (hsize.trans hml.symm) (argsL := As) (rest := rest) (fun sig h => hn.trans (hlen sig h)) hstack hW (by rw [hb]; exact hdg)
    (fun vm₁ hW₁ => ⟨hf.1, hf.2, hp.2 (T.setVm vm₁) hT hW₁⟩) with ⟨v, vm₁, ⟨U', l2, c2, s2⟩, hW₁, X', ⟨g', mk, t, L, e1, e2, hq, h1, hL, h2, h3⟩, st⟩ | ⟨q, vm₁, ⟨U', l2, c2, s2⟩, hW₁, X', ⟨g', mk, t, L, E, ce, e1, e2, hq, hce, hcv, hcl, h1, hL, h2, h3⟩, st⟩
  · dsimp only [Pt.U, Pt.locs, Pt.cells, Pt.slots] at X' e1 e2 h1 h2 h3 st
    subst h1; subst h2; subst h3
    exact Or.inl ⟨v, (T.setVm vm₁).calling g' mk As.toArray, t, U', L, hT, X', hL, e1, e2, hq, st⟩
  · dsimp only [Pt.U, Pt.locs, Pt.cells, Pt.slots] at X' e1 e2 h1 h2 h3 st hcl
    subst h1; subst h2; subst h3
    exact Or.inr ⟨q, (T.setVm vm₁).calling g' mk As.toArray, t, U', L, E, ce, hT, X', hL, e1, e2, hq, hce, hcv, vx_cls hW₁ hcl, st⟩
end
end VXH
theorem vx_ofWH {l : Launch} {y : MethodName} {ws ws' : List Cond} {rm : Room} {Pc : Array Value → State → Prop} {Qc : Array Value → State → Outcome → State → Prop} {XC : String → State → State → Prop} {mc ms : Nat} {free : Addr → Prop} {cc : ByteArray} {maxL : Nat} {ret : Option FieldType} {hh : List (Nat × Nat × Nat × Nat)}
    (hy : plainName y.cls = true) (hw : ws = Cond.codeWith y cc maxL ret hh :: ws')
    (body : ∀ p e s m args below meth c s₁, BodyLoose p l y (headSpec ws rm) cc maxL ret e s m args below meth c s₁ → c.maxLocals = maxL → Pc args s →
      W p l e (headSpec ws rm).room s m args below meth c s.heap [] 0 0 (vx_MQ below Qc XC args s mc ms free) (entryFrame m args maxL)) : vx_Met l y ws rm Pc Qc XC mc ms free := by
  refine MetFree.of_bodyS (code := cc) (maxLocals := maxL) (ret := ret) hy ?_ ?_
  · intro args s m h hn
    obtain ⟨m9, meth, c, hn9, h1, h2, h3, h4, -, h5, h6, -⟩ := Cond.codeWith_spec (atoms_spec (ws := ws) h _ (by rw [hw]; exact List.mem_cons_self))
    cases hn.symm.trans hn9
    exact ⟨meth, c, h1, h2, h3, h4, h5, h6⟩
  · intro p e s m args below meth c s₁ B hml hP _
    have hh0 : s₁.heap = s.heap := by rw [B.state]; rfl
    obtain ⟨t, a1, o, b1, b2, b3⟩ := body p e s m args below meth c s₁ B hml hP s₁ hh0 (Stand.of_body B)
    exact ⟨t, o, a1, b1, b2, b3⟩
/-! ===== END ===== -/

def RX0 : String := "ShotListPlanner$Board"
def TX0 : u_T := fun k => match k with
  | 0 => ("ShotListPlanner$Board", "reach", "I", false)
  | 1 => ("ShotListPlanner$Board", "turn", "I", false)
  | 2 => ("ShotListPlanner$Board", "field", "I", false)
  | 3 => ("ShotListPlanner$Board", "sceneCount", "I", false)
  | 4 => ("ShotListPlanner$Board", "shotCount", "I", false)
  | 5 => ("ShotListPlanner$Board", "scenes", "[LShotListPlanner$Scene;", true)
  | _ => ("ShotListPlanner$Board", "shots", "[LShotListPlanner$Shot;", true)
def tyX0 : Nat → FieldType := fun k => match k with
  | 0 => .int
  | 1 => .int
  | 2 => .int
  | 3 => .int
  | 4 => .int
  | 5 => .array (.object "ShotListPlanner$Scene")
  | _ => .array (.object "ShotListPlanner$Shot")
abbrev wsX00 : List Cond := u_ws RX0 TX0 7
theorem nmX0 : ∀ a, a < 7 → ∀ b, b < 7 → a ≠ b → (TX0 a).2.1 ≠ (TX0 b).2.1 := by decide +kernel
theorem tyX0_ok : ∀ k, k < 7 → parseFieldDescriptor (TX0 k).2.2.1 = some (tyX0 k) := by decide +kernel
abbrev cX0_init : ByteArray := prog_2_method_1_code
def yX0_init : MethodName := ⟨RX0, "<init>", "()V"⟩
abbrev cX0_copyFrom : ByteArray := prog_2_method_2_code
def yX0_copyFrom : MethodName := ⟨RX0, "copyFrom", "(LShotListPlanner$Board;)V"⟩
abbrev cX0_secondsOfAllShots : ByteArray := prog_2_method_3_code
def yX0_secondsOfAllShots : MethodName := ⟨RX0, "secondsOfAllShots", "()I"⟩
abbrev cX0_shotsOfScene : ByteArray := prog_2_method_4_code
def yX0_shotsOfScene : MethodName := ⟨RX0, "shotsOfScene", "(I)I"⟩
abbrev cX0_isSubjectAt : ByteArray := prog_2_method_6_code
def yX0_isSubjectAt : MethodName := ⟨RX0, "isSubjectAt", "(LShotListPlanner$Shot;II)Z"⟩
abbrev cX0_hasCameraOn : ByteArray := prog_2_method_7_code
def yX0_hasCameraOn : MethodName := ⟨RX0, "hasCameraOn", "(IIII)Z"⟩
abbrev cX0_oppositeX : ByteArray := prog_2_method_8_code
def yX0_oppositeX : MethodName := ⟨RX0, "oppositeX", "(LShotListPlanner$Shot;)I"⟩
abbrev cX0_oppositeY : ByteArray := prog_2_method_9_code
def yX0_oppositeY : MethodName := ⟨RX0, "oppositeY", "(LShotListPlanner$Shot;)I"⟩
abbrev cX0_renumber : ByteArray := prog_2_method_10_code
def yX0_renumber : MethodName := ⟨RX0, "renumber", "(II)V"⟩
def RX1 : String := "ShotListPlanner$BoardReader"
def TX1 : u_T := fun k => match k with
  | 0 => ("ShotListPlanner$BoardReader", "text", "[I", false)
  | 1 => ("ShotListPlanner$BoardReader", "length", "I", false)
  | 2 => ("ShotListPlanner$BoardReader", "start", "I", false)
  | 3 => ("ShotListPlanner$BoardReader", "end", "I", false)
  | 4 => ("ShotListPlanner$BoardReader", "token", "I", false)
  | 5 => ("ShotListPlanner$BoardReader", "number", "I", false)
  | _ => ("ShotListPlanner$BoardReader", "error", "I", false)
def tyX1 : Nat → FieldType := fun k => match k with
  | 0 => .array .int
  | 1 => .int
  | 2 => .int
  | 3 => .int
  | 4 => .int
  | 5 => .int
  | _ => .int
abbrev wsX10 : List Cond := u_ws RX1 TX1 7
theorem nmX1 : ∀ a, a < 7 → ∀ b, b < 7 → a ≠ b → (TX1 a).2.1 ≠ (TX1 b).2.1 := by decide +kernel
theorem tyX1_ok : ∀ k, k < 7 → parseFieldDescriptor (TX1 k).2.2.1 = some (tyX1 k) := by decide +kernel
abbrev cX1_init : ByteArray := prog_3_method_1_code
def yX1_init : MethodName := ⟨RX1, "<init>", "()V"⟩
abbrev cX1_position : ByteArray := prog_3_method_2_code
def yX1_position : MethodName := ⟨RX1, "position", "()I"⟩
abbrev cX1_read : ByteArray := prog_3_method_3_code
def yX1_read : MethodName := ⟨RX1, "read", "([IILShotListPlanner$Board;)I"⟩
abbrev cX1_readLimits : ByteArray := prog_3_method_4_code
def yX1_readLimits : MethodName := ⟨RX1, "readLimits", "(LShotListPlanner$Board;)V"⟩
abbrev cX1_readStatement : ByteArray := prog_3_method_5_code
def yX1_readStatement : MethodName := ⟨RX1, "readStatement", "(LShotListPlanner$Board;)V"⟩
abbrev cX1_readScene : ByteArray := prog_3_method_6_code
def yX1_readScene : MethodName := ⟨RX1, "readScene", "(LShotListPlanner$Board;)V"⟩
abbrev cX1_readActor : ByteArray := prog_3_method_7_code
def yX1_readActor : MethodName := ⟨RX1, "readActor", "(LShotListPlanner$Board;)V"⟩
abbrev cX1_readShot : ByteArray := prog_3_method_8_code
def yX1_readShot : MethodName := ⟨RX1, "readShot", "(LShotListPlanner$Board;)V"⟩
abbrev cX1_readSubject : ByteArray := prog_3_method_9_code
def yX1_readSubject : MethodName := ⟨RX1, "readSubject", "(LShotListPlanner$Scene;LShotListPlanner$Shot;)V"⟩
abbrev cX1_readPartner : ByteArray := prog_3_method_10_code
def yX1_readPartner : MethodName := ⟨RX1, "readPartner", "(LShotListPlanner$Scene;LShotListPlanner$Shot;)V"⟩
abbrev cX1_canSceneEnd : ByteArray := prog_3_method_11_code
def yX1_canSceneEnd : MethodName := ⟨RX1, "canSceneEnd", "(LShotListPlanner$Board;)Z"⟩
abbrev cX1_seeActorOf : ByteArray := prog_3_method_12_code
def yX1_seeActorOf : MethodName := ⟨RX1, "seeActorOf", "(LShotListPlanner$Scene;)I"⟩
abbrev cX1_seeNumber : ByteArray := prog_3_method_13_code
def yX1_seeNumber : MethodName := ⟨RX1, "seeNumber", "(II)I"⟩
abbrev cX1_takeNumber : ByteArray := prog_3_method_14_code
def yX1_takeNumber : MethodName := ⟨RX1, "takeNumber", "(II)I"⟩
abbrev cX1_takeSemicolon : ByteArray := prog_3_method_15_code
def yX1_takeSemicolon : MethodName := ⟨RX1, "takeSemicolon", "()V"⟩
abbrev cX1_fail : ByteArray := prog_3_method_16_code
def yX1_fail : MethodName := ⟨RX1, "fail", "(I)V"⟩
abbrev cX1_advance : ByteArray := prog_3_method_17_code
def yX1_advance : MethodName := ⟨RX1, "advance", "()V"⟩
abbrev cX1_scanNumber : ByteArray := prog_3_method_18_code
def yX1_scanNumber : MethodName := ⟨RX1, "scanNumber", "()V"⟩
abbrev cX1_scanKeyword : ByteArray := prog_3_method_19_code
def yX1_scanKeyword : MethodName := ⟨RX1, "scanKeyword", "()V"⟩
abbrev cX1_isKeyword : ByteArray := prog_3_method_20_code
def yX1_isKeyword : MethodName := ⟨RX1, "isKeyword", "(Ljava/lang/String;)Z"⟩
abbrev cX1_isDigit : ByteArray := prog_3_method_21_code
def yX1_isDigit : MethodName := ⟨RX1, "isDigit", "(I)Z"⟩
abbrev cX1_isLetter : ByteArray := prog_3_method_22_code
def yX1_isLetter : MethodName := ⟨RX1, "isLetter", "(I)Z"⟩
def RX2 : String := "ShotListPlanner$Faults"
def TX2 : u_T := fun k => match k with
  | _ => ("", "", "", false)
def tyX2 : Nat → FieldType := fun k => match k with
  | _ => .int
abbrev wsX20 : List Cond := u_ws RX2 TX2 0
theorem nmX2 : ∀ a, a < 0 → ∀ b, b < 0 → a ≠ b → (TX2 a).2.1 ≠ (TX2 b).2.1 := by decide +kernel
theorem tyX2_ok : ∀ k, k < 0 → parseFieldDescriptor (TX2 k).2.2.1 = some (tyX2 k) := by decide +kernel
abbrev cX2_total : ByteArray := prog_4_method_2_code
def yX2_total : MethodName := ⟨RX2, "total", "(LShotListPlanner$Board;)I"⟩
abbrev cX2_kindsOf : ByteArray := prog_4_method_4_code
def yX2_kindsOf : MethodName := ⟨RX2, "kindsOf", "(LShotListPlanner$Board;I)I"⟩
abbrev cX2_causeOf : ByteArray := prog_4_method_5_code
def yX2_causeOf : MethodName := ⟨RX2, "causeOf", "(LShotListPlanner$Board;II)I"⟩
abbrev cX2_kindsBetween : ByteArray := prog_4_method_6_code
def yX2_kindsBetween : MethodName := ⟨RX2, "kindsBetween", "(LShotListPlanner$Board;LShotListPlanner$Shot;LShotListPlanner$Shot;)I"⟩
abbrev cX2_areSamePair : ByteArray := prog_4_method_7_code
def yX2_areSamePair : MethodName := ⟨RX2, "areSamePair", "(LShotListPlanner$Shot;LShotListPlanner$Shot;)Z"⟩
abbrev cX2_areFacing : ByteArray := prog_4_method_8_code
def yX2_areFacing : MethodName := ⟨RX2, "areFacing", "(LShotListPlanner$Shot;LShotListPlanner$Shot;)Z"⟩
def RX3 : String := "ShotListPlanner$History"
def TX3 : u_T := fun k => match k with
  | 0 => ("ShotListPlanner$History", "boards", "[LShotListPlanner$Board;", true)
  | 1 => ("ShotListPlanner$History", "next", "I", false)
  | _ => ("ShotListPlanner$History", "held", "I", false)
def tyX3 : Nat → FieldType := fun k => match k with
  | 0 => .array (.object "ShotListPlanner$Board")
  | 1 => .int
  | _ => .int
abbrev wsX30 : List Cond := u_ws RX3 TX3 3
theorem nmX3 : ∀ a, a < 3 → ∀ b, b < 3 → a ≠ b → (TX3 a).2.1 ≠ (TX3 b).2.1 := by decide +kernel
theorem tyX3_ok : ∀ k, k < 3 → parseFieldDescriptor (TX3 k).2.2.1 = some (tyX3 k) := by decide +kernel
abbrev cX3_init : ByteArray := prog_5_method_1_code
def yX3_init : MethodName := ⟨RX3, "<init>", "()V"⟩
abbrev cX3_forgetAll : ByteArray := prog_5_method_2_code
def yX3_forgetAll : MethodName := ⟨RX3, "forgetAll", "()V"⟩
abbrev cX3_remember : ByteArray := prog_5_method_3_code
def yX3_remember : MethodName := ⟨RX3, "remember", "(LShotListPlanner$Board;)V"⟩
def RX4 : String := "ShotListPlanner$Plan"
def TX4 : u_T := fun k => match k with
  | 0 => ("ShotListPlanner$Plan", "bytes", "[I", true)
  | _ => ("ShotListPlanner$Plan", "length", "I", false)
def tyX4 : Nat → FieldType := fun k => match k with
  | 0 => .array .int
  | _ => .int
abbrev wsX40 : List Cond := u_ws RX4 TX4 2
theorem nmX4 : ∀ a, a < 2 → ∀ b, b < 2 → a ≠ b → (TX4 a).2.1 ≠ (TX4 b).2.1 := by decide +kernel
theorem tyX4_ok : ∀ k, k < 2 → parseFieldDescriptor (TX4 k).2.2.1 = some (tyX4 k) := by decide +kernel
abbrev cX4_init : ByteArray := prog_6_method_1_code
def yX4_init : MethodName := ⟨RX4, "<init>", "()V"⟩
def RX5 : String := "ShotListPlanner$Route"
def TX5 : u_T := fun k => match k with
  | 0 => ("ShotListPlanner$Route", "most", "I", true)
  | 1 => ("ShotListPlanner$Route", "start", "[I", true)
  | 2 => ("ShotListPlanner$Route", "step", "[I", true)
  | 3 => ("ShotListPlanner$Route", "rest", "[I", true)
  | 4 => ("ShotListPlanner$Route", "order", "[I", true)
  | 5 => ("ShotListPlanner$Route", "cost", "I", false)
  | _ => ("ShotListPlanner$Route", "size", "I", false)
def tyX5 : Nat → FieldType := fun k => match k with
  | 0 => .int
  | 1 => .array .int
  | 2 => .array .int
  | 3 => .array .int
  | 4 => .array .int
  | 5 => .int
  | _ => .int
abbrev wsX50 : List Cond := u_ws RX5 TX5 7
theorem nmX5 : ∀ a, a < 7 → ∀ b, b < 7 → a ≠ b → (TX5 a).2.1 ≠ (TX5 b).2.1 := by decide +kernel
theorem tyX5_ok : ∀ k, k < 7 → parseFieldDescriptor (TX5 k).2.2.1 = some (tyX5 k) := by decide +kernel
abbrev cX5_init : ByteArray := prog_7_method_1_code
def yX5_init : MethodName := ⟨RX5, "<init>", "(I)V"⟩
def RX6 : String := "ShotListPlanner$Scene"
def TX6 : u_T := fun k => match k with
  | 0 => ("ShotListPlanner$Scene", "light", "I", false)
  | 1 => ("ShotListPlanner$Scene", "cast", "I", false)
  | 2 => ("ShotListPlanner$Scene", "x", "[I", true)
  | _ => ("ShotListPlanner$Scene", "y", "[I", true)
def tyX6 : Nat → FieldType := fun k => match k with
  | 0 => .int
  | 1 => .int
  | 2 => .array .int
  | _ => .array .int
abbrev wsX60 : List Cond := u_ws RX6 TX6 4
theorem nmX6 : ∀ a, a < 4 → ∀ b, b < 4 → a ≠ b → (TX6 a).2.1 ≠ (TX6 b).2.1 := by decide +kernel
theorem tyX6_ok : ∀ k, k < 4 → parseFieldDescriptor (TX6 k).2.2.1 = some (tyX6 k) := by decide +kernel
abbrev cX6_init : ByteArray := prog_8_method_1_code
def yX6_init : MethodName := ⟨RX6, "<init>", "()V"⟩
abbrev cX6_hasActor : ByteArray := prog_8_method_2_code
def yX6_hasActor : MethodName := ⟨RX6, "hasActor", "(I)Z"⟩
abbrev cX6_isActorAt : ByteArray := prog_8_method_3_code
def yX6_isActorAt : MethodName := ⟨RX6, "isActorAt", "(III)Z"⟩
abbrev cX6_copyFrom : ByteArray := prog_8_method_4_code
def yX6_copyFrom : MethodName := ⟨RX6, "copyFrom", "(LShotListPlanner$Scene;)V"⟩
def RX7 : String := "ShotListPlanner$SetupTable"
def TX7 : u_T := fun k => match k with
  | 0 => ("ShotListPlanner$SetupTable", "size", "I", false)
  | 1 => ("ShotListPlanner$SetupTable", "homeOfShot", "[I", true)
  | 2 => ("ShotListPlanner$SetupTable", "first", "[I", true)
  | 3 => ("ShotListPlanner$SetupTable", "shots", "[I", true)
  | 4 => ("ShotListPlanner$SetupTable", "actors", "[I", true)
  | 5 => ("ShotListPlanner$SetupTable", "seconds", "[I", true)
  | 6 => ("ShotListPlanner$SetupTable", "scene", "[I", true)
  | 7 => ("ShotListPlanner$SetupTable", "light", "[I", true)
  | 8 => ("ShotListPlanner$SetupTable", "trialHomes", "[I", true)
  | _ => ("ShotListPlanner$SetupTable", "trialFirst", "[I", true)
def tyX7 : Nat → FieldType := fun k => match k with
  | 0 => .int
  | 1 => .array .int
  | 2 => .array .int
  | 3 => .array .int
  | 4 => .array .int
  | 5 => .array .int
  | 6 => .array .int
  | 7 => .array .int
  | 8 => .array .int
  | _ => .array .int
abbrev wsX70 : List Cond := u_ws RX7 TX7 10
theorem nmX7 : ∀ a, a < 10 → ∀ b, b < 10 → a ≠ b → (TX7 a).2.1 ≠ (TX7 b).2.1 := by decide +kernel
theorem tyX7_ok : ∀ k, k < 10 → parseFieldDescriptor (TX7 k).2.2.1 = some (tyX7 k) := by decide +kernel
abbrev cX7_init : ByteArray := prog_9_method_1_code
def yX7_init : MethodName := ⟨RX7, "<init>", "()V"⟩
abbrev cX7_fill : ByteArray := prog_9_method_2_code
def yX7_fill : MethodName := ⟨RX7, "fill", "(LShotListPlanner$Board;)V"⟩
abbrev cX7_group : ByteArray := prog_9_method_4_code
def yX7_group : MethodName := ⟨RX7, "group", "(LShotListPlanner$Board;I[I[I)I"⟩
abbrev cX7_costOfStart : ByteArray := prog_9_method_5_code
def yX7_costOfStart : MethodName := ⟨RX7, "costOfStart", "(I)I"⟩
abbrev cX7_costOfChange : ByteArray := prog_9_method_6_code
def yX7_costOfChange : MethodName := ⟨RX7, "costOfChange", "(II)I"⟩
def RX8 : String := "ShotListPlanner$Shot"
def TX8 : u_T := fun k => match k with
  | 0 => ("ShotListPlanner$Shot", "scene", "I", false)
  | 1 => ("ShotListPlanner$Shot", "x", "I", false)
  | 2 => ("ShotListPlanner$Shot", "y", "I", false)
  | 3 => ("ShotListPlanner$Shot", "subject", "I", false)
  | 4 => ("ShotListPlanner$Shot", "partner", "I", false)
  | _ => ("ShotListPlanner$Shot", "seconds", "I", false)
def tyX8 : Nat → FieldType := fun k => match k with
  | 0 => .int
  | 1 => .int
  | 2 => .int
  | 3 => .int
  | 4 => .int
  | _ => .int
abbrev wsX80 : List Cond := u_ws RX8 TX8 6
theorem nmX8 : ∀ a, a < 6 → ∀ b, b < 6 → a ≠ b → (TX8 a).2.1 ≠ (TX8 b).2.1 := by decide +kernel
theorem tyX8_ok : ∀ k, k < 6 → parseFieldDescriptor (TX8 k).2.2.1 = some (tyX8 k) := by decide +kernel
abbrev cX8_init : ByteArray := prog_10_method_1_code
def yX8_init : MethodName := ⟨RX8, "<init>", "()V"⟩
abbrev cX8_placeCamera : ByteArray := prog_10_method_2_code
def yX8_placeCamera : MethodName := ⟨RX8, "placeCamera", "(II)V"⟩
abbrev cX8_copyFrom : ByteArray := prog_10_method_3_code
def yX8_copyFrom : MethodName := ⟨RX8, "copyFrom", "(LShotListPlanner$Shot;)V"⟩
def RX9 : String := "ShotListPlanner$Sight"
def TX9 : u_T := fun k => match k with
  | _ => ("", "", "", false)
def tyX9 : Nat → FieldType := fun k => match k with
  | _ => .int
abbrev wsX90 : List Cond := u_ws RX9 TX9 0
theorem nmX9 : ∀ a, a < 0 → ∀ b, b < 0 → a ≠ b → (TX9 a).2.1 ≠ (TX9 b).2.1 := by decide +kernel
theorem tyX9_ok : ∀ k, k < 0 → parseFieldDescriptor (TX9 k).2.2.1 = some (tyX9 k) := by decide +kernel
abbrev cX9_viewOf : ByteArray := prog_11_method_2_code
def yX9_viewOf : MethodName := ⟨RX9, "viewOf", "(LShotListPlanner$Board;LShotListPlanner$Shot;)I"⟩
abbrev cX9_sideOf : ByteArray := prog_11_method_3_code
def yX9_sideOf : MethodName := ⟨RX9, "sideOf", "(LShotListPlanner$Board;LShotListPlanner$Shot;)I"⟩
abbrev cX9_lookOf : ByteArray := prog_11_method_4_code
def yX9_lookOf : MethodName := ⟨RX9, "lookOf", "(LShotListPlanner$Board;LShotListPlanner$Shot;)I"⟩
abbrev cX9_seenBy : ByteArray := prog_11_method_5_code
def yX9_seenBy : MethodName := ⟨RX9, "seenBy", "(LShotListPlanner$Board;LShotListPlanner$Shot;)I"⟩
abbrev cX9_eyelineOf : ByteArray := prog_11_method_6_code
def yX9_eyelineOf : MethodName := ⟨RX9, "eyelineOf", "(LShotListPlanner$Board;LShotListPlanner$Shot;)I"⟩
abbrev cX9_areNear : ByteArray := prog_11_method_7_code
def yX9_areNear : MethodName := ⟨RX9, "areNear", "(LShotListPlanner$Board;LShotListPlanner$Shot;LShotListPlanner$Shot;I)Z"⟩
abbrev cX9_blockerOf : ByteArray := prog_11_method_8_code
def yX9_blockerOf : MethodName := ⟨RX9, "blockerOf", "(LShotListPlanner$Board;LShotListPlanner$Shot;)I"⟩
def RX10 : String := "ShotListPlanner"
def TX10 : u_T := fun k => match k with
  | 0 => ("ShotListPlanner", "text", "[I", true)
  | 1 => ("ShotListPlanner", "textLength", "I", false)
  | 2 => ("ShotListPlanner", "errorAt", "I", false)
  | 3 => ("ShotListPlanner", "hasBoard", "Z", false)
  | 4 => ("ShotListPlanner", "board", "LShotListPlanner$Board;", true)
  | 5 => ("ShotListPlanner", "draft", "LShotListPlanner$Board;", true)
  | 6 => ("ShotListPlanner", "reader", "LShotListPlanner$BoardReader;", true)
  | 7 => ("ShotListPlanner", "history", "LShotListPlanner$History;", true)
  | 8 => ("ShotListPlanner", "table", "LShotListPlanner$SetupTable;", true)
  | 9 => ("ShotListPlanner", "knowsSetups", "Z", false)
  | 10 => ("ShotListPlanner", "setupRoute", "LShotListPlanner$Route;", true)
  | 11 => ("ShotListPlanner", "knowsOrder", "Z", false)
  | 12 => ("ShotListPlanner", "shotRoute", "LShotListPlanner$Route;", true)
  | _ => ("ShotListPlanner", "plan", "LShotListPlanner$Plan;", true)
def tyX10 : Nat → FieldType := fun k => match k with
  | 0 => .array .int
  | 1 => .int
  | 2 => .int
  | 3 => .boolean
  | 4 => .object "ShotListPlanner$Board"
  | 5 => .object "ShotListPlanner$Board"
  | 6 => .object "ShotListPlanner$BoardReader"
  | 7 => .object "ShotListPlanner$History"
  | 8 => .object "ShotListPlanner$SetupTable"
  | 9 => .boolean
  | 10 => .object "ShotListPlanner$Route"
  | 11 => .boolean
  | 12 => .object "ShotListPlanner$Route"
  | _ => .object "ShotListPlanner$Plan"
abbrev wsX100 : List Cond := u_ws RX10 TX10 14
theorem nmX10 : ∀ a, a < 14 → ∀ b, b < 14 → a ≠ b → (TX10 a).2.1 ≠ (TX10 b).2.1 := by decide +kernel
theorem tyX10_ok : ∀ k, k < 14 → parseFieldDescriptor (TX10 k).2.2.1 = some (tyX10 k) := by decide +kernel
abbrev cX10_init : ByteArray := prog_1_method_1_code
def yX10_init : MethodName := ⟨RX10, "<init>", "()V"⟩
abbrev cX10_append : ByteArray := prog_1_method_2_code
def yX10_append : MethodName := ⟨RX10, "append", "(IIIII)I"⟩
abbrev cX10_putFourBytes : ByteArray := prog_1_method_3_code
def yX10_putFourBytes : MethodName := ⟨RX10, "putFourBytes", "(I)V"⟩
abbrev cX10_truncate : ByteArray := prog_1_method_4_code
def yX10_truncate : MethodName := ⟨RX10, "truncate", "(I)I"⟩
abbrev cX10_load : ByteArray := prog_1_method_5_code
def yX10_load : MethodName := ⟨RX10, "load", "()I"⟩
abbrev cX10_errorPosition : ByteArray := prog_1_method_6_code
def yX10_errorPosition : MethodName := ⟨RX10, "errorPosition", "()I"⟩
abbrev cX10_count : ByteArray := prog_1_method_7_code
def yX10_count : MethodName := ⟨RX10, "count", "(I)I"⟩
abbrev cX10_scene : ByteArray := prog_1_method_8_code
def yX10_scene : MethodName := ⟨RX10, "scene", "(II)I"⟩
abbrev cX10_actor : ByteArray := prog_1_method_9_code
def yX10_actor : MethodName := ⟨RX10, "actor", "(IIZ)I"⟩
abbrev cX10_shot : ByteArray := prog_1_method_10_code
def yX10_shot : MethodName := ⟨RX10, "shot", "(II)I"⟩
abbrev cX10_setLimits : ByteArray := prog_1_method_11_code
def yX10_setLimits : MethodName := ⟨RX10, "setLimits", "(III)I"⟩
abbrev cX10_setLight : ByteArray := prog_1_method_12_code
def yX10_setLight : MethodName := ⟨RX10, "setLight", "(II)I"⟩
abbrev cX10_moveActor : ByteArray := prog_1_method_13_code
def yX10_moveActor : MethodName := ⟨RX10, "moveActor", "(IIII)I"⟩
abbrev cX10_moveCamera : ByteArray := prog_1_method_14_code
def yX10_moveCamera : MethodName := ⟨RX10, "moveCamera", "(III)I"⟩
abbrev cX10_setCast : ByteArray := prog_1_method_15_code
def yX10_setCast : MethodName := ⟨RX10, "setCast", "(III)I"⟩
abbrev cX10_setLength : ByteArray := prog_1_method_16_code
def yX10_setLength : MethodName := ⟨RX10, "setLength", "(II)I"⟩
abbrev cX10_shift : ByteArray := prog_1_method_17_code
def yX10_shift : MethodName := ⟨RX10, "shift", "(II)I"⟩
abbrev cX10_drop : ByteArray := prog_1_method_18_code
def yX10_drop : MethodName := ⟨RX10, "drop", "(I)I"⟩
abbrev cX10_flip : ByteArray := prog_1_method_19_code
def yX10_flip : MethodName := ⟨RX10, "flip", "(I)I"⟩
abbrev cX10_view : ByteArray := prog_1_method_23_code
def yX10_view : MethodName := ⟨RX10, "view", "(I)I"⟩
abbrev cX10_side : ByteArray := prog_1_method_24_code
def yX10_side : MethodName := ⟨RX10, "side", "(I)I"⟩
abbrev cX10_look : ByteArray := prog_1_method_25_code
def yX10_look : MethodName := ⟨RX10, "look", "(I)I"⟩
abbrev cX10_visible : ByteArray := prog_1_method_26_code
def yX10_visible : MethodName := ⟨RX10, "visible", "(I)I"⟩
abbrev cX10_eyeline : ByteArray := prog_1_method_27_code
def yX10_eyeline : MethodName := ⟨RX10, "eyeline", "(I)I"⟩
abbrev cX10_isNear : ByteArray := prog_1_method_28_code
def yX10_isNear : MethodName := ⟨RX10, "isNear", "(II)Z"⟩
abbrev cX10_faults : ByteArray := prog_1_method_29_code
def yX10_faults : MethodName := ⟨RX10, "faults", "()I"⟩
abbrev cX10_fault : ByteArray := prog_1_method_30_code
def yX10_fault : MethodName := ⟨RX10, "fault", "(II)I"⟩
abbrev cX10_propertyOfFault : ByteArray := prog_1_method_31_code
def yX10_propertyOfFault : MethodName := ⟨RX10, "propertyOfFault", "(III)I"⟩
abbrev cX10_faultsOf : ByteArray := prog_1_method_32_code
def yX10_faultsOf : MethodName := ⟨RX10, "faultsOf", "(I)I"⟩
abbrev cX10_setups : ByteArray := prog_1_method_35_code
def yX10_setups : MethodName := ⟨RX10, "setups", "()I"⟩
abbrev cX10_setupOf : ByteArray := prog_1_method_36_code
def yX10_setupOf : MethodName := ⟨RX10, "setupOf", "(I)I"⟩
abbrev cX10_setup : ByteArray := prog_1_method_37_code
def yX10_setup : MethodName := ⟨RX10, "setup", "(II)I"⟩
abbrev cX10_change : ByteArray := prog_1_method_40_code
def yX10_change : MethodName := ⟨RX10, "change", "(II)I"⟩
abbrev cX10_plainCost : ByteArray := prog_1_method_41_code
def yX10_plainCost : MethodName := ⟨RX10, "plainCost", "()I"⟩
abbrev cX10_needBoard : ByteArray := prog_1_method_52_code
def yX10_needBoard : MethodName := ⟨RX10, "needBoard", "()V"⟩
abbrev cX10_needRange : ByteArray := prog_1_method_53_code
def yX10_needRange : MethodName := ⟨RX10, "needRange", "(III)V"⟩
abbrev cX10_needPlace : ByteArray := prog_1_method_54_code
def yX10_needPlace : MethodName := ⟨RX10, "needPlace", "(II)V"⟩
abbrev cX10_needScene : ByteArray := prog_1_method_55_code
def yX10_needScene : MethodName := ⟨RX10, "needScene", "(I)V"⟩
abbrev cX10_needShot : ByteArray := prog_1_method_56_code
def yX10_needShot : MethodName := ⟨RX10, "needShot", "(I)V"⟩
abbrev cX10_needSetup : ByteArray := prog_1_method_57_code
def yX10_needSetup : MethodName := ⟨RX10, "needSetup", "(I)V"⟩
abbrev cX10_needActor : ByteArray := prog_1_method_58_code
def yX10_needActor : MethodName := ⟨RX10, "needActor", "(LShotListPlanner$Scene;I)V"⟩
abbrev cX10_beginAction : ByteArray := prog_1_method_59_code
def yX10_beginAction : MethodName := ⟨RX10, "beginAction", "()V"⟩
abbrev cX10_forgetAnswers : ByteArray := prog_1_method_60_code
def yX10_forgetAnswers : MethodName := ⟨RX10, "forgetAnswers", "()V"⟩
abbrev cX10_settleSetups : ByteArray := prog_1_method_61_code
def yX10_settleSetups : MethodName := ⟨RX10, "settleSetups", "()V"⟩
abbrev cX10_obstacleToFlip : ByteArray := prog_1_method_65_code
def yX10_obstacleToFlip : MethodName := ⟨RX10, "obstacleToFlip", "(LShotListPlanner$Shot;)I"⟩
abbrev cX10_turnOver : ByteArray := prog_1_method_66_code
def yX10_turnOver : MethodName := ⟨RX10, "turnOver", "(LShotListPlanner$Shot;)V"⟩
abbrev cX10_holds : ByteArray := prog_1_method_68_code
def yX10_holds : MethodName := ⟨RX10, "holds", "(II)Z"⟩
abbrev cX10_crossProduct : ByteArray := prog_1_method_69_code
def yX10_crossProduct : MethodName := ⟨RX10, "crossProduct", "(IIII)I"⟩
abbrev cX10_signOf : ByteArray := prog_1_method_70_code
def yX10_signOf : MethodName := ⟨RX10, "signOf", "(I)I"⟩
abbrev cX10_directionNumber : ByteArray := prog_1_method_71_code
def yX10_directionNumber : MethodName := ⟨RX10, "directionNumber", "(II)I"⟩
abbrev cX10_turnBetween : ByteArray := prog_1_method_72_code
def yX10_turnBetween : MethodName := ⟨RX10, "turnBetween", "(II)I"⟩
def RX11 : String := "ShotListPlannerLaw$Board"
def TX11 : u_T := fun k => match k with
  | 0 => ("ShotListPlannerLaw$Board", "reach", "I", false)
  | 1 => ("ShotListPlannerLaw$Board", "turn", "I", false)
  | 2 => ("ShotListPlannerLaw$Board", "field", "I", false)
  | 3 => ("ShotListPlannerLaw$Board", "shots", "Ljava/util/ArrayList;", true)
  | 4 => ("ShotListPlannerLaw$Board", "light", "[I", false)
  | 5 => ("ShotListPlannerLaw$Board", "px", "[[I", false)
  | _ => ("ShotListPlannerLaw$Board", "py", "[[I", false)
def tyX11 : Nat → FieldType := fun k => match k with
  | 0 => .int
  | 1 => .int
  | 2 => .int
  | 3 => .object "java/util/ArrayList"
  | 4 => .array .int
  | 5 => .array (.array .int)
  | _ => .array (.array .int)
abbrev wsX110 : List Cond := u_ws RX11 TX11 7
theorem nmX11 : ∀ a, a < 7 → ∀ b, b < 7 → a ≠ b → (TX11 a).2.1 ≠ (TX11 b).2.1 := by decide +kernel
theorem tyX11_ok : ∀ k, k < 7 → parseFieldDescriptor (TX11 k).2.2.1 = some (tyX11 k) := by decide +kernel
abbrev cX11_init : ByteArray := prog_13_method_1_code
def yX11_init : MethodName := ⟨RX11, "<init>", "()V"⟩
abbrev cX11_direction : ByteArray := prog_13_method_2_code
def yX11_direction : MethodName := ⟨RX11, "direction", "(II)I"⟩
abbrev cX11_turn : ByteArray := prog_13_method_3_code
def yX11_turn : MethodName := ⟨RX11, "turn", "(II)I"⟩
abbrev cX11_ax : ByteArray := prog_13_method_4_code
def yX11_ax : MethodName := ⟨RX11, "ax", "([II)I"⟩
abbrev cX11_ay : ByteArray := prog_13_method_5_code
def yX11_ay : MethodName := ⟨RX11, "ay", "([II)I"⟩
abbrev cX11_view : ByteArray := prog_13_method_6_code
def yX11_view : MethodName := ⟨RX11, "view", "([I)I"⟩
abbrev cX11_side : ByteArray := prog_13_method_7_code
def yX11_side : MethodName := ⟨RX11, "side", "([I)I"⟩
abbrev cX11_look : ByteArray := prog_13_method_8_code
def yX11_look : MethodName := ⟨RX11, "look", "([I)I"⟩
abbrev cX11_visible : ByteArray := prog_13_method_9_code
def yX11_visible : MethodName := ⟨RX11, "visible", "([I)I"⟩
abbrev cX11_near : ByteArray := prog_13_method_10_code
def yX11_near : MethodName := ⟨RX11, "near", "([I[II)Z"⟩
abbrev cX11_blocker : ByteArray := prog_13_method_11_code
def yX11_blocker : MethodName := ⟨RX11, "blocker", "([I)I"⟩
abbrev cX11_kinds : ByteArray := prog_13_method_12_code
def yX11_kinds : MethodName := ⟨RX11, "kinds", "(I)I"⟩
abbrev cX11_faults : ByteArray := prog_13_method_13_code
def yX11_faults : MethodName := ⟨RX11, "faults", "()I"⟩
abbrev cX11_setups : ByteArray := prog_13_method_14_code
def yX11_setups : MethodName := ⟨RX11, "setups", "(I)Ljava/util/ArrayList;"⟩
abbrev cX11_actors : ByteArray := prog_13_method_15_code
def yX11_actors : MethodName := ⟨RX11, "actors", "(I)I"⟩
abbrev cX11_length : ByteArray := prog_13_method_16_code
def yX11_length : MethodName := ⟨RX11, "length", "(I)I"⟩
abbrev cX11_change : ByteArray := prog_13_method_17_code
def yX11_change : MethodName := ⟨RX11, "change", "(II)I"⟩
abbrev cX11_said : ByteArray := prog_13_method_18_code
def yX11_said : MethodName := ⟨RX11, "said", "()Ljava/lang/String;"⟩
def RX12 : String := "ShotListPlannerModel"
def TX12 : u_T := fun k => match k with
  | _ => ("", "", "", false)
def tyX12 : Nat → FieldType := fun k => match k with
  | _ => .int
abbrev wsX120 : List Cond := u_ws RX12 TX12 0
theorem nmX12 : ∀ a, a < 0 → ∀ b, b < 0 → a ≠ b → (TX12 a).2.1 ≠ (TX12 b).2.1 := by decide +kernel
theorem tyX12_ok : ∀ k, k < 0 → parseFieldDescriptor (TX12 k).2.2.1 = some (tyX12 k) := by decide +kernel
def RJx145de : String := "java/io/Serializable"
def TJx145de : u_T := fun k => match k with
  | _ => ("", "", "", false)
def tyJx145de : Nat → FieldType := fun k => match k with
  | _ => .int
abbrev wsJx145de0 : List Cond := u_ws RJx145de TJx145de 0
theorem nmJx145de : ∀ a, a < 0 → ∀ b, b < 0 → a ≠ b → (TJx145de a).2.1 ≠ (TJx145de b).2.1 := by decide +kernel
theorem tyJx145de_ok : ∀ k, k < 0 → parseFieldDescriptor (TJx145de k).2.2.1 = some (tyJx145de k) := by decide +kernel
def RJ5 : String := "java/lang/AbstractStringBuilder"
def TJ5 : u_T := fun k => match k with
  | _ => ("", "", "", false)
def tyJ5 : Nat → FieldType := fun k => match k with
  | _ => .int
abbrev wsJ50 : List Cond := u_ws RJ5 TJ5 0
theorem nmJ5 : ∀ a, a < 0 → ∀ b, b < 0 → a ≠ b → (TJ5 a).2.1 ≠ (TJ5 b).2.1 := by decide +kernel
theorem tyJ5_ok : ∀ k, k < 0 → parseFieldDescriptor (TJ5 k).2.2.1 = some (tyJ5 k) := by decide +kernel
abbrev cJ5_init_d00df : ByteArray := prog_16_method_2_code
def yJ5_init_d00df : MethodName := ⟨RJ5, "<init>", "(I)V"⟩
abbrev cJ5_length_8abf5 : ByteArray := prog_16_method_6_code
def yJ5_length_8abf5 : MethodName := ⟨RJ5, "length", "()I"⟩
abbrev cJ5_ensureCapacityInternal_d00df : ByteArray := prog_16_method_9_code
def yJ5_ensureCapacityInternal_d00df : MethodName := ⟨RJ5, "ensureCapacityInternal", "(I)V"⟩
abbrev cJ5_newCapacity_0f7a4 : ByteArray := prog_16_method_10_code
def yJ5_newCapacity_0f7a4 : MethodName := ⟨RJ5, "newCapacity", "(I)I"⟩
abbrev cJ5_inflate_da8c8 : ByteArray := prog_16_method_11_code
def yJ5_inflate_da8c8 : MethodName := ⟨RJ5, "inflate", "()V"⟩
abbrev cJ5_append_cf1ce : ByteArray := prog_16_method_22_code
def yJ5_append_cf1ce : MethodName := ⟨RJ5, "append", "(Ljava/lang/String;)Ljava/lang/AbstractStringBuilder;"⟩
abbrev cJ5_appendNull_278bc : ByteArray := prog_16_method_26_code
def yJ5_appendNull_278bc : MethodName := ⟨RJ5, "appendNull", "()Ljava/lang/AbstractStringBuilder;"⟩
abbrev cJ5_append_3fe6f : ByteArray := prog_16_method_31_code
def yJ5_append_3fe6f : MethodName := ⟨RJ5, "append", "(C)Ljava/lang/AbstractStringBuilder;"⟩
abbrev cJ5_append_c97b9 : ByteArray := prog_16_method_32_code
def yJ5_append_c97b9 : MethodName := ⟨RJ5, "append", "(I)Ljava/lang/AbstractStringBuilder;"⟩
abbrev cJ5_getValue_6d5f1 : ByteArray := prog_16_method_64_code
def yJ5_getValue_6d5f1 : MethodName := ⟨RJ5, "getValue", "()[B"⟩
abbrev cJ5_isLatin1_aae02 : ByteArray := prog_16_method_68_code
def yJ5_isLatin1_aae02 : MethodName := ⟨RJ5, "isLatin1", "()Z"⟩
abbrev cJ5_inflateIfNeededFor_a7421 : ByteArray := prog_16_method_71_code
def yJ5_inflateIfNeededFor_a7421 : MethodName := ⟨RJ5, "inflateIfNeededFor", "(Ljava/lang/String;)V"⟩
abbrev cJ5_putStringAt_47b60 : ByteArray := prog_16_method_73_code
def yJ5_putStringAt_47b60 : MethodName := ⟨RJ5, "putStringAt", "(ILjava/lang/String;)V"⟩
def RJx2cfe8 : String := "java/lang/Appendable"
def TJx2cfe8 : u_T := fun k => match k with
  | _ => ("", "", "", false)
def tyJx2cfe8 : Nat → FieldType := fun k => match k with
  | _ => .int
abbrev wsJx2cfe80 : List Cond := u_ws RJx2cfe8 TJx2cfe8 0
theorem nmJx2cfe8 : ∀ a, a < 0 → ∀ b, b < 0 → a ≠ b → (TJx2cfe8 a).2.1 ≠ (TJx2cfe8 b).2.1 := by decide +kernel
theorem tyJx2cfe8_ok : ∀ k, k < 0 → parseFieldDescriptor (TJx2cfe8 k).2.2.1 = some (tyJx2cfe8 k) := by decide +kernel
def RJx9f9b0 : String := "java/lang/CharSequence"
def TJx9f9b0 : u_T := fun k => match k with
  | _ => ("", "", "", false)
def tyJx9f9b0 : Nat → FieldType := fun k => match k with
  | _ => .int
abbrev wsJx9f9b00 : List Cond := u_ws RJx9f9b0 TJx9f9b0 0
theorem nmJx9f9b0 : ∀ a, a < 0 → ∀ b, b < 0 → a ≠ b → (TJx9f9b0 a).2.1 ≠ (TJx9f9b0 b).2.1 := by decide +kernel
theorem tyJx9f9b0_ok : ∀ k, k < 0 → parseFieldDescriptor (TJx9f9b0 k).2.2.1 = some (tyJx9f9b0 k) := by decide +kernel
def RJx8e188 : String := "java/lang/Cloneable"
def TJx8e188 : u_T := fun k => match k with
  | _ => ("", "", "", false)
def tyJx8e188 : Nat → FieldType := fun k => match k with
  | _ => .int
abbrev wsJx8e1880 : List Cond := u_ws RJx8e188 TJx8e188 0
theorem nmJx8e188 : ∀ a, a < 0 → ∀ b, b < 0 → a ≠ b → (TJx8e188 a).2.1 ≠ (TJx8e188 b).2.1 := by decide +kernel
theorem tyJx8e188_ok : ∀ k, k < 0 → parseFieldDescriptor (TJx8e188 k).2.2.1 = some (tyJx8e188 k) := by decide +kernel
def RJxb160c : String := "java/lang/Comparable"
def TJxb160c : u_T := fun k => match k with
  | _ => ("", "", "", false)
def tyJxb160c : Nat → FieldType := fun k => match k with
  | _ => .int
abbrev wsJxb160c0 : List Cond := u_ws RJxb160c TJxb160c 0
theorem nmJxb160c : ∀ a, a < 0 → ∀ b, b < 0 → a ≠ b → (TJxb160c a).2.1 ≠ (TJxb160c b).2.1 := by decide +kernel
theorem tyJxb160c_ok : ∀ k, k < 0 → parseFieldDescriptor (TJxb160c k).2.2.1 = some (tyJxb160c k) := by decide +kernel
def RJxabbfe : String := "java/lang/Integer$IntegerCache"
def TJxabbfe : u_T := fun k => match k with
  | _ => ("", "", "", false)
def tyJxabbfe : Nat → FieldType := fun k => match k with
  | _ => .int
abbrev wsJxabbfe0 : List Cond := u_ws RJxabbfe TJxabbfe 0
theorem nmJxabbfe : ∀ a, a < 0 → ∀ b, b < 0 → a ≠ b → (TJxabbfe a).2.1 ≠ (TJxabbfe b).2.1 := by decide +kernel
theorem tyJxabbfe_ok : ∀ k, k < 0 → parseFieldDescriptor (TJxabbfe k).2.2.1 = some (tyJxabbfe k) := by decide +kernel
def RJ6 : String := "java/lang/Integer"
def TJ6 : u_T := fun k => match k with
  | _ => ("java/lang/Integer", "value", "I", true)
def tyJ6 : Nat → FieldType := fun k => match k with
  | _ => .int
abbrev wsJ60 : List Cond := u_ws RJ6 TJ6 1
theorem nmJ6 : ∀ a, a < 1 → ∀ b, b < 1 → a ≠ b → (TJ6 a).2.1 ≠ (TJ6 b).2.1 := by decide +kernel
theorem tyJ6_ok : ∀ k, k < 1 → parseFieldDescriptor (TJ6 k).2.2.1 = some (tyJ6 k) := by decide +kernel
abbrev cJ6_getChars_ba4f3 : ByteArray := prog_24_method_12_code
def yJ6_getChars_ba4f3 : MethodName := ⟨RJ6, "getChars", "(II[B)I"⟩
abbrev cJ6_stringSize_0f7a4 : ByteArray := prog_24_method_13_code
def yJ6_stringSize_0f7a4 : MethodName := ⟨RJ6, "stringSize", "(I)I"⟩
abbrev cJ6_valueOf_2dffe : ByteArray := prog_24_method_22_code
def yJ6_valueOf_2dffe : MethodName := ⟨RJ6, "valueOf", "(I)Ljava/lang/Integer;"⟩
abbrev cJ6_init_d00df : ByteArray := prog_24_method_23_code
def yJ6_init_d00df : MethodName := ⟨RJ6, "<init>", "(I)V"⟩
abbrev cJ6_intValue_8abf5 : ByteArray := prog_24_method_27_code
def yJ6_intValue_8abf5 : MethodName := ⟨RJ6, "intValue", "()I"⟩
abbrev cJ6_numberOfTrailingZeros_0f7a4 : ByteArray := prog_24_method_48_code
def yJ6_numberOfTrailingZeros_0f7a4 : MethodName := ⟨RJ6, "numberOfTrailingZeros", "(I)I"⟩
abbrev cJ6_bitCount_0f7a4 : ByteArray := prog_24_method_49_code
def yJ6_bitCount_0f7a4 : MethodName := ⟨RJ6, "bitCount", "(I)I"⟩
abbrev cJ6_signum_0f7a4 : ByteArray := prog_24_method_56_code
def yJ6_signum_0f7a4 : MethodName := ⟨RJ6, "signum", "(I)I"⟩
def RJxab1ab : String := "java/lang/Iterable"
def TJxab1ab : u_T := fun k => match k with
  | _ => ("", "", "", false)
def tyJxab1ab : Nat → FieldType := fun k => match k with
  | _ => .int
abbrev wsJxab1ab0 : List Cond := u_ws RJxab1ab TJxab1ab 0
theorem nmJxab1ab : ∀ a, a < 0 → ∀ b, b < 0 → a ≠ b → (TJxab1ab a).2.1 ≠ (TJxab1ab b).2.1 := by decide +kernel
theorem tyJxab1ab_ok : ∀ k, k < 0 → parseFieldDescriptor (TJxab1ab k).2.2.1 = some (tyJxab1ab k) := by decide +kernel
def RJ9 : String := "java/lang/Math"
def TJ9 : u_T := fun k => match k with
  | _ => ("", "", "", false)
def tyJ9 : Nat → FieldType := fun k => match k with
  | _ => .int
abbrev wsJ90 : List Cond := u_ws RJ9 TJ9 0
theorem nmJ9 : ∀ a, a < 0 → ∀ b, b < 0 → a ≠ b → (TJ9 a).2.1 ≠ (TJ9 b).2.1 := by decide +kernel
theorem tyJ9_ok : ∀ k, k < 0 → parseFieldDescriptor (TJ9 k).2.2.1 = some (tyJ9 k) := by decide +kernel
abbrev cJ9_abs_0f7a4 : ByteArray := prog_27_method_59_code
def yJ9_abs_0f7a4 : MethodName := ⟨RJ9, "abs", "(I)I"⟩
abbrev cJ9_max_7cf53 : ByteArray := prog_27_method_65_code
def yJ9_max_7cf53 : MethodName := ⟨RJ9, "max", "(II)I"⟩
abbrev cJ9_min_7cf53 : ByteArray := prog_27_method_69_code
def yJ9_min_7cf53 : MethodName := ⟨RJ9, "min", "(II)I"⟩
def RJxd2413 : String := "java/lang/Number"
def TJxd2413 : u_T := fun k => match k with
  | _ => ("", "", "", false)
def tyJxd2413 : Nat → FieldType := fun k => match k with
  | _ => .int
abbrev wsJxd24130 : List Cond := u_ws RJxd2413 TJxd2413 0
theorem nmJxd2413 : ∀ a, a < 0 → ∀ b, b < 0 → a ≠ b → (TJxd2413 a).2.1 ≠ (TJxd2413 b).2.1 := by decide +kernel
theorem tyJxd2413_ok : ∀ k, k < 0 → parseFieldDescriptor (TJxd2413 k).2.2.1 = some (tyJxd2413 k) := by decide +kernel
abbrev cJxd2413_init_da8c8 : ByteArray := prog_28_method_1_code
def yJxd2413_init_da8c8 : MethodName := ⟨RJxd2413, "<init>", "()V"⟩
def RJ0 : String := "java/lang/String"
def TJ0 : u_T := fun k => match k with
  | 0 => ("java/lang/String", "value", "[B", true)
  | 1 => ("java/lang/String", "coder", "B", true)
  | 2 => ("java/lang/String", "hash", "I", false)
  | _ => ("java/lang/String", "hashIsZero", "Z", false)
def tyJ0 : Nat → FieldType := fun k => match k with
  | 0 => .array .byte
  | 1 => .byte
  | 2 => .int
  | _ => .boolean
abbrev wsJ00 : List Cond := u_ws RJ0 TJ0 4
theorem nmJ0 : ∀ a, a < 4 → ∀ b, b < 4 → a ≠ b → (TJ0 a).2.1 ≠ (TJ0 b).2.1 := by decide +kernel
theorem tyJ0_ok : ∀ k, k < 4 → parseFieldDescriptor (TJ0 k).2.2.1 = some (tyJ0 k) := by decide +kernel
abbrev cJ0_init_81219 : ByteArray := prog_30_method_53_code
def yJ0_init_81219 : MethodName := ⟨RJ0, "<init>", "(Ljava/lang/StringBuilder;)V"⟩
abbrev cJ0_length_8abf5 : ByteArray := prog_30_method_54_code
def yJ0_length_8abf5 : MethodName := ⟨RJ0, "length", "()I"⟩
abbrev cJ0_charAt_5068e : ByteArray := prog_30_method_56_code
def yJ0_charAt_5068e : MethodName := ⟨RJ0, "charAt", "(I)C"⟩
abbrev cJ0_substring_b52d3 : ByteArray := prog_30_method_91_code
def yJ0_substring_b52d3 : MethodName := ⟨RJ0, "substring", "(I)Ljava/lang/String;"⟩
abbrev cJ0_substring_37a41 : ByteArray := prog_30_method_92_code
def yJ0_substring_37a41 : MethodName := ⟨RJ0, "substring", "(II)Ljava/lang/String;"⟩
abbrev cJ0_getBytes_840e7 : ByteArray := prog_30_method_147_code
def yJ0_getBytes_840e7 : MethodName := ⟨RJ0, "getBytes", "([BIB)V"⟩
abbrev cJ0_init_db425 : ByteArray := prog_30_method_150_code
def yJ0_init_db425 : MethodName := ⟨RJ0, "<init>", "(Ljava/lang/AbstractStringBuilder;Ljava/lang/Void;)V"⟩
abbrev cJ0_init_031fb : ByteArray := prog_30_method_151_code
def yJ0_init_031fb : MethodName := ⟨RJ0, "<init>", "([BB)V"⟩
abbrev cJ0_coder_7d493 : ByteArray := prog_30_method_152_code
def yJ0_coder_7d493 : MethodName := ⟨RJ0, "coder", "()B"⟩
abbrev cJ0_isLatin1_aae02 : ByteArray := prog_30_method_154_code
def yJ0_isLatin1_aae02 : MethodName := ⟨RJ0, "isLatin1", "()Z"⟩
abbrev cJ0_checkIndex_df160 : ByteArray := prog_30_method_155_code
def yJ0_checkIndex_df160 : MethodName := ⟨RJ0, "checkIndex", "(II)V"⟩
abbrev cJ0_checkBoundsOffCount_cabcc : ByteArray := prog_30_method_157_code
def yJ0_checkBoundsOffCount_cabcc : MethodName := ⟨RJ0, "checkBoundsOffCount", "(III)I"⟩
abbrev cJ0_checkBoundsBeginEnd_23922 : ByteArray := prog_30_method_158_code
def yJ0_checkBoundsBeginEnd_23922 : MethodName := ⟨RJ0, "checkBoundsBeginEnd", "(III)V"⟩
def RJ4 : String := "java/lang/StringBuilder"
def TJ4 : u_T := fun k => match k with
  | 0 => ("java/lang/AbstractStringBuilder", "value", "[B", false)
  | 1 => ("java/lang/AbstractStringBuilder", "coder", "B", false)
  | 2 => ("java/lang/AbstractStringBuilder", "maybeLatin1", "Z", false)
  | _ => ("java/lang/AbstractStringBuilder", "count", "I", false)
def tyJ4 : Nat → FieldType := fun k => match k with
  | 0 => .array .byte
  | 1 => .byte
  | 2 => .boolean
  | _ => .int
abbrev wsJ40 : List Cond := u_ws RJ4 TJ4 4
theorem nmJ4 : ∀ a, a < 4 → ∀ b, b < 4 → a ≠ b → (TJ4 a).2.1 ≠ (TJ4 b).2.1 := by decide +kernel
theorem tyJ4_ok : ∀ k, k < 4 → parseFieldDescriptor (TJ4 k).2.2.1 = some (tyJ4 k) := by decide +kernel
abbrev cJ4_init_da8c8 : ByteArray := prog_31_method_1_code
def yJ4_init_da8c8 : MethodName := ⟨RJ4, "<init>", "()V"⟩
abbrev cJ4_append_15ec4 : ByteArray := prog_31_method_7_code
def yJ4_append_15ec4 : MethodName := ⟨RJ4, "append", "(Ljava/lang/String;)Ljava/lang/StringBuilder;"⟩
abbrev cJ4_append_cf468 : ByteArray := prog_31_method_14_code
def yJ4_append_cf468 : MethodName := ⟨RJ4, "append", "(C)Ljava/lang/StringBuilder;"⟩
abbrev cJ4_append_bf812 : ByteArray := prog_31_method_15_code
def yJ4_append_bf812 : MethodName := ⟨RJ4, "append", "(I)Ljava/lang/StringBuilder;"⟩
abbrev cJ4_toString_0e30d : ByteArray := prog_31_method_42_code
def yJ4_toString_0e30d : MethodName := ⟨RJ4, "toString", "()Ljava/lang/String;"⟩
abbrev cJ4_length_8abf5 : ByteArray := prog_31_method_93_code
def yJ4_length_8abf5 : MethodName := ⟨RJ4, "length", "()I"⟩
def RJ1 : String := "java/lang/StringLatin1"
def TJ1 : u_T := fun k => match k with
  | _ => ("", "", "", false)
def tyJ1 : Nat → FieldType := fun k => match k with
  | _ => .int
abbrev wsJ10 : List Cond := u_ws RJ1 TJ1 0
theorem nmJ1 : ∀ a, a < 0 → ∀ b, b < 0 → a ≠ b → (TJ1 a).2.1 ≠ (TJ1 b).2.1 := by decide +kernel
theorem tyJ1_ok : ∀ k, k < 0 → parseFieldDescriptor (TJ1 k).2.2.1 = some (tyJ1 k) := by decide +kernel
abbrev cJ1_charAt_3b067 : ByteArray := prog_32_method_2_code
def yJ1_charAt_3b067 : MethodName := ⟨RJ1, "charAt", "([BI)C"⟩
abbrev cJ1_canEncode_fc78d : ByteArray := prog_32_method_3_code
def yJ1_canEncode_fc78d : MethodName := ⟨RJ1, "canEncode", "(C)Z"⟩
abbrev cJ1_newString_b4f7a : ByteArray := prog_32_method_47_code
def yJ1_newString_b4f7a : MethodName := ⟨RJ1, "newString", "([BII)Ljava/lang/String;"⟩
abbrev cJ1_inflate_0e8fd : ByteArray := prog_32_method_50_code
def yJ1_inflate_0e8fd : MethodName := ⟨RJ1, "inflate", "([BI[BII)V"⟩
def RJ2 : String := "java/lang/StringUTF16"
def TJ2 : u_T := fun k => match k with
  | _ => ("", "", "", false)
def tyJ2 : Nat → FieldType := fun k => match k with
  | _ => .int
abbrev wsJ20 : List Cond := u_ws RJ2 TJ2 0
theorem nmJ2 : ∀ a, a < 0 → ∀ b, b < 0 → a ≠ b → (TJ2 a).2.1 ≠ (TJ2 b).2.1 := by decide +kernel
theorem tyJ2_ok : ∀ k, k < 0 → parseFieldDescriptor (TJ2 k).2.2.1 = some (tyJ2 k) := by decide +kernel
abbrev cJ2_newBytesFor_77867 : ByteArray := prog_33_method_2_code
def yJ2_newBytesFor_77867 : MethodName := ⟨RJ2, "newBytesFor", "(I)[B"⟩
abbrev cJ2_newBytesLength_0f7a4 : ByteArray := prog_33_method_3_code
def yJ2_newBytesLength_0f7a4 : MethodName := ⟨RJ2, "newBytesLength", "(I)I"⟩
abbrev cJ2_putChar_b72d1 : ByteArray := prog_33_method_4_code
def yJ2_putChar_b72d1 : MethodName := ⟨RJ2, "putChar", "([BII)V"⟩
abbrev cJ2_getChar_3b067 : ByteArray := prog_33_method_5_code
def yJ2_getChar_3b067 : MethodName := ⟨RJ2, "getChar", "([BI)C"⟩
abbrev cJ2_length_9d52b : ByteArray := prog_33_method_6_code
def yJ2_length_9d52b : MethodName := ⟨RJ2, "length", "([B)I"⟩
abbrev cJ2_coderFromArrayLen_85cad : ByteArray := prog_33_method_15_code
def yJ2_coderFromArrayLen_85cad : MethodName := ⟨RJ2, "coderFromArrayLen", "([BI)B"⟩
abbrev cJ2_compress_39247 : ByteArray := prog_33_method_17_code
def yJ2_compress_39247 : MethodName := ⟨RJ2, "compress", "([BII)[B"⟩
abbrev cJ2_compress_5af95 : ByteArray := prog_33_method_22_code
def yJ2_compress_5af95 : MethodName := ⟨RJ2, "compress", "([BI[BII)I"⟩
abbrev cJ2_newString_b4f7a : ByteArray := prog_33_method_69_code
def yJ2_newString_b4f7a : MethodName := ⟨RJ2, "newString", "([BII)Ljava/lang/String;"⟩
abbrev cJ2_putCharSB_b72d1 : ByteArray := prog_33_method_71_code
def yJ2_putCharSB_b72d1 : MethodName := ⟨RJ2, "putCharSB", "([BII)V"⟩
abbrev cJ2_getChars_46870 : ByteArray := prog_33_method_77_code
def yJ2_getChars_46870 : MethodName := ⟨RJ2, "getChars", "(III[B)I"⟩
abbrev cJ2_putCharsAt_cd4e5 : ByteArray := prog_33_method_81_code
def yJ2_putCharsAt_cd4e5 : MethodName := ⟨RJ2, "putCharsAt", "([BICCCC)I"⟩
abbrev cJ2_charAt_3b067 : ByteArray := prog_33_method_83_code
def yJ2_charAt_3b067 : MethodName := ⟨RJ2, "charAt", "([BI)C"⟩
abbrev cJ2_inflate_0e8fd : ByteArray := prog_33_method_86_code
def yJ2_inflate_0e8fd : MethodName := ⟨RJ2, "inflate", "([BI[BII)V"⟩
abbrev cJ2_getChars_ba4f3 : ByteArray := prog_33_method_89_code
def yJ2_getChars_ba4f3 : MethodName := ⟨RJ2, "getChars", "(II[B)I"⟩
abbrev cJ2_checkIndex_2214a : ByteArray := prog_33_method_91_code
def yJ2_checkIndex_2214a : MethodName := ⟨RJ2, "checkIndex", "(I[B)V"⟩
abbrev cJ2_checkBoundsBeginEnd_d044e : ByteArray := prog_33_method_93_code
def yJ2_checkBoundsBeginEnd_d044e : MethodName := ⟨RJ2, "checkBoundsBeginEnd", "(II[B)V"⟩
abbrev cJ2_checkBoundsOffCount_d044e : ByteArray := prog_33_method_94_code
def yJ2_checkBoundsOffCount_d044e : MethodName := ⟨RJ2, "checkBoundsOffCount", "(II[B)V"⟩
def RJ10 : String := "java/lang/System"
def TJ10 : u_T := fun k => match k with
  | _ => ("", "", "", false)
def tyJ10 : Nat → FieldType := fun k => match k with
  | _ => .int
abbrev wsJ100 : List Cond := u_ws RJ10 TJ10 0
theorem nmJ10 : ∀ a, a < 0 → ∀ b, b < 0 → a ≠ b → (TJ10 a).2.1 ≠ (TJ10 b).2.1 := by decide +kernel
theorem tyJ10_ok : ∀ k, k < 0 → parseFieldDescriptor (TJ10 k).2.2.1 = some (tyJ10 k) := by decide +kernel
def RJxfd54e : String := "java/lang/constant/Constable"
def TJxfd54e : u_T := fun k => match k with
  | _ => ("", "", "", false)
def tyJxfd54e : Nat → FieldType := fun k => match k with
  | _ => .int
abbrev wsJxfd54e0 : List Cond := u_ws RJxfd54e TJxfd54e 0
theorem nmJxfd54e : ∀ a, a < 0 → ∀ b, b < 0 → a ≠ b → (TJxfd54e a).2.1 ≠ (TJxfd54e b).2.1 := by decide +kernel
theorem tyJxfd54e_ok : ∀ k, k < 0 → parseFieldDescriptor (TJxfd54e k).2.2.1 = some (tyJxfd54e k) := by decide +kernel
def RJx3cf43 : String := "java/lang/constant/ConstantDesc"
def TJx3cf43 : u_T := fun k => match k with
  | _ => ("", "", "", false)
def tyJx3cf43 : Nat → FieldType := fun k => match k with
  | _ => .int
abbrev wsJx3cf430 : List Cond := u_ws RJx3cf43 TJx3cf43 0
theorem nmJx3cf43 : ∀ a, a < 0 → ∀ b, b < 0 → a ≠ b → (TJx3cf43 a).2.1 ≠ (TJx3cf43 b).2.1 := by decide +kernel
theorem tyJx3cf43_ok : ∀ k, k < 0 → parseFieldDescriptor (TJx3cf43 k).2.2.1 = some (tyJx3cf43 k) := by decide +kernel
def RJxa1e45 : String := "java/util/AbstractCollection"
def TJxa1e45 : u_T := fun k => match k with
  | _ => ("", "", "", false)
def tyJxa1e45 : Nat → FieldType := fun k => match k with
  | _ => .int
abbrev wsJxa1e450 : List Cond := u_ws RJxa1e45 TJxa1e45 0
theorem nmJxa1e45 : ∀ a, a < 0 → ∀ b, b < 0 → a ≠ b → (TJxa1e45 a).2.1 ≠ (TJxa1e45 b).2.1 := by decide +kernel
theorem tyJxa1e45_ok : ∀ k, k < 0 → parseFieldDescriptor (TJxa1e45 k).2.2.1 = some (tyJxa1e45 k) := by decide +kernel
abbrev cJxa1e45_init_da8c8 : ByteArray := prog_38_method_1_code
def yJxa1e45_init_da8c8 : MethodName := ⟨RJxa1e45, "<init>", "()V"⟩
def RJxc12de : String := "java/util/AbstractList"
def TJxc12de : u_T := fun k => match k with
  | _ => ("", "", "", false)
def tyJxc12de : Nat → FieldType := fun k => match k with
  | _ => .int
abbrev wsJxc12de0 : List Cond := u_ws RJxc12de TJxc12de 0
theorem nmJxc12de : ∀ a, a < 0 → ∀ b, b < 0 → a ≠ b → (TJxc12de a).2.1 ≠ (TJxc12de b).2.1 := by decide +kernel
theorem tyJxc12de_ok : ∀ k, k < 0 → parseFieldDescriptor (TJxc12de k).2.2.1 = some (tyJxc12de k) := by decide +kernel
abbrev cJxc12de_init_da8c8 : ByteArray := prog_39_method_1_code
def yJxc12de_init_da8c8 : MethodName := ⟨RJxc12de, "<init>", "()V"⟩
def RJx35411 : String := "java/util/ArrayList$Itr"
def TJx35411 : u_T := fun k => match k with
  | 0 => ("java/util/ArrayList$Itr", "cursor", "I", false)
  | 1 => ("java/util/ArrayList$Itr", "lastRet", "I", false)
  | 2 => ("java/util/ArrayList$Itr", "expectedModCount", "I", false)
  | _ => ("java/util/ArrayList$Itr", "this$0", "Ljava/util/ArrayList;", true)
def tyJx35411 : Nat → FieldType := fun k => match k with
  | 0 => .int
  | 1 => .int
  | 2 => .int
  | _ => .object "java/util/ArrayList"
abbrev wsJx354110 : List Cond := u_ws RJx35411 TJx35411 4
theorem nmJx35411 : ∀ a, a < 4 → ∀ b, b < 4 → a ≠ b → (TJx35411 a).2.1 ≠ (TJx35411 b).2.1 := by decide +kernel
theorem tyJx35411_ok : ∀ k, k < 4 → parseFieldDescriptor (TJx35411 k).2.2.1 = some (tyJx35411 k) := by decide +kernel
abbrev cJx35411_init_45d68 : ByteArray := prog_41_method_1_code
def yJx35411_init_45d68 : MethodName := ⟨RJx35411, "<init>", "(Ljava/util/ArrayList;)V"⟩
abbrev cJx35411_hasNext_aae02 : ByteArray := prog_41_method_2_code
def yJx35411_hasNext_aae02 : MethodName := ⟨RJx35411, "hasNext", "()Z"⟩
abbrev cJx35411_next_0502b : ByteArray := prog_41_method_3_code
def yJx35411_next_0502b : MethodName := ⟨RJx35411, "next", "()Ljava/lang/Object;"⟩
abbrev cJx35411_checkForComodification_da8c8 : ByteArray := prog_41_method_6_code
def yJx35411_checkForComodification_da8c8 : MethodName := ⟨RJx35411, "checkForComodification", "()V"⟩
def RJx4a65c : String := "java/util/ArrayList"
def TJx4a65c : u_T := fun k => match k with
  | 0 => ("java/util/AbstractList", "modCount", "I", false)
  | 1 => ("java/util/ArrayList", "elementData", "[Ljava/lang/Object;", false)
  | _ => ("java/util/ArrayList", "size", "I", false)
def tyJx4a65c : Nat → FieldType := fun k => match k with
  | 0 => .int
  | 1 => .array (.object "java/lang/Object")
  | _ => .int
abbrev wsJx4a65c0 : List Cond := u_ws RJx4a65c TJx4a65c 3
theorem nmJx4a65c : ∀ a, a < 3 → ∀ b, b < 3 → a ≠ b → (TJx4a65c a).2.1 ≠ (TJx4a65c b).2.1 := by decide +kernel
theorem tyJx4a65c_ok : ∀ k, k < 3 → parseFieldDescriptor (TJx4a65c k).2.2.1 = some (tyJx4a65c k) := by decide +kernel
abbrev cJx4a65c_init_da8c8 : ByteArray := prog_40_method_2_code
def yJx4a65c_init_da8c8 : MethodName := ⟨RJx4a65c, "<init>", "()V"⟩
abbrev cJx4a65c_grow_92f84 : ByteArray := prog_40_method_6_code
def yJx4a65c_grow_92f84 : MethodName := ⟨RJx4a65c, "grow", "(I)[Ljava/lang/Object;"⟩
abbrev cJx4a65c_grow_d5877 : ByteArray := prog_40_method_7_code
def yJx4a65c_grow_d5877 : MethodName := ⟨RJx4a65c, "grow", "()[Ljava/lang/Object;"⟩
abbrev cJx4a65c_size_8abf5 : ByteArray := prog_40_method_8_code
def yJx4a65c_size_8abf5 : MethodName := ⟨RJx4a65c, "size", "()I"⟩
abbrev cJx4a65c_elementData_915e3 : ByteArray := prog_40_method_18_code
def yJx4a65c_elementData_915e3 : MethodName := ⟨RJx4a65c, "elementData", "(I)Ljava/lang/Object;"⟩
abbrev cJx4a65c_get_915e3 : ByteArray := prog_40_method_20_code
def yJx4a65c_get_915e3 : MethodName := ⟨RJx4a65c, "get", "(I)Ljava/lang/Object;"⟩
abbrev cJx4a65c_set_bcc79 : ByteArray := prog_40_method_23_code
def yJx4a65c_set_bcc79 : MethodName := ⟨RJx4a65c, "set", "(ILjava/lang/Object;)Ljava/lang/Object;"⟩
abbrev cJx4a65c_add_72be8 : ByteArray := prog_40_method_24_code
def yJx4a65c_add_72be8 : MethodName := ⟨RJx4a65c, "add", "(Ljava/lang/Object;[Ljava/lang/Object;I)V"⟩
abbrev cJx4a65c_add_9ea2d : ByteArray := prog_40_method_25_code
def yJx4a65c_add_9ea2d : MethodName := ⟨RJx4a65c, "add", "(Ljava/lang/Object;)Z"⟩
abbrev cJx4a65c_add_7a177 : ByteArray := prog_40_method_26_code
def yJx4a65c_add_7a177 : MethodName := ⟨RJx4a65c, "add", "(ILjava/lang/Object;)V"⟩
abbrev cJx4a65c_remove_915e3 : ByteArray := prog_40_method_29_code
def yJx4a65c_remove_915e3 : MethodName := ⟨RJx4a65c, "remove", "(I)Ljava/lang/Object;"⟩
abbrev cJx4a65c_fastRemove_b59b0 : ByteArray := prog_40_method_39_code
def yJx4a65c_fastRemove_b59b0 : MethodName := ⟨RJx4a65c, "fastRemove", "([Ljava/lang/Object;I)V"⟩
abbrev cJx4a65c_rangeCheckForAdd_d00df : ByteArray := prog_40_method_45_code
def yJx4a65c_rangeCheckForAdd_d00df : MethodName := ⟨RJx4a65c, "rangeCheckForAdd", "(I)V"⟩
abbrev cJx4a65c_iterator_32c93 : ByteArray := prog_40_method_55_code
def yJx4a65c_iterator_32c93 : MethodName := ⟨RJx4a65c, "iterator", "()Ljava/util/Iterator;"⟩
def RJ7 : String := "java/util/Arrays"
def TJ7 : u_T := fun k => match k with
  | _ => ("", "", "", false)
def tyJ7 : Nat → FieldType := fun k => match k with
  | _ => .int
abbrev wsJ70 : List Cond := u_ws RJ7 TJ7 0
theorem nmJ7 : ∀ a, a < 0 → ∀ b, b < 0 → a ≠ b → (TJ7 a).2.1 ≠ (TJ7 b).2.1 := by decide +kernel
theorem tyJ7_ok : ∀ k, k < 0 → parseFieldDescriptor (TJ7 k).2.2.1 = some (tyJ7 k) := by decide +kernel
abbrev cJ7_copyOf_1904c : ByteArray := prog_42_method_119_code
def yJ7_copyOf_1904c : MethodName := ⟨RJ7, "copyOf", "([Ljava/lang/Object;I)[Ljava/lang/Object;"⟩
abbrev cJ7_copyOf_6403c : ByteArray := prog_42_method_120_code
def yJ7_copyOf_6403c : MethodName := ⟨RJ7, "copyOf", "([Ljava/lang/Object;ILjava/lang/Class;)[Ljava/lang/Object;"⟩
abbrev cJ7_copyOf_9075b : ByteArray := prog_42_method_121_code
def yJ7_copyOf_9075b : MethodName := ⟨RJ7, "copyOf", "([BI)[B"⟩
abbrev cJ7_checkLength_df160 : ByteArray := prog_42_method_131_code
def yJ7_checkLength_df160 : MethodName := ⟨RJ7, "checkLength", "(II)V"⟩
abbrev cJ7_copyOfRange_39247 : ByteArray := prog_42_method_132_code
def yJ7_copyOfRange_39247 : MethodName := ⟨RJ7, "copyOfRange", "([BII)[B"⟩
abbrev cJ7_copyOfRangeByte_39247 : ByteArray := prog_42_method_133_code
def yJ7_copyOfRangeByte_39247 : MethodName := ⟨RJ7, "copyOfRangeByte", "([BII)[B"⟩
def RJx5ef63 : String := "java/util/Collection"
def TJx5ef63 : u_T := fun k => match k with
  | _ => ("", "", "", false)
def tyJx5ef63 : Nat → FieldType := fun k => match k with
  | _ => .int
abbrev wsJx5ef630 : List Cond := u_ws RJx5ef63 TJx5ef63 0
theorem nmJx5ef63 : ∀ a, a < 0 → ∀ b, b < 0 → a ≠ b → (TJx5ef63 a).2.1 ≠ (TJx5ef63 b).2.1 := by decide +kernel
theorem tyJx5ef63_ok : ∀ k, k < 0 → parseFieldDescriptor (TJx5ef63 k).2.2.1 = some (tyJx5ef63 k) := by decide +kernel
def RJx4d0d8 : String := "java/util/Iterator"
def TJx4d0d8 : u_T := fun k => match k with
  | _ => ("", "", "", false)
def tyJx4d0d8 : Nat → FieldType := fun k => match k with
  | _ => .int
abbrev wsJx4d0d80 : List Cond := u_ws RJx4d0d8 TJx4d0d8 0
theorem nmJx4d0d8 : ∀ a, a < 0 → ∀ b, b < 0 → a ≠ b → (TJx4d0d8 a).2.1 ≠ (TJx4d0d8 b).2.1 := by decide +kernel
theorem tyJx4d0d8_ok : ∀ k, k < 0 → parseFieldDescriptor (TJx4d0d8 k).2.2.1 = some (tyJx4d0d8 k) := by decide +kernel
def RJxbd725 : String := "java/util/List"
def TJxbd725 : u_T := fun k => match k with
  | _ => ("", "", "", false)
def tyJxbd725 : Nat → FieldType := fun k => match k with
  | _ => .int
abbrev wsJxbd7250 : List Cond := u_ws RJxbd725 TJxbd725 0
theorem nmJxbd725 : ∀ a, a < 0 → ∀ b, b < 0 → a ≠ b → (TJxbd725 a).2.1 ≠ (TJxbd725 b).2.1 := by decide +kernel
theorem tyJxbd725_ok : ∀ k, k < 0 → parseFieldDescriptor (TJxbd725 k).2.2.1 = some (tyJxbd725 k) := by decide +kernel
def RJ15 : String := "java/util/Objects"
def TJ15 : u_T := fun k => match k with
  | _ => ("", "", "", false)
def tyJ15 : Nat → FieldType := fun k => match k with
  | _ => .int
abbrev wsJ150 : List Cond := u_ws RJ15 TJ15 0
theorem nmJ15 : ∀ a, a < 0 → ∀ b, b < 0 → a ≠ b → (TJ15 a).2.1 ≠ (TJ15 b).2.1 := by decide +kernel
theorem tyJ15_ok : ∀ k, k < 0 → parseFieldDescriptor (TJ15 k).2.2.1 = some (tyJ15 k) := by decide +kernel
abbrev cJ15_checkIndex_7cf53 : ByteArray := prog_47_method_17_code
def yJ15_checkIndex_7cf53 : MethodName := ⟨RJ15, "checkIndex", "(II)I"⟩
def RJxf0a74 : String := "java/util/RandomAccess"
def TJxf0a74 : u_T := fun k => match k with
  | _ => ("", "", "", false)
def tyJxf0a74 : Nat → FieldType := fun k => match k with
  | _ => .int
abbrev wsJxf0a740 : List Cond := u_ws RJxf0a74 TJxf0a74 0
theorem nmJxf0a74 : ∀ a, a < 0 → ∀ b, b < 0 → a ≠ b → (TJxf0a74 a).2.1 ≠ (TJxf0a74 b).2.1 := by decide +kernel
theorem tyJxf0a74_ok : ∀ k, k < 0 → parseFieldDescriptor (TJxf0a74 k).2.2.1 = some (tyJxf0a74 k) := by decide +kernel
def RJxa66e6 : String := "java/util/SequencedCollection"
def TJxa66e6 : u_T := fun k => match k with
  | _ => ("", "", "", false)
def tyJxa66e6 : Nat → FieldType := fun k => match k with
  | _ => .int
abbrev wsJxa66e60 : List Cond := u_ws RJxa66e6 TJxa66e6 0
theorem nmJxa66e6 : ∀ a, a < 0 → ∀ b, b < 0 → a ≠ b → (TJxa66e6 a).2.1 ≠ (TJxa66e6 b).2.1 := by decide +kernel
theorem tyJxa66e6_ok : ∀ k, k < 0 → parseFieldDescriptor (TJxa66e6 k).2.2.1 = some (tyJxa66e6 k) := by decide +kernel
def RJ8 : String := "jdk/internal/util/ArraysSupport"
def TJ8 : u_T := fun k => match k with
  | _ => ("", "", "", false)
def tyJ8 : Nat → FieldType := fun k => match k with
  | _ => .int
abbrev wsJ80 : List Cond := u_ws RJ8 TJ8 0
theorem nmJ8 : ∀ a, a < 0 → ∀ b, b < 0 → a ≠ b → (TJ8 a).2.1 ≠ (TJ8 b).2.1 := by decide +kernel
theorem tyJ8_ok : ∀ k, k < 0 → parseFieldDescriptor (TJ8 k).2.2.1 = some (tyJ8 k) := by decide +kernel
abbrev cJ8_newLength_cabcc : ByteArray := prog_50_method_27_code
def yJ8_newLength_cabcc : MethodName := ⟨RJ8, "newLength", "(III)I"⟩
abbrev cJ8_hugeLength_7cf53 : ByteArray := prog_50_method_28_code
def yJ8_hugeLength_7cf53 : MethodName := ⟨RJ8, "hugeLength", "(II)I"⟩
def RJ3 : String := "jdk/internal/util/Preconditions"
def TJ3 : u_T := fun k => match k with
  | _ => ("", "", "", false)
def tyJ3 : Nat → FieldType := fun k => match k with
  | _ => .int
abbrev wsJ30 : List Cond := u_ws RJ3 TJ3 0
theorem nmJ3 : ∀ a, a < 0 → ∀ b, b < 0 → a ≠ b → (TJ3 a).2.1 ≠ (TJ3 b).2.1 := by decide +kernel
theorem tyJ3_ok : ∀ k, k < 0 → parseFieldDescriptor (TJ3 k).2.2.1 = some (tyJ3 k) := by decide +kernel
abbrev cJ3_checkIndex_8e157 : ByteArray := prog_51_method_11_code
def yJ3_checkIndex_8e157 : MethodName := ⟨RJ3, "checkIndex", "(IILjava/util/function/BiFunction;)I"⟩
abbrev cJ3_checkFromToIndex_8c36e : ByteArray := prog_51_method_12_code
def yJ3_checkFromToIndex_8c36e : MethodName := ⟨RJ3, "checkFromToIndex", "(IIILjava/util/function/BiFunction;)I"⟩
abbrev cJ3_checkFromIndexSize_8c36e : ByteArray := prog_51_method_13_code
def yJ3_checkFromIndexSize_8c36e : MethodName := ⟨RJ3, "checkFromIndexSize", "(IIILjava/util/function/BiFunction;)I"⟩
def RL : String := "ShotListPlannerLaw"
abbrev cL_cell : ByteArray := method_2_code
def yL_cell : MethodName := ⟨RL, "cell", "([II)I"⟩
abbrev cL_drawn : ByteArray := method_3_code
def yL_drawn : MethodName := ⟨RL, "drawn", "([I)LShotListPlannerLaw$Board;"⟩
abbrev cL_someActor : ByteArray := method_4_code
def yL_someActor : MethodName := ⟨RL, "someActor", "(LShotListPlannerLaw$Board;II)I"⟩
abbrev cL_addShot : ByteArray := method_5_code
def yL_addShot : MethodName := ⟨RL, "addShot", "(LShotListPlannerLaw$Board;III)V"⟩
abbrev cL_feed : ByteArray := method_6_code
def yL_feed : MethodName := ⟨RL, "feed", "(LShotListPlanner;Ljava/lang/String;)V"⟩
abbrev cL_loaded : ByteArray := method_7_code
def yL_loaded : MethodName := ⟨RL, "loaded", "(LShotListPlannerLaw$Board;)LShotListPlanner;"⟩
abbrev cL_acts : ByteArray := method_8_code
def yL_acts : MethodName := ⟨RL, "acts", "(LShotListPlanner;LShotListPlannerLaw$Board;I)Z"⟩
abbrev cL_casts : ByteArray := method_9_code
def yL_casts : MethodName := ⟨RL, "casts", "(LShotListPlanner;LShotListPlannerLaw$Board;[III)Z"⟩
abbrev cL_shifts : ByteArray := method_10_code
def yL_shifts : MethodName := ⟨RL, "shifts", "(LShotListPlanner;LShotListPlannerLaw$Board;II)Z"⟩
abbrev cL_flips : ByteArray := method_11_code
def yL_flips : MethodName := ⟨RL, "flips", "(LShotListPlanner;LShotListPlannerLaw$Board;[II)Z"⟩
abbrev cL_hasNone : ByteArray := method_12_code
def yL_hasNone : MethodName := ⟨RL, "hasNone", "(LShotListPlanner;)Z"⟩
abbrev cL_hasNoFault : ByteArray := method_13_code
def yL_hasNoFault : MethodName := ⟨RL, "hasNoFault", "(LShotListPlanner;I)Z"⟩
abbrev cL_wrongHolds : ByteArray := method_14_code
def yL_wrongHolds : MethodName := ⟨RL, "wrongHolds", "(LShotListPlannerLaw$Board;I)Z"⟩
abbrev cL_shotsHold : ByteArray := method_15_code
def yL_shotsHold : MethodName := ⟨RL, "shotsHold", "(LShotListPlanner;LShotListPlannerLaw$Board;)Z"⟩
abbrev cL_eyeline : ByteArray := method_16_code
def yL_eyeline : MethodName := ⟨RL, "eyeline", "(LShotListPlannerLaw$Board;[I)I"⟩
abbrev cL_scenesHold : ByteArray := method_17_code
def yL_scenesHold : MethodName := ⟨RL, "scenesHold", "(LShotListPlanner;LShotListPlannerLaw$Board;)Z"⟩
abbrev cL_faultsHold : ByteArray := method_18_code
def yL_faultsHold : MethodName := ⟨RL, "faultsHold", "(LShotListPlanner;LShotListPlannerLaw$Board;)Z"⟩
abbrev cL_setupsHold : ByteArray := method_19_code
def yL_setupsHold : MethodName := ⟨RL, "setupsHold", "(LShotListPlanner;LShotListPlannerLaw$Board;)Z"⟩
abbrev cL_law : ByteArray := code
def yL_law : MethodName := ⟨RL, "law", "([I)Z"⟩
end
section
/-! TABLES of the claim (printed by a program of mine out of the claim's own tables) -/
abbrev vwCl : List vw_C := [(RX0, TX0, 7), (RX1, TX1, 7), (RX3, TX3, 3), (RX4, TX4, 2), (RX5, TX5, 7), (RX6, TX6, 4), (RX7, TX7, 10), (RX8, TX8, 6), (RX10, TX10, 14), (RX11, TX11, 7), (RJx4a65c, TJx4a65c, 3), (RJx35411, TJx35411, 4), (RJ6, TJ6, 1), (RJ4, TJ4, 4), (RJ0, TJ0, 4)]
abbrev MTy : Type := MethodName × ByteArray × Nat × Option FieldType × (Nat × Nat × Nat) × (Nat × Nat × Nat × Nat) × (Nat × Nat × Nat × Nat)
def cNl : List String := ["ShotListPlanner$Board", "ShotListPlanner$BoardReader", "ShotListPlanner$History", "ShotListPlanner$Plan", "ShotListPlanner$Route", "ShotListPlanner$Scene", "ShotListPlanner$SetupTable", "ShotListPlanner$Shot", "ShotListPlanner", "ShotListPlannerLaw$Board", "java/util/ArrayList", "java/util/ArrayList$Itr", "java/lang/Integer", "java/lang/StringBuilder", "java/lang/String", "ShotListPlanner$Faults", "ShotListPlanner$Sight", "ShotListPlannerLaw", "java/lang/StringLatin1", "jdk/internal/util/Preconditions", "java/util/Objects", "java/lang/AbstractStringBuilder", "java/util/Arrays", "jdk/internal/util/ArraysSupport", "java/lang/Number", "java/util/AbstractList", "java/util/AbstractCollection"]
def cN (k : Nat) : String := cNl.getD k ""
/-- the class of the receivers of a class's methods -/
def rcN (c : Nat) : Nat := if c = 21 then 13 else c
def mT0 : List MTy := [(yX0_init, cX0_init, 2, none, (0, 2, 1), (2, 46, 23, 135), (232, 231, 0, 43)),
  (yX0_copyFrom, cX0_copyFrom, 3, none, (0, 1, 2), (2, 47, 0, 0), (1086, 1084, 1085, 43)),
  (yX0_secondsOfAllShots, cX0_secondsOfAllShots, 3, (some .int), (0, 1, 1), (0, 0, 0, 0), (1341, 1339, 1340, 43)),
  (yX0_shotsOfScene, cX0_shotsOfScene, 4, (some .int), (0, 1, 2), (0, 0, 0, 0), (1049, 1047, 1048, 43)),
  (yX0_isSubjectAt, cX0_isSubjectAt, 4, (some .boolean), (0, 1, 4), (1, 23, 0, 0), (1355, 1353, 1354, 43)),
  (yX0_hasCameraOn, cX0_hasCameraOn, 8, (some .boolean), (0, 1, 5), (0, 0, 0, 0), (1272, 1270, 1271, 43)),
  (yX0_oppositeX, cX0_oppositeX, 3, (some .int), (0, 1, 2), (0, 0, 0, 0), (1423, 1421, 1422, 43)),
  (yX0_oppositeY, cX0_oppositeY, 3, (some .int), (0, 1, 2), (0, 0, 0, 0), (1427, 1425, 1426, 43)),
  (yX0_renumber, cX0_renumber, 5, none, (0, 1, 3), (0, 0, 0, 0), (1387, 1385, 1386, 43)),
  (yX1_init, cX1_init, 1, none, (1, 2, 1), (1, 26, 1, 0), (371, 370, 0, 46)),
  (yX1_position, cX1_position, 1, (some .int), (1, 1, 1), (0, 0, 0, 0), (1082, 1080, 1081, 46)),
  (yX1_read, cX1_read, 5, (some .int), (1, 1, 4), (8, 173, 0, 0), (983, 981, 982, 46)),
  (yX1_readLimits, cX1_readLimits, 2, none, (1, 1, 2), (5, 107, 0, 0), (1005, 1004, 8, 46)),
  (yX1_readStatement, cX1_readStatement, 2, none, (1, 1, 2), (7, 152, 0, 0), (1032, 1031, 14, 46)),
  (yX1_readScene, cX1_readScene, 4, none, (1, 1, 2), (4, 83, 0, 0), (1037, 1036, 15, 46)),
  (yX1_readActor, cX1_readActor, 7, none, (1, 1, 2), (4, 83, 0, 0), (1045, 1044, 16, 46)),
  (yX1_readShot, cX1_readShot, 4, none, (1, 1, 2), (6, 129, 0, 0), (1061, 1060, 17, 46)),
  (yX1_readSubject, cX1_readSubject, 3, none, (1, 1, 3), (3, 65, 0, 0), (1065, 1064, 18, 46)),
  (yX1_readPartner, cX1_readPartner, 3, none, (1, 1, 3), (5, 107, 0, 0), (1077, 1076, 20, 46)),
  (yX1_canSceneEnd, cX1_canSceneEnd, 2, (some .boolean), (1, 0, 1), (0, 0, 0, 0), (1040, 1039, 0, 46)),
  (yX1_seeActorOf, cX1_seeActorOf, 3, (some .int), (1, 1, 2), (2, 43, 0, 0), (1069, 1068, 19, 46)),
  (yX1_seeNumber, cX1_seeNumber, 3, (some .int), (1, 1, 3), (1, 21, 0, 0), (1024, 1023, 12, 46)),
  (yX1_takeNumber, cX1_takeNumber, 4, (some .int), (1, 1, 3), (3, 60, 0, 0), (1020, 1019, 11, 46)),
  (yX1_takeSemicolon, cX1_takeSemicolon, 1, none, (1, 1, 1), (3, 60, 0, 0), (1028, 1027, 13, 46)),
  (yX1_fail, cX1_fail, 2, none, (1, 1, 2), (0, 0, 0, 0), (1016, 1015, 10, 46)),
  (yX1_advance, cX1_advance, 1, none, (1, 1, 1), (2, 40, 0, 0), (987, 986, 5, 46)),
  (yX1_scanNumber, cX1_scanNumber, 1, none, (1, 1, 1), (1, 20, 0, 0), (994, 993, 6, 46)),
  (yX1_scanKeyword, cX1_scanKeyword, 1, none, (1, 1, 1), (1, 20, 0, 0), (1001, 1000, 7, 46)),
  (yX1_isKeyword, cX1_isKeyword, 3, (some .boolean), (1, 1, 2), (4, 85, 0, 0), (1010, 1009, 9, 46)),
  (yX1_isDigit, cX1_isDigit, 1, (some .boolean), (1, 0, 1), (0, 0, 0, 0), (990, 989, 0, 46)),
  (yX1_isLetter, cX1_isLetter, 1, (some .boolean), (1, 0, 1), (0, 0, 0, 0), (997, 996, 0, 46)),
  (yX2_total, cX2_total, 4, (some .int), (15, 0, 1), (4, 95, 0, 0), (1275, 1274, 0, 66)),
  (yX2_kindsOf, cX2_kindsOf, 4, (some .int), (15, 0, 2), (4, 95, 0, 0), (1519, 1518, 0, 66)),
  (yX2_causeOf, cX2_causeOf, 3, (some .int), (15, 0, 3), (3, 72, 0, 0), (1566, 1565, 0, 66)),
  (yX2_kindsBetween, cX2_kindsBetween, 4, (some .int), (15, 0, 3), (3, 72, 0, 0), (1284, 1283, 0, 66)),
  (yX2_areSamePair, cX2_areSamePair, 3, (some .boolean), (15, 0, 2), (1, 21, 0, 0), (1287, 1286, 0, 66)),
  (yX2_areFacing, cX2_areFacing, 2, (some .boolean), (15, 0, 2), (0, 0, 0, 0), (1290, 1289, 0, 66)),
  (yX3_init, cX3_init, 2, none, (2, 2, 1), (3, 67, 241, 1430), (399, 398, 0, 47)),
  (yX3_forgetAll, cX3_forgetAll, 1, none, (2, 1, 1), (0, 0, 0, 0), (1099, 1097, 1098, 47)),
  (yX3_remember, cX3_remember, 2, none, (2, 1, 2), (3, 69, 0, 0), (1144, 1142, 1143, 47))]
def mT1 : List MTy := [(yX4_init, cX4_init, 1, none, (3, 2, 1), (1, 26, 1, 1056), (488, 487, 0, 50)),
  (yX5_init, cX5_init, 2, none, (4, 2, 2), (1, 26, 4, 49320), (462, 461, 0, 49)),
  (yX6_init, cX6_init, 1, none, (5, 2, 1), (1, 26, 2, 12), (241, 240, 0, 44)),
  (yX6_hasActor, cX6_hasActor, 2, (some .boolean), (5, 1, 2), (1, 21, 0, 0), (1053, 1051, 1052, 44)),
  (yX6_isActorAt, cX6_isActorAt, 4, (some .boolean), (5, 1, 4), (0, 0, 0, 0), (1073, 1071, 1072, 44)),
  (yX6_copyFrom, cX6_copyFrom, 2, none, (5, 1, 2), (1, 26, 0, 0), (1090, 1088, 1089, 44)),
  (yX7_init, cX7_init, 1, none, (6, 2, 1), (1, 26, 9, 108), (418, 417, 0, 48)),
  (yX7_fill, cX7_fill, 5, none, (6, 1, 2), (4, 99, 0, 0), (1154, 1152, 1153, 48)),
  (yX7_group, cX7_group, 8, (some .int), (6, 0, 4), (3, 72, 0, 0), (1157, 1156, 0, 48)),
  (yX7_costOfStart, cX7_costOfStart, 2, (some .int), (6, 1, 2), (1, 20, 0, 0), (1612, 1610, 1611, 48)),
  (yX7_costOfChange, cX7_costOfChange, 5, (some .int), (6, 1, 3), (1, 26, 0, 0), (1617, 1615, 1616, 48)),
  (yX8_init, cX8_init, 1, none, (7, 2, 1), (1, 26, 0, 0), (272, 271, 0, 45)),
  (yX8_placeCamera, cX8_placeCamera, 3, none, (7, 1, 3), (0, 0, 0, 0), (1360, 1358, 1359, 45)),
  (yX8_copyFrom, cX8_copyFrom, 2, none, (7, 1, 2), (0, 0, 0, 0), (1095, 1093, 1094, 45)),
  (yX9_viewOf, cX9_viewOf, 3, (some .int), (16, 0, 2), (1, 24, 0, 0), (1166, 1165, 0, 67)),
  (yX9_sideOf, cX9_sideOf, 5, (some .int), (16, 0, 2), (1, 26, 0, 0), (1293, 1292, 0, 67)),
  (yX9_lookOf, cX9_lookOf, 5, (some .int), (16, 0, 2), (1, 23, 0, 0), (1301, 1300, 0, 67)),
  (yX9_seenBy, cX9_seenBy, 7, (some .int), (16, 0, 2), (2, 48, 0, 0), (1177, 1176, 0, 67)),
  (yX9_eyelineOf, cX9_eyelineOf, 5, (some .int), (16, 0, 2), (2, 48, 0, 0), (1527, 1526, 0, 67)),
  (yX9_areNear, cX9_areNear, 5, (some .boolean), (16, 0, 4), (2, 48, 0, 0), (1160, 1159, 0, 67)),
  (yX9_blockerOf, cX9_blockerOf, 11, (some .int), (16, 0, 2), (2, 42, 0, 0), (1278, 1277, 0, 67)),
  (yX10_init, cX10_init, 1, none, (8, 2, 1), (4, 88, 315, 102354), (226, 225, 0, 42)),
  (yX10_append, cX10_append, 6, (some .int), (8, 1, 6), (6, 88, 1, 6), (927, 925, 926, 42)),
  (yX10_putFourBytes, cX10_putFourBytes, 3, none, (8, 1, 2), (0, 0, 0, 0), (955, 954, 4, 42)),
  (yX10_truncate, cX10_truncate, 2, (some .int), (8, 1, 2), (6, 88, 1, 6), (959, 957, 958, 42)),
  (yX10_load, cX10_load, 2, (some .int), (8, 1, 1), (9, 197, 0, 0), (979, 977, 978, 42)),
  (yX10_errorPosition, cX10_errorPosition, 1, (some .int), (8, 1, 1), (0, 0, 0, 0), (1438, 1436, 1437, 42)),
  (yX10_count, cX10_count, 2, (some .int), (8, 1, 2), (7, 110, 2, 12), (1337, 1335, 1336, 42)),
  (yX10_scene, cX10_scene, 3, (some .int), (8, 1, 3), (8, 131, 3, 18), (1549, 1547, 1548, 42)),
  (yX10_actor, cX10_actor, 4, (some .int), (8, 1, 4), (8, 131, 3, 18), (1545, 1543, 1544, 42)),
  (yX10_shot, cX10_shot, 4, (some .int), (8, 1, 3), (8, 131, 3, 18), (1485, 1483, 1484, 42)),
  (yX10_setLimits, cX10_setLimits, 4, (some .int), (8, 1, 4), (7, 143, 4, 24), (1127, 1125, 1126, 42)),
  (yX10_setLight, cX10_setLight, 4, (some .int), (8, 1, 3), (8, 131, 3, 18), (1247, 1245, 1246, 42)),
  (yX10_moveActor, cX10_moveActor, 5, (some .int), (8, 1, 5), (8, 131, 5, 30), (1260, 1258, 1259, 42)),
  (yX10_moveCamera, cX10_moveCamera, 5, (some .int), (8, 1, 4), (8, 131, 4, 24), (1347, 1345, 1346, 42)),
  (yX10_setCast, cX10_setCast, 6, (some .int), (8, 1, 4), (8, 131, 4, 24), (1367, 1365, 1366, 42)),
  (yX10_setLength, cX10_setLength, 4, (some .int), (8, 1, 3), (8, 131, 3, 18), (1376, 1374, 1375, 42)),
  (yX10_shift, cX10_shift, 3, (some .int), (8, 1, 3), (8, 131, 3, 18), (1383, 1381, 1382, 42)),
  (yX10_drop, cX10_drop, 2, (some .int), (8, 1, 2), (8, 131, 2, 12), (1408, 1406, 1407, 42)),
  (yX10_flip, cX10_flip, 3, (some .int), (8, 1, 2), (8, 131, 2, 12), (1415, 1413, 1414, 42))]
def mT2 : List MTy := [(yX10_view, cX10_view, 2, (some .int), (8, 1, 2), (8, 131, 2, 12), (1489, 1487, 1488, 42)),
  (yX10_side, cX10_side, 2, (some .int), (8, 1, 2), (8, 131, 2, 12), (1495, 1493, 1494, 42)),
  (yX10_look, cX10_look, 2, (some .int), (8, 1, 2), (8, 131, 2, 12), (1501, 1499, 1500, 42)),
  (yX10_visible, cX10_visible, 2, (some .int), (8, 1, 2), (8, 131, 2, 12), (1507, 1505, 1506, 42)),
  (yX10_eyeline, cX10_eyeline, 2, (some .int), (8, 1, 2), (8, 131, 2, 12), (1524, 1522, 1523, 42)),
  (yX10_isNear, cX10_isNear, 3, (some .boolean), (8, 1, 3), (8, 131, 3, 18), (1536, 1534, 1535, 42)),
  (yX10_faults, cX10_faults, 1, (some .int), (8, 1, 1), (7, 118, 1, 6), (1372, 1370, 1371, 42)),
  (yX10_fault, cX10_fault, 7, (some .int), (8, 1, 3), (7, 118, 4, 24), (1557, 1555, 1556, 42)),
  (yX10_propertyOfFault, cX10_propertyOfFault, 4, (some .int), (8, 1, 4), (4, 94, 0, 0), (1563, 1562, 31, 42)),
  (yX10_faultsOf, cX10_faultsOf, 2, (some .int), (8, 1, 2), (8, 131, 2, 12), (1516, 1514, 1515, 42)),
  (yX10_setups, cX10_setups, 1, (some .int), (8, 1, 1), (7, 143, 1, 6), (1627, 1625, 1626, 42)),
  (yX10_setupOf, cX10_setupOf, 2, (some .int), (8, 1, 2), (8, 143, 2, 12), (1604, 1602, 1603, 42)),
  (yX10_setup, cX10_setup, 3, (some .int), (8, 1, 3), (8, 164, 3, 18), (1587, 1585, 1586, 42)),
  (yX10_change, cX10_change, 3, (some .int), (8, 1, 3), (8, 164, 3, 18), (1608, 1606, 1607, 42)),
  (yX10_plainCost, cX10_plainCost, 3, (some .int), (8, 1, 1), (7, 143, 1, 6), (1631, 1629, 1630, 42)),
  (yX10_needBoard, cX10_needBoard, 1, none, (8, 1, 1), (6, 88, 1, 6), (1131, 1130, 22, 42)),
  (yX10_needRange, cX10_needRange, 3, none, (8, 0, 3), (6, 88, 1, 6), (1135, 1134, 0, 42)),
  (yX10_needPlace, cX10_needPlace, 2, none, (8, 0, 2), (7, 110, 2, 12), (1268, 1267, 0, 42)),
  (yX10_needScene, cX10_needScene, 2, none, (8, 1, 2), (7, 110, 1, 6), (1251, 1250, 25, 42)),
  (yX10_needShot, cX10_needShot, 2, none, (8, 1, 2), (7, 110, 1, 6), (1351, 1350, 26, 42)),
  (yX10_needSetup, cX10_needSetup, 2, none, (8, 1, 2), (7, 143, 1, 6), (1591, 1590, 32, 42)),
  (yX10_needActor, cX10_needActor, 2, none, (8, 0, 2), (6, 88, 1, 6), (1263, 1262, 0, 42)),
  (yX10_beginAction, cX10_beginAction, 1, none, (8, 1, 1), (4, 90, 0, 0), (1140, 1139, 23, 42)),
  (yX10_forgetAnswers, cX10_forgetAnswers, 1, none, (8, 1, 1), (0, 0, 0, 0), (1103, 1102, 21, 42)),
  (yX10_settleSetups, cX10_settleSetups, 1, none, (8, 1, 1), (5, 123, 0, 0), (1150, 1149, 24, 42)),
  (yX10_obstacleToFlip, cX10_obstacleToFlip, 4, (some .int), (8, 1, 2), (2, 46, 0, 0), (1419, 1418, 29, 42)),
  (yX10_turnOver, cX10_turnOver, 2, none, (8, 1, 2), (1, 22, 0, 0), (1431, 1430, 30, 42)),
  (yX10_holds, cX10_holds, 2, (some .boolean), (8, 0, 2), (0, 0, 0, 0), (1056, 1055, 0, 42)),
  (yX10_crossProduct, cX10_crossProduct, 4, (some .int), (8, 0, 4), (0, 0, 0, 0), (1281, 1280, 0, 42)),
  (yX10_signOf, cX10_signOf, 1, (some .int), (8, 0, 1), (0, 0, 0, 0), (1298, 1297, 0, 42)),
  (yX10_directionNumber, cX10_directionNumber, 5, (some .int), (8, 0, 2), (0, 0, 0, 0), (1169, 1168, 0, 42)),
  (yX10_turnBetween, cX10_turnBetween, 3, (some .int), (8, 0, 2), (1, 26, 0, 0), (1172, 1171, 0, 42)),
  (yX11_init, cX11_init, 1, none, (9, 2, 1), (4, 86, 4, 3), (81, 80, 0, 34)),
  (yX11_direction, cX11_direction, 3, (some .int), (9, 0, 2), (1, 26, 0, 0), (1214, 1213, 0, 34)),
  (yX11_turn, cX11_turn, 2, (some .int), (9, 0, 2), (1, 26, 0, 0), (1217, 1216, 0, 34)),
  (yX11_ax, cX11_ax, 3, (some .int), (9, 1, 3), (0, 0, 0, 0), (1207, 1205, 1206, 34)),
  (yX11_ay, cX11_ay, 3, (some .int), (9, 1, 3), (0, 0, 0, 0), (1211, 1209, 1210, 34)),
  (yX11_view, cX11_view, 2, (some .int), (9, 1, 2), (2, 48, 0, 0), (1203, 1201, 1202, 34)),
  (yX11_side, cX11_side, 4, (some .int), (9, 1, 2), (1, 26, 0, 0), (1324, 1322, 1323, 34)),
  (yX11_look, cX11_look, 4, (some .int), (9, 1, 2), (1, 22, 0, 0), (1332, 1330, 1331, 34))]
def mT3 : List MTy := [(yX11_visible, cX11_visible, 4, (some .int), (9, 1, 2), (3, 69, 0, 0), (1512, 1510, 1511, 34)),
  (yX11_near, cX11_near, 4, (some .boolean), (9, 1, 4), (3, 69, 0, 0), (1198, 1196, 1197, 34)),
  (yX11_blocker, cX11_blocker, 8, (some .int), (9, 1, 2), (1, 22, 0, 0), (1320, 1318, 1319, 34)),
  (yX11_kinds, cX11_kinds, 8, (some .int), (9, 1, 2), (4, 92, 0, 0), (1316, 1314, 1315, 34)),
  (yX11_faults, cX11_faults, 3, (some .int), (9, 1, 1), (5, 119, 0, 0), (1312, 1310, 1311, 34)),
  (yX11_setups, cX11_setups, 5, (some (.object "java/util/ArrayList")), (9, 1, 2), (7, 157, 40, 450), (1183, 1181, 1182, 34)),
  (yX11_actors, cX11_actors, 4, (some .int), (9, 1, 2), (4, 92, 0, 0), (1595, 1593, 1594, 34)),
  (yX11_length, cX11_length, 4, (some .int), (9, 1, 2), (3, 64, 0, 0), (1600, 1598, 1599, 34)),
  (yX11_change, cX11_change, 5, (some .int), (9, 1, 3), (5, 115, 0, 0), (1622, 1620, 1621, 34)),
  (yX11_said, cX11_said, 5, (some (.object "java/lang/String")), (9, 1, 1), (6, 140, 1500, 1200000), (542, 540, 541, 34)),
  (yJx4a65c_init_da8c8, cJx4a65c_init_da8c8, 1, none, (10, 2, 1), (3, 66, 0, 0), (89, 88, 0, 37)),
  (yJx4a65c_grow_92f84, cJx4a65c_grow_92f84, 4, (some (.array (.object "java/lang/Object"))), (10, 1, 2), (3, 70, 1, 32), (169, 168, 2, 37)),
  (yJx4a65c_grow_d5877, cJx4a65c_grow_d5877, 1, (some (.array (.object "java/lang/Object"))), (10, 1, 1), (4, 93, 1, 32), (165, 164, 1, 37)),
  (yJx4a65c_size_8abf5, cJx4a65c_size_8abf5, 1, (some .int), (10, 1, 1), (0, 0, 0, 0), (1107, 1105, 1106, 37)),
  (yJx4a65c_elementData_915e3, cJx4a65c_elementData_915e3, 2, (some (.object "java/lang/Object")), (10, 1, 2), (0, 0, 0, 0), (1122, 1120, 1121, 37)),
  (yJx4a65c_get_915e3, cJx4a65c_get_915e3, 2, (some (.object "java/lang/Object")), (10, 1, 2), (2, 43, 0, 0), (1114, 1112, 1113, 37)),
  (yJx4a65c_set_bcc79, cJx4a65c_set_bcc79, 4, (some (.object "java/lang/Object")), (10, 1, 3), (2, 43, 0, 0), (1243, 1241, 1242, 37)),
  (yJx4a65c_add_72be8, cJx4a65c_add_72be8, 4, none, (10, 1, 4), (5, 113, 1, 32), (161, 160, 0, 37)),
  (yJx4a65c_add_9ea2d, cJx4a65c_add_9ea2d, 2, (some .boolean), (10, 1, 2), (6, 136, 1, 32), (157, 155, 156, 37)),
  (yJx4a65c_add_7a177, cJx4a65c_add_7a177, 5, none, (10, 1, 3), (5, 113, 1, 32), (1400, 1398, 1399, 37)),
  (yJx4a65c_remove_915e3, cJx4a65c_remove_915e3, 4, (some (.object "java/lang/Object")), (10, 1, 2), (2, 49, 0, 0), (1391, 1389, 1390, 37)),
  (yJx4a65c_fastRemove_b59b0, cJx4a65c_fastRemove_b59b0, 4, none, (10, 1, 3), (1, 26, 0, 0), (1395, 1394, 27, 37)),
  (yJx4a65c_rangeCheckForAdd_d00df, cJx4a65c_rangeCheckForAdd_d00df, 2, none, (10, 1, 2), (0, 0, 0, 0), (1404, 1403, 28, 37)),
  (yJx4a65c_iterator_32c93, cJx4a65c_iterator_32c93, 1, (some (.object "java/util/Iterator")), (10, 1, 1), (2, 47, 1, 4), (734, 732, 733, 37)),
  (yJx35411_init_45d68, cJx35411_init_45d68, 2, none, (11, 2, 2), (1, 26, 0, 0), (739, 738, 0, 59)),
  (yJx35411_hasNext_aae02, cJx35411_hasNext_aae02, 1, (some .boolean), (11, 4, 1), (0, 0, 0, 0), (763, 761, 759, 59)),
  (yJx35411_next_0502b, cJx35411_next_0502b, 3, (some (.object "java/lang/Object")), (11, 4, 1), (1, 26, 0, 0), (772, 770, 768, 59)),
  (yJx35411_checkForComodification_da8c8, cJx35411_checkForComodification_da8c8, 1, none, (11, 1, 1), (0, 0, 0, 0), (776, 774, 775, 59)),
  (yJ6_getChars_ba4f3, cJ6_getChars_ba4f3, 7, (some .int), (12, 0, 3), (0, 0, 0, 0), (693, 692, 0, 58)),
  (yJ6_stringSize_0f7a4, cJ6_stringSize_0f7a4, 4, (some .int), (12, 0, 1), (0, 0, 0, 0), (690, 689, 0, 58)),
  (yJ6_valueOf_2dffe, cJ6_valueOf_2dffe, 1, (some (.object "java/lang/Integer")), (12, 0, 1), (3, 67, 1, 1), (1221, 1220, 0, 58)),
  (yJ6_init_d00df, cJ6_init_d00df, 2, none, (12, 2, 2), (2, 46, 0, 0), (1230, 1229, 0, 58)),
  (yJ6_intValue_8abf5, cJ6_intValue_8abf5, 1, (some .int), (12, 1, 1), (0, 0, 0, 0), (1190, 1188, 1189, 58)),
  (yJ6_numberOfTrailingZeros_0f7a4, cJ6_numberOfTrailingZeros_0f7a4, 2, (some .int), (12, 0, 1), (0, 0, 0, 0), (1193, 1192, 0, 58)),
  (yJ6_bitCount_0f7a4, cJ6_bitCount_0f7a4, 1, (some .int), (12, 0, 1), (0, 0, 0, 0), (1305, 1304, 0, 58)),
  (yJ6_signum_0f7a4, cJ6_signum_0f7a4, 1, (some .int), (12, 0, 1), (0, 0, 0, 0), (1328, 1327, 0, 58)),
  (yJ4_init_da8c8, cJ4_init_da8c8, 1, none, (13, 2, 1), (2, 47, 1, 16), (547, 546, 0, 52)),
  (yJ4_append_15ec4, cJ4_append_15ec4, 2, (some (.object "java/lang/StringBuilder")), (13, 1, 2), (5, 118, 1, 1300), (579, 577, 578, 52)),
  (yJ4_append_cf468, cJ4_append_cf468, 2, (some (.object "java/lang/StringBuilder")), (13, 1, 2), (5, 117, 1, 1300), (709, 707, 708, 52)),
  (yJ4_append_bf812, cJ4_append_bf812, 2, (some (.object "java/lang/StringBuilder")), (13, 1, 2), (5, 119, 1, 1300), (684, 682, 683, 52))]
def mT4 : List MTy := [(yJ4_toString_0e30d, cJ4_toString_0e30d, 1, (some (.object "java/lang/String")), (13, 1, 1), (5, 117, 2, 1304), (847, 845, 846, 52)),
  (yJ4_length_8abf5, cJ4_length_8abf5, 1, (some .int), (13, 5, 1), (1, 20, 0, 0), (867, 866, 0, 52)),
  (yJ0_init_81219, cJ0_init_81219, 2, none, (14, 2, 2), (4, 96, 1, 1300), (852, 851, 0, 53)),
  (yJ0_length_8abf5, cJ0_length_8abf5, 1, (some .int), (14, 1, 1), (1, 20, 0, 0), (641, 639, 640, 53)),
  (yJ0_charAt_5068e, cJ0_charAt_5068e, 2, (some .char), (14, 1, 2), (3, 64, 0, 0), (912, 910, 911, 53)),
  (yJ0_substring_b52d3, cJ0_substring_b52d3, 2, (some (.object "java/lang/String")), (14, 1, 2), (5, 118, 2, 1304), (1474, 1472, 1473, 53)),
  (yJ0_substring_37a41, cJ0_substring_37a41, 5, (some (.object "java/lang/String")), (14, 1, 3), (4, 94, 2, 1304), (1448, 1446, 1447, 53)),
  (yJ0_getBytes_840e7, cJ0_getBytes_840e7, 4, none, (14, 1, 4), (2, 50, 0, 0), (678, 676, 677, 53)),
  (yJ0_init_db425, cJ0_init_db425, 5, none, (14, 2, 3), (3, 72, 1, 1300), (855, 854, 0, 53)),
  (yJ0_init_031fb, cJ0_init_031fb, 3, none, (14, 2, 3), (1, 26, 1, 1300), (1459, 1458, 0, 53)),
  (yJ0_coder_7d493, cJ0_coder_7d493, 1, (some .byte), (14, 1, 1), (0, 0, 0, 0), (645, 643, 644, 53)),
  (yJ0_isLatin1_aae02, cJ0_isLatin1_aae02, 1, (some .boolean), (14, 1, 1), (0, 0, 0, 0), (916, 914, 915, 53)),
  (yJ0_checkIndex_df160, cJ0_checkIndex_df160, 2, none, (14, 0, 2), (1, 22, 0, 0), (724, 723, 0, 53)),
  (yJ0_checkBoundsBeginEnd_23922, cJ0_checkBoundsBeginEnd_23922, 3, none, (14, 0, 3), (1, 23, 0, 0), (623, 622, 0, 53)),
  (yL_cell, cL_cell, 2, (some .int), (17, 0, 2), (0, 0, 0, 0), (72, 71, 0, 33)),
  (yL_drawn, cL_drawn, 10, (some (.object "ShotListPlannerLaw$Board")), (17, 0, 1), (8, 184, 60, 1000), (76, 75, 0, 33)),
  (yL_someActor, cL_someActor, 4, (some .int), (17, 0, 3), (0, 0, 0, 0), (153, 152, 0, 33)),
  (yL_addShot, cL_addShot, 8, none, (17, 0, 4), (7, 157, 2, 38), (150, 149, 0, 33)),
  (yL_feed, cL_feed, 5, none, (17, 0, 2), (7, 113, 50, 250), (907, 906, 0, 33)),
  (yL_loaded, cL_loaded, 2, (some (.object "ShotListPlanner")), (17, 0, 1), (10, 218, 2000, 1400000), (221, 220, 0, 33)),
  (yL_acts, cL_acts, 13, (some .boolean), (17, 0, 3), (10, 182, 60, 3000), (1110, 1109, 0, 33)),
  (yL_casts, cL_casts, 7, (some .boolean), (17, 0, 5), (9, 156, 12, 72), (1363, 1362, 0, 33)),
  (yL_shifts, cL_shifts, 5, (some .boolean), (17, 0, 4), (9, 153, 1, 32), (1379, 1378, 0, 33)),
  (yL_flips, cL_flips, 6, (some .boolean), (17, 0, 4), (9, 153, 8, 48), (1411, 1410, 0, 33)),
  (yL_wrongHolds, cL_wrongHolds, 6, (some .boolean), (17, 0, 2), (10, 218, 2200, 1500000), (1434, 1433, 0, 33)),
  (yL_shotsHold, cL_shotsHold, 6, (some .boolean), (17, 0, 2), (9, 154, 1, 6), (1481, 1480, 0, 33)),
  (yL_eyeline, cL_eyeline, 4, (some .int), (17, 0, 2), (2, 48, 0, 0), (1530, 1529, 0, 33)),
  (yL_scenesHold, cL_scenesHold, 7, (some .boolean), (17, 0, 2), (9, 154, 3, 12), (1541, 1540, 0, 33)),
  (yL_faultsHold, cL_faultsHold, 5, (some .boolean), (17, 0, 2), (9, 166, 1, 6), (1553, 1552, 0, 33)),
  (yL_setupsHold, cL_setupsHold, 8, (some .boolean), (17, 0, 2), (9, 186, 40, 450), (1580, 1579, 0, 33)),
  (yJ1_charAt_3b067, cJ1_charAt_3b067, 2, (some .char), (18, 0, 2), (2, 43, 0, 0), (919, 918, 0, 56)),
  (yJ1_canEncode_fc78d, cJ1_canEncode_fc78d, 1, (some .boolean), (18, 0, 1), (0, 0, 0, 0), (715, 714, 0, 56)),
  (yJ1_newString_b4f7a, cJ1_newString_b4f7a, 3, (some (.object "java/lang/String")), (18, 0, 3), (3, 72, 2, 1304), (1453, 1452, 0, 56)),
  (yJ1_inflate_0e8fd, cJ1_inflate_0e8fd, 5, none, (18, 0, 5), (1, 26, 0, 0), (662, 661, 0, 56)),
  (yJ3_checkIndex_8e157, cJ3_checkIndex_8e157, 3, (some .int), (19, 0, 3), (0, 0, 0, 0), (727, 726, 0, 55)),
  (yJ3_checkFromToIndex_8c36e, cJ3_checkFromToIndex_8c36e, 4, (some .int), (19, 0, 4), (0, 0, 0, 0), (628, 627, 0, 55)),
  (yJ15_checkIndex_7cf53, cJ15_checkIndex_7cf53, 2, (some .int), (20, 0, 2), (1, 22, 0, 0), (1117, 1116, 0, 68)),
  (yJ5_init_d00df, cJ5_init_d00df, 2, none, (21, 2, 2), (1, 26, 1, 16), (550, 549, 0, 51)),
  (yJ5_length_8abf5, cJ5_length_8abf5, 1, (some .int), (21, 3, 1), (0, 0, 0, 0), (869, 863, 0, 51)),
  (yJ5_ensureCapacityInternal_d00df, cJ5_ensureCapacityInternal_d00df, 3, none, (21, 1, 2), (3, 74, 1, 1300), (590, 589, 1671, 51))]
def mT5 : List MTy := [(yJ5_newCapacity_0f7a4, cJ5_newCapacity_0f7a4, 6, (some .int), (21, 1, 2), (2, 49, 0, 0), (594, 593, 1672, 51)),
  (yJ5_append_cf1ce, cJ5_append_cf1ce, 3, (some (.object "java/lang/AbstractStringBuilder")), (21, 3, 2), (4, 96, 1, 1300), (582, 581, 0, 51)),
  (yJ5_append_3fe6f, cJ5_append_3fe6f, 2, (some (.object "java/lang/AbstractStringBuilder")), (21, 3, 2), (4, 96, 1, 1300), (712, 711, 0, 51)),
  (yJ5_append_c97b9, cJ5_append_c97b9, 4, (some (.object "java/lang/AbstractStringBuilder")), (21, 3, 2), (4, 96, 1, 1300), (687, 686, 0, 51)),
  (yJ5_getValue_6d5f1, cJ5_getValue_6d5f1, 1, (some (.array .byte)), (21, 1, 1), (0, 0, 0, 0), (861, 858, 860, 51)),
  (yJ5_isLatin1_aae02, cJ5_isLatin1_aae02, 1, (some .boolean), (21, 1, 1), (0, 0, 0, 0), (611, 608, 610, 51)),
  (yJ5_inflateIfNeededFor_a7421, cJ5_inflateIfNeededFor_a7421, 2, none, (21, 1, 2), (1, 26, 0, 0), (654, 653, 1674, 51)),
  (yJ5_putStringAt_47b60, cJ5_putStringAt_47b60, 3, none, (21, 1, 3), (3, 73, 0, 0), (650, 649, 1673, 51)),
  (yJ7_copyOf_1904c, cJ7_copyOf_1904c, 2, (some (.array (.object "java/lang/Object"))), (22, 0, 2), (2, 49, 1, 32), (182, 181, 0, 40)),
  (yJ7_copyOf_6403c, cJ7_copyOf_6403c, 4, (some (.array (.object "java/lang/Object"))), (22, 0, 3), (1, 26, 1, 32), (207, 206, 0, 40)),
  (yJ7_copyOf_9075b, cJ7_copyOf_9075b, 3, (some (.array .byte)), (22, 0, 2), (1, 26, 1, 1300), (599, 598, 0, 40)),
  (yJ7_checkLength_df160, cJ7_checkLength_df160, 2, none, (22, 0, 2), (0, 0, 0, 0), (879, 878, 0, 40)),
  (yJ7_copyOfRange_39247, cJ7_copyOfRange_39247, 3, (some (.array .byte)), (22, 0, 3), (2, 50, 1, 1300), (873, 872, 0, 40)),
  (yJ7_copyOfRangeByte_39247, cJ7_copyOfRangeByte_39247, 5, (some (.array .byte)), (22, 0, 3), (1, 26, 1, 1300), (876, 875, 0, 40)),
  (yJ8_newLength_cabcc, cJ8_newLength_cabcc, 4, (some .int), (23, 0, 3), (1, 26, 0, 0), (172, 171, 0, 38)),
  (yJxd2413_init_da8c8, cJxd2413_init_da8c8, 1, none, (24, 2, 1), (1, 26, 0, 0), (1233, 1232, 0, 57)),
  (yJxc12de_init_da8c8, cJxc12de_init_da8c8, 1, none, (25, 2, 1), (2, 46, 0, 0), (92, 91, 0, 36)),
  (yJxa1e45_init_da8c8, cJxa1e45_init_da8c8, 1, none, (26, 2, 1), (1, 26, 0, 0), (95, 94, 0, 35))]
def mT : List MTy := mT0 ++ mT1 ++ mT2 ++ mT3 ++ mT4 ++ mT5
/-- the law itself stands behind the last -/
def mD : MTy := (x, code, 4, some .boolean, (17, 0, 1), (14, 544, 600086, 7301442), (0, 0, 0, 0))
def fL : List (Nat × Nat × Nat × Nat × Nat) := [(11, 0, 5, 2, 342), (19, 0, 6, 2, 347), (25, 0, 0, 0, 321), (29, 0, 1, 0, 326), (32, 0, 2, 0, 330), (35, 0, 3, 0, 334), (38, 0, 4, 0, 338), (48, 7, 5, 0, 304), (51, 7, 0, 0, 277), (54, 7, 3, 0, 293), (61, 7, 1, 0, 283), (64, 7, 2, 0, 288), (67, 5, 2, 2, 253), (70, 7, 4, 0, 300), (73, 5, 3, 2, 258), (10009, 1, 0, 2, 373), (10015, 1, 2, 0, 375), (10019, 1, 1, 0, 374), (10022, 1, 3, 0, 376), (10025, 1, 6, 0, 379), (10028, 0, 3, 0, 335), (10033, 0, 4, 0, 340), (10043, 1, 4, 0, 377), (10067, 0, 0, 0, 323), (10070, 0, 1, 0, 327), (10073, 0, 2, 0, 331), (10094, 0, 5, 2, 345), (10098, 5, 0, 0, 245), (10103, 5, 1, 0, 248), (10117, 5, 2, 2, 252), (10120, 5, 3, 2, 257), (10123, 0, 6, 2, 350), (10127, 7, 0, 0, 279), (10131, 7, 1, 0, 284), (10133, 7, 2, 0, 289), (10142, 7, 5, 0, 306), (10149, 7, 3, 0, 295), (10156, 7, 4, 0, 301), (10161, 1, 5, 0, 378), (20011, 2, 0, 2, 404), (20018, 2, 2, 0, 406), (20022, 2, 1, 0, 405), (30011, 3, 0, 2, 490), (40009, 4, 0, 0, 464), (40015, 4, 1, 2, 465), (40019, 4, 2, 2, 466), (40022, 4, 3, 2, 467), (40025, 4, 4, 2, 468), (50009, 5, 2, 2, 250), (50015, 5, 3, 2, 255), (50018, 5, 1, 0, 247), (50026, 5, 0, 0, 244), (60009, 6, 1, 2, 422), (60015, 6, 2, 2, 424), (60018, 6, 3, 2, 426), (60021, 6, 4, 2, 428), (60024, 6, 5, 2, 430), (60027, 6, 6, 2, 432), (60030, 6, 7, 2, 434), (60033, 6, 8, 2, 435), (60036, 6, 9, 2, 436), (60039, 0, 0, 0, 322), (60049, 6, 0, 0, 420), (60052, 0, 6, 2, 349), (60055, 7, 0, 0, 275), (60059, 0, 5, 2, 344), (60063, 5, 0, 0, 243), (60067, 0, 4, 0, 339), (60076, 7, 5, 0, 303), (70007, 7, 1, 0, 281), (70013, 7, 2, 0, 286), (70016, 7, 0, 0, 276), (70019, 7, 3, 0, 292), (70022, 7, 4, 0, 298), (70025, 7, 5, 0, 305), (80009, 8, 0, 2, 496), (80013, 8, 2, 0, 498), (80020, 8, 4, 2, 500), (80024, 8, 5, 2, 501), (80030, 8, 6, 2, 502), (80037, 8, 7, 2, 503), (80044, 8, 8, 2, 504), (80053, 8, 10, 2, 506), (80057, 8, 12, 2, 508), (80063, 8, 13, 2, 509), (80067, 8, 1, 0, 497), (80097, 8, 3, 1, 499), (80107, 0, 4, 0, 341), (80117, 0, 3, 0, 336), (80120, 0, 0, 0, 325), (80123, 0, 1, 0, 329), (80126, 0, 2, 0, 333), (80135, 0, 5, 2, 346), (80139, 5, 0, 0, 246), (80144, 5, 1, 0, 249), (80155, 5, 3, 2, 259), (80158, 5, 2, 2, 254), (80164, 0, 6, 2, 351), (80168, 7, 0, 0, 280), (80173, 7, 1, 0, 285), (80175, 7, 2, 0, 290), (80177, 7, 3, 0, 296), (80180, 7, 4, 0, 302), (80183, 7, 5, 0, 307), (80192, 6, 0, 0, 421), (80238, 6, 2, 2, 425), (80310, 6, 1, 2, 423), (80313, 6, 3, 2, 427), (80315, 6, 4, 2, 429), (80318, 6, 5, 2, 431), (80320, 6, 6, 2, 433), (80399, 8, 9, 1, 505), (80402, 8, 11, 1, 507), (90010, 9, 3, 2, 122), (90016, 9, 4, 2, 124), (90021, 9, 5, 2, 126), (90025, 9, 6, 2, 128), (90063, 9, 2, 0, 121), (90067, 9, 1, 0, 119), (90082, 9, 0, 0, 117), (140009, 20, 0, 0, 893), (140015, 21, 0, 0, 894), (150009, 0, 4, 0, 337), (150015, 0, 6, 2, 348), (150053, 7, 0, 0, 278), (150069, 7, 3, 0, 294), (150072, 0, 0, 0, 324), (150079, 7, 4, 0, 299), (160009, 0, 5, 2, 343), (160015, 7, 0, 0, 274), (160021, 5, 2, 2, 251), (160027, 7, 3, 0, 291), (160030, 7, 1, 0, 282), (160032, 5, 3, 2, 256), (160035, 7, 2, 0, 287), (160041, 7, 4, 0, 297), (160077, 0, 2, 0, 332), (160083, 0, 1, 0, 328)]
def fX : List (Nat × Nat × Nat × Nat × Nat × Nat) := [(11, 0, 5, 2, 342, 0), (19, 0, 6, 2, 347, 0), (25, 0, 0, 0, 321, 0), (29, 0, 1, 0, 326, 0), (32, 0, 2, 0, 330, 0), (35, 0, 3, 0, 334, 0), (38, 0, 4, 0, 338, 0), (48, 7, 5, 0, 304, 0), (51, 7, 0, 0, 277, 0), (54, 7, 3, 0, 293, 0), (61, 7, 1, 0, 283, 0), (64, 7, 2, 0, 288, 0), (67, 5, 2, 2, 253, 0), (70, 7, 4, 0, 300, 0), (73, 5, 3, 2, 258, 0), (10009, 1, 0, 2, 373, 0), (10015, 1, 2, 0, 375, 0), (10019, 1, 1, 0, 374, 0), (10022, 1, 3, 0, 376, 0), (10025, 1, 6, 0, 379, 0), (10028, 0, 3, 0, 335, 0), (10033, 0, 4, 0, 340, 0), (10043, 1, 4, 0, 377, 0), (10067, 0, 0, 0, 323, 0), (10070, 0, 1, 0, 327, 0), (10073, 0, 2, 0, 331, 0), (10094, 0, 5, 2, 345, 0), (10098, 5, 0, 0, 245, 0), (10103, 5, 1, 0, 248, 0), (10117, 5, 2, 2, 252, 0), (10120, 5, 3, 2, 257, 0), (10123, 0, 6, 2, 350, 0), (10127, 7, 0, 0, 279, 0), (10131, 7, 1, 0, 284, 0), (10133, 7, 2, 0, 289, 0), (10142, 7, 5, 0, 306, 0), (10149, 7, 3, 0, 295, 0), (10156, 7, 4, 0, 301, 0), (10161, 1, 5, 0, 378, 0), (20011, 2, 0, 2, 404, 0), (20018, 2, 2, 0, 406, 0), (20022, 2, 1, 0, 405, 0), (30011, 3, 0, 2, 490, 0), (40009, 4, 0, 0, 464, 0), (40015, 4, 1, 2, 465, 0), (40019, 4, 2, 2, 466, 0), (40022, 4, 3, 2, 467, 0), (40025, 4, 4, 2, 468, 0), (50009, 5, 2, 2, 250, 0), (50015, 5, 3, 2, 255, 0), (50018, 5, 1, 0, 247, 0), (50026, 5, 0, 0, 244, 0), (60009, 6, 1, 2, 422, 0), (60015, 6, 2, 2, 424, 0), (60018, 6, 3, 2, 426, 0), (60021, 6, 4, 2, 428, 0), (60024, 6, 5, 2, 430, 0), (60027, 6, 6, 2, 432, 0), (60030, 6, 7, 2, 434, 0), (60033, 6, 8, 2, 435, 0), (60036, 6, 9, 2, 436, 0), (60039, 0, 0, 0, 322, 0), (60049, 6, 0, 0, 420, 0), (60052, 0, 6, 2, 349, 0), (60055, 7, 0, 0, 275, 0), (60059, 0, 5, 2, 344, 0), (60063, 5, 0, 0, 243, 0), (60067, 0, 4, 0, 339, 0), (60076, 7, 5, 0, 303, 0), (70007, 7, 1, 0, 281, 0), (70013, 7, 2, 0, 286, 0), (70016, 7, 0, 0, 276, 0), (70019, 7, 3, 0, 292, 0), (70022, 7, 4, 0, 298, 0), (70025, 7, 5, 0, 305, 0), (80009, 8, 0, 2, 496, 0), (80013, 8, 2, 0, 498, 0), (80020, 8, 4, 2, 500, 0), (80024, 8, 5, 2, 501, 0), (80030, 8, 6, 2, 502, 0), (80037, 8, 7, 2, 503, 0), (80044, 8, 8, 2, 504, 0), (80053, 8, 10, 2, 506, 0), (80057, 8, 12, 2, 508, 0), (80063, 8, 13, 2, 509, 0), (80067, 8, 1, 0, 497, 0), (80097, 8, 3, 1, 499, 0), (80107, 0, 4, 0, 341, 0), (80117, 0, 3, 0, 336, 0), (80120, 0, 0, 0, 325, 0), (80123, 0, 1, 0, 329, 0), (80126, 0, 2, 0, 333, 0), (80135, 0, 5, 2, 346, 0), (80139, 5, 0, 0, 246, 0), (80144, 5, 1, 0, 249, 0), (80155, 5, 3, 2, 259, 0), (80158, 5, 2, 2, 254, 0), (80164, 0, 6, 2, 351, 0), (80168, 7, 0, 0, 280, 0), (80173, 7, 1, 0, 285, 0), (80175, 7, 2, 0, 290, 0), (80177, 7, 3, 0, 296, 0), (80180, 7, 4, 0, 302, 0), (80183, 7, 5, 0, 307, 0), (80192, 6, 0, 0, 421, 0), (80238, 6, 2, 2, 425, 0), (80310, 6, 1, 2, 423, 0), (80313, 6, 3, 2, 427, 0), (80315, 6, 4, 2, 429, 0), (80318, 6, 5, 2, 431, 0), (80320, 6, 6, 2, 433, 0), (80399, 8, 9, 1, 505, 0), (80402, 8, 11, 1, 507, 0), (90010, 9, 3, 2, 122, 0), (90016, 9, 4, 2, 124, 0), (90021, 9, 5, 2, 126, 0), (90025, 9, 6, 2, 128, 0), (90063, 9, 2, 0, 121, 0), (90067, 9, 1, 0, 119, 0), (90082, 9, 0, 0, 117, 0), (100009, 10, 1, 2, 99, 0), (100048, 10, 2, 0, 102, 0), (100063, 10, 0, 0, 106, 2), (110001, 11, 3, 2, 744, 0), (110013, 11, 1, 0, 742, 0), (110017, 10, 0, 0, 104, 2), (110022, 11, 2, 0, 743, 0), (110025, 11, 0, 0, 741, 0), (110037, 10, 1, 2, 100, 0), (110028, 10, 2, 0, 101, 1), (120205, 12, 0, 0, 1235, 0), (140009, 14, 0, 2, 893, 0), (140015, 14, 1, 3, 894, 0), (141048, 13, 2, 1, 563, 0), (150009, 0, 4, 0, 337, 0), (150015, 0, 6, 2, 348, 0), (150053, 7, 0, 0, 278, 0), (150069, 7, 3, 0, 294, 0), (150072, 0, 0, 0, 324, 0), (150079, 7, 4, 0, 299, 0), (160009, 0, 5, 2, 343, 0), (160015, 7, 0, 0, 274, 0), (160021, 5, 2, 2, 251, 0), (160027, 7, 3, 0, 291, 0), (160030, 7, 1, 0, 282, 0), (160032, 5, 3, 2, 256, 0), (160035, 7, 2, 0, 287, 0), (160041, 7, 4, 0, 297, 0), (160077, 0, 2, 0, 332, 0), (160083, 0, 1, 0, 328, 0), (170017, 9, 0, 0, 116, 1), (170021, 9, 1, 0, 118, 1), (170025, 9, 2, 0, 120, 1), (170028, 9, 4, 2, 125, 1), (170034, 9, 5, 2, 127, 1), (170037, 9, 6, 2, 129, 1), (170048, 9, 3, 2, 123, 1), (210015, 13, 0, 2, 561, 0), (210022, 13, 1, 3, 562, 0), (210079, 13, 3, 0, 564, 0)]
def kL : List (Nat × Nat × Nat × Nat) := [(3, 1004, 0, 233), (41, 45, 0, 1087), (45, 53, 0, 1092), (57, 44, 0, 1356), (23, 42, 1, 239), (24, 51, 1, 270), (10003, 1004, 0, 372), (10036, 25, 0, 984), (10039, 12, 0, 1002), (10046, 13, 0, 1029), (10049, 19, 0, 1038), (10053, 24, 0, 1013), (10059, 28, 0, 1007), (10063, 22, 0, 1017), (10076, 23, 0, 1025), (10081, 14, 0, 1034), (10086, 15, 0, 1042), (10091, 16, 0, 1058), (10106, 3, 0, 1046), (10110, 21, 0, 1021), (10113, 43, 0, 1050), (10135, 17, 0, 1062), (10139, 18, 0, 1074), (10145, 20, 0, 1066), (10152, 44, 0, 1070), (10164, 29, 0, 988), (10167, 26, 0, 991), (10170, 30, 0, 995), (10173, 27, 0, 998), (10176, 163, 0, 1011), (10181, 164, 0, 1012), (20003, 1004, 0, 400), (20017, 0, 0, 403), (20025, 1, 0, 1145), (20029, 1000, 0, 1146), (30003, 1004, 0, 489), (40003, 1004, 0, 463), (50003, 1004, 0, 242), (50029, 1003, 0, 1091), (50022, 107, 1, 1054), (60003, 1004, 0, 419), (60045, 48, 0, 1155), (60070, 57, 0, 1175), (60078, 59, 0, 1158), (60082, 154, 0, 1613), (60088, 1002, 0, 1618), (70001, 1004, 0, 273), (80003, 1004, 0, 227), (80019, 0, 0, 230), (80036, 37, 0, 397), (80050, 41, 0, 460), (80077, 63, 0, 952), (80085, 11, 0, 980), (80089, 10, 0, 1079), (80093, 1, 0, 1083), (80101, 38, 0, 1096), (80104, 103, 0, 1100), (80110, 95, 0, 1128), (80113, 96, 0, 1133), (80129, 2, 0, 1338), (80132, 98, 0, 1248), (80147, 3, 0, 1550), (80151, 101, 0, 1261), (80161, 99, 0, 1348), (80186, 102, 0, 1137), (80189, 104, 0, 1147), (80195, 97, 0, 1266), (80199, 5, 0, 1269), (80203, 31, 0, 1273), (80209, 4, 0, 1352), (80213, 52, 0, 1357), (80216, 44, 0, 1368), (80220, 8, 0, 1384), (80223, 105, 0, 1416), (80227, 106, 0, 1428), (80231, 100, 0, 1588), (80248, 54, 0, 1490), (80254, 55, 0, 1496), (80257, 56, 0, 1502), (80260, 57, 0, 1508), (80263, 58, 0, 1525), (80266, 59, 0, 1537), (80272, 32, 0, 1517), (80276, 107, 0, 1559), (80280, 88, 0, 1560), (80289, 33, 0, 1564), (80325, 49, 0, 1609), (80328, 50, 0, 1614), (80390, 43, 0, 1264), (80396, 39, 0, 1141), (80405, 47, 0, 1151), (80426, 6, 0, 1420), (80429, 7, 0, 1424), (80432, 1002, 0, 1173), (80437, 1000, 0, 1174), (80029, 9, 1, 369), (80043, 46, 1, 416), (80062, 40, 1, 486), (90001, 1004, 0, 82), (90009, 130, 0, 87), (90028, 1002, 0, 1199), (90034, 1000, 0, 1218), (90038, 115, 0, 1204), (90042, 116, 0, 1208), (90045, 113, 0, 1212), (90048, 1001, 0, 1325), (90051, 155, 0, 1326), (90056, 117, 0, 1200), (90060, 114, 0, 1215), (90069, 135, 0, 1185), (90073, 122, 0, 1317), (90076, 118, 0, 1321), (90079, 119, 0, 1329), (90085, 121, 0, 1195), (90089, 133, 0, 1184), (90093, 123, 0, 1313), (90096, 154, 0, 1333), (90099, 152, 0, 1187), (90102, 153, 0, 1191), (90105, 150, 0, 1219), (90109, 138, 0, 1239), (90113, 136, 0, 1240), (90117, 120, 0, 1596), (90120, 126, 0, 1623), (90125, 156, 0, 545), (90128, 157, 0, 576), (90132, 159, 0, 681), (90135, 158, 0, 706), (90144, 143, 0, 731), (90164, 160, 0, 844), (100001, 216, 0, 90), (100066, 208, 0, 180), (100069, 131, 0, 166), (100073, 214, 0, 170), (100079, 1001, 0, 217), (100112, 1003, 0, 1396), (100118, 196, 0, 1115), (100123, 134, 0, 1119), (100129, 132, 0, 162), (100131, 137, 0, 158), (100135, 142, 0, 1401), (100144, 141, 0, 1392), (100269, 144, 0, 737), (110007, 1004, 0, 740), (110031, 147, 0, 773), (120199, 151, 0, 1228), (120202, 215, 0, 1231), (130001, 197, 0, 548), (130029, 201, 0, 580), (130050, 202, 0, 710), (130053, 203, 0, 685), (130137, 162, 0, 850), (130343, 198, 0, 868), (140001, 1004, 0, 856), (140054, 212, 0, 871), (140106, 193, 0, 680), (140212, 1003, 0, 679), (140335, 170, 0, 642), (140489, 168, 0, 853), (140492, 171, 0, 913), (140495, 190, 0, 917), (140505, 163, 0, 1449), (140521, 173, 0, 1450), (140549, 198, 0, 862), (140552, 204, 0, 857), (140681, 166, 0, 1475), (140685, 192, 0, 1451), (141047, 205, 0, 870), (141059, 194, 0, 725), (141062, 195, 0, 626), (150019, 60, 0, 1276), (150025, 34, 0, 1282), (150031, 154, 0, 1303), (150056, 35, 0, 1285), (150060, 55, 0, 1291), (150063, 36, 0, 1288), (150066, 56, 0, 1299), (150075, 59, 0, 1302), (160044, 1000, 0, 1294), (160049, 1001, 0, 1295), (160060, 54, 0, 1164), (160066, 43, 0, 1178), (160070, 44, 0, 1179), (160080, 1002, 0, 1161), (160037, 110, 1, 1167), (160052, 108, 1, 1279), (160056, 109, 1, 1296), (160074, 111, 1, 1170), (170011, 174, 0, 70), (170040, 177, 0, 148), (170044, 176, 0, 151), (170052, 138, 0, 154), (170058, 163, 0, 908), (170064, 164, 0, 909), (170068, 62, 0, 924), (170074, 64, 0, 956), (170078, 61, 0, 224), (170079, 129, 0, 539), (170083, 178, 0, 905), (170087, 65, 0, 976), (170090, 133, 0, 1104), (170093, 135, 0, 1111), (170098, 71, 0, 1124), (170102, 125, 0, 1180), (170106, 72, 0, 1244), (170110, 143, 0, 1252), (170124, 73, 0, 1257), (170128, 124, 0, 1309), (170131, 67, 0, 1334), (170134, 115, 0, 1342), (170137, 116, 0, 1343), (170140, 74, 0, 1344), (170143, 181, 0, 1361), (170147, 86, 0, 1369), (170148, 76, 0, 1373), (170151, 182, 0, 1377), (170155, 140, 0, 1388), (170158, 78, 0, 1405), (170161, 183, 0, 1409), (170165, 75, 0, 1364), (170168, 77, 0, 1380), (170171, 139, 0, 1397), (170174, 79, 0, 1412), (170179, 87, 0, 1554), (170184, 66, 0, 1435), (170187, 1007, 0, 1439), (170193, 156, 0, 1444), (170194, 166, 0, 1445), (170198, 157, 0, 1469), (170203, 165, 0, 1471), (170206, 160, 0, 1476), (170213, 70, 0, 1482), (170216, 80, 0, 1486), (170219, 117, 0, 1491), (170222, 81, 0, 1492), (170225, 118, 0, 1497), (170227, 82, 0, 1498), (170230, 119, 0, 1503), (170232, 83, 0, 1504), (170235, 120, 0, 1509), (170237, 89, 0, 1513), (170240, 123, 0, 1520), (170243, 84, 0, 1521), (170246, 186, 0, 1528), (170249, 85, 0, 1533), (170253, 121, 0, 1538), (170257, 113, 0, 1531), (170260, 114, 0, 1532), (170262, 69, 0, 1542), (170266, 68, 0, 1546), (170269, 122, 0, 1573), (170272, 1008, 0, 1574), (170278, 152, 0, 1582), (170281, 153, 0, 1583), (170284, 92, 0, 1584), (170287, 126, 0, 1592), (170290, 127, 0, 1597), (170292, 91, 0, 1601), (170295, 93, 0, 1605), (170298, 128, 0, 1619), (170299, 90, 0, 1624), (170301, 94, 0, 1628), (170304, 175, 0, 74), (170308, 179, 0, 219), (170312, 184, 0, 1432), (170316, 180, 0, 1108), (170320, 185, 0, 1479), (170324, 187, 0, 1539), (170327, 188, 0, 1551), (170330, 189, 0, 1578), (170010, 112, 1, 79), (180009, 172, 0, 920), (180112, 169, 0, 1457), (180232, 212, 0, 1456), (200105, 194, 0, 1118), (210003, 1004, 0, 551), (210032, 163, 0, 638), (210040, 170, 0, 655), (210083, 205, 0, 607), (210100, 199, 0, 587), (210104, 200, 0, 591), (210108, 210, 0, 597), (210114, 214, 0, 595), (210125, 193, 0, 660), (210191, 191, 0, 713), (210208, 207, 0, 647), (210245, 149, 0, 688), (210248, 148, 0, 691), (210397, 206, 0, 651), (210399, 167, 0, 675), (220086, 1006, 0, 183), (220150, 1003, 0, 214), (220300, 209, 0, 205), (220304, 1000, 0, 211), (220310, 1005, 0, 600), (220339, 213, 0, 874), (220343, 211, 0, 877), (230194, 1001, 0, 173), (240001, 1004, 0, 1234), (250001, 217, 0, 93), (260001, 1004, 0, 96)]
def kI : List (Nat × Nat × Nat × Nat) := [(90148, 145, 755, 754), (90154, 146, 765, 764), (170114, 145, 1254, 1253), (170120, 146, 1256, 1255)]
def nL : List (Nat × Nat × Nat × Nat × Nat) := [(9, 5, 234, 238, 44), (17, 7, 236, 269, 45), (20009, 0, 401, 229, 43), (80017, 0, 228, 229, 43), (80027, 1, 367, 368, 46), (80034, 2, 395, 396, 47), (80041, 6, 414, 415, 48), (80048, 4, 458, 459, 49), (80060, 3, 484, 485, 50), (90007, 10, 85, 86, 37), (90052, 12, 1186, 1227, 58), (90123, 13, 543, 544, 52), (100267, 11, 735, 736, 59), (120001, 12, 1226, 1227, 58), (130018, 14, 848, 849, 53), (170008, 9, 77, 78, 34), (170069, 8, 222, 223, 42), (170191, 13, 1443, 544, 52), (170276, 12, 1581, 1227, 58), (180001, 14, 1455, 849, 53)]
def cX : List (Nat × Nat × Nat) := [(90020, 1, 114), (90052, 3, 1186), (100007, 0, 218), (120001, 3, 1226), (170032, 2, 147), (170097, 1, 1123), (170276, 3, 1581), (220002, 0, 210), (220110, 5, 208), (220311, 4, 606)]
def cXn : List String := ["java/lang/Object", "[I", "[[I", "java/lang/Integer", "[B", "[Ljava/lang/Object;"]
def iL : List (Nat × Int32 × Nat) := [(120264, 65536, 1194), (120265, 1431655765, 1306), (120266, 858993459, 1307), (120267, 252645135, 1308), (170007, 1073741823, 73), (170024, 270000, 146), (210039, 2147483647, 596), (230200, 2147483639, 176)]
def lL : List (Nat × Int64 × Nat) := []
def sL : List (Nat × Nat × Nat) := [(10057, 8, 1006), (10079, 16, 1033), (10084, 5, 1041), (10089, 18, 1057), (10159, 15, 1078), (80072, 21, 937), (80082, 14, 969), (80270, 4, 1558), (80286, 13, 1568), (80386, 12, 1132), (80388, 7, 1136), (80394, 20, 1265), (90126, 9, 575), (90138, 2, 728), (90140, 17, 729), (90142, 6, 730), (90158, 19, 841), (90160, 15, 842), (90162, 0, 843), (90168, 1, 904), (170201, 3, 1470), (170209, 11, 1477), (170211, 10, 1478), (180151, 0, 1454)]
def gL : List (Nat × Nat × Nat) := [(140038, 0, 646), (141053, 1, 624), (210018, 0, 552)]
def gX : List (Nat × Nat × Nat) := [(100039, 2, 97), (120083, 5, 694), (120087, 6, 696), (120191, 3, 1222), (120195, 4, 1224)]
def strs : List String := ["", " ;\n", ";\n", "?", "a negative index", "actor", "actor ", "an argument is out of its range", "limits", "limits ", "limits 1 1 1;scene 0;actor 0 5 5;shot 5 5 0 none 9;", "limits 1 1 1;scene 4;", "no board was loaded", "no such fault", "no such length", "none", "scene", "scene ", "shot", "shot ", "the scene has no such actor", "the text would be too long"]
def tX : List (Nat × Nat × Nat × Nat × Bool × Nat × String) := [(62013, 70, 72, 74, false, 21, "java/lang/IllegalStateException"), (64012, 80, 82, 84, false, 14, "java/lang/IllegalArgumentException"), (87014, 80, 270, 84, true, 4, "java/lang/IllegalArgumentException"), (87104, 284, 286, 288, true, 13, "java/util/NoSuchElementException"), (95007, 70, 386, 74, true, 12, "java/lang/IllegalStateException"), (96010, 80, 388, 84, true, 7, "java/lang/IllegalArgumentException"), (101008, 80, 394, 84, true, 20, "java/lang/IllegalArgumentException")]
def tL : List (Nat × String) := tX.map (fun q => (q.1, q.2.2.2.2.2.2))
def hlI : Nat := 9999
/-- private methods of the superclass, on a StringBuilder: not among the tables' words, but they follow from them -/
def exSel : List MethodName := [yJ5_ensureCapacityInternal_d00df, yJ5_newCapacity_0f7a4, yJ5_putStringAt_47b60, yJ5_inflateIfNeededFor_a7421]
def lw_tb2 : List Cond := lw_tbl ++ exSel.map (fun y => Cond.selects "java/lang/StringBuilder" y y)
end
section
theorem va_AOA.moved {ty : FieldType} {u U : State} (hvm : u.vm.Alike U.vm) (h : va_AOA ty u) : va_AOA ty U := by
  unfold va_AOA Cond.before Cond.holds at h ⊢
  simp only [Cond.value] at h ⊢
  simp only [hvm.findClass]
  cases e1 : u.vm.findClass (FieldType.array ty).toString with
  | none => rw [e1] at h; simp at h
  | some comp =>
    rw [e1] at h
    simp only [Option.bind_some] at h ⊢
    have e2 : (U.vm.classes.findIdx? fun (x : Class) => match x.kind with | .array component _ => component == comp | _ => false) = (u.vm.classes.findIdx? fun (x : Class) => match x.kind with | .array component _ => component == comp | _ => false) := by
      have hb : U.vm.bare = u.vm.bare := by first | exact hvm.bare_eq | exact hvm.bare_eq.symm
      have h1 := va_idx_bare U.vm comp
      rw [hb] at h1
      exact h1.symm.trans (va_idx_bare u.vm comp)
    cases e3 : (u.vm.classes.findIdx? fun (x : Class) => match x.kind with | .array component _ => component == comp | _ => false) with
    | none => 
      exfalso
      refine absurd ((congrArg (fun o : Option Nat => (o.bind (fun c => (u.vm.classes[c]?).map fun (k : Class) => match k.kind with | .array _ ty' => decide (ty' = FieldType.array ty) && decide (u.vm.findClass ("[" ++ (FieldType.array ty).toString) = some c) | _ => false) == some true)) e3).symm.trans h) (by simp)
    | some c =>
      have h2 := (congrArg (fun o : Option Nat => (o.bind (fun c => (u.vm.classes[c]?).map fun (k : Class) => match k.kind with | .array _ ty' => decide (ty' = FieldType.array ty) && decide (u.vm.findClass ("[" ++ (FieldType.array ty).toString) = some c) | _ => false) == some true)) e3).symm.trans h
      refine (congrArg (fun o : Option Nat => (o.bind (fun c => (U.vm.classes[c]?).map fun (k : Class) => match k.kind with | .array _ ty' => decide (ty' = FieldType.array ty) && decide (u.vm.findClass ("[" ++ (FieldType.array ty).toString) = some c) | _ => false) == some true)) (e2.trans e3)).trans ?_
      simp only [Option.bind_some] at h2 ⊢
      cases e4 : u.vm.classes[c]? with
      | none => rw [e4] at h2; simp at h2
      | some k =>
        obtain ⟨k', hk', he⟩ := hvm.2.2 _ _ e4
        rw [e4] at h2
        rw [hk']
        have hk2 : k'.kind = k.kind := by rw [he]
        simp only [Option.map_some, hk2] at h2 ⊢
        exact h2
end
section
/-! ===== BEGIN a constructor that throws (launches without stack traces) ===== -/
section VXIA
variable {p : Program} {l : Launch} {e : Env} {R : Room} {s : State} {m : MethodId} {args : Array Value} {below : List Frame} {meth : Method} {c : Code} {T : State} {locs : List Loc} {cells slots : Nat}
theorem vx_callI (X : Stand p l e R s m args below meth c T locs cells slots) (hexec : p.tables.exec = Jvm.exec) {own : String} {index : Nat} {y : MethodName} {bytes : ByteArray} {maxL : Nat}
    (hown : s.vm.findClass own = some m.cls) (hy1 : y.name = "<init>") (hlink : (Cond.methodLink own index y).before args s = true) (hinst : (Cond.instanceMethod y).before args s = true)
    (hcode : (Cond.code y bytes maxL none).before args s = true) (hy : y.cls ≠ "java/lang/invoke/MethodHandle" ∧ y.cls ≠ "java/lang/invoke/VarHandle")
    {W9 : Nat} {Pre : Pt → Array Value → Prop} {Post : Pt → Array Value → Option Value → Pt → Prop} {PostX : Pt → Array Value → Addr → Pt → Prop} (hK : vx_Back l R p e below s args y 3 W9 Pre Post PostX)
    {g : JFrame} (hg : g.method = m) (hsize : g.locals.size = c.maxLocals) {a : Addr} {argsL rest : List Value} (hlen : ∀ sig, parseMethodDescriptor y.desc = some sig → argsL.length = sig.parameters.length)
    (hstack : g.stack = argsL.reverse ++ .ref a :: rest) (hW : 2 * g.monitorRoom + (rest.map fun v => v.category).sum ≤ W9) (hdg : decode c.code g.pc = .ok (.invokespecial index, 3))
    (hpre : ∀ vm₁, s.WarmedH vm₁ → Pre ⟨T.setVm vm₁, locs, cells, slots⟩ (Value.ref a :: argsL).toArray) :
    (∃ (v : Option Value) (vm₁ : Vm) (B : Pt), s.WarmedH vm₁ ∧ Stand p l e R s m args below meth c B.U B.locs B.cells B.slots ∧ Post ⟨T.setVm vm₁, locs, cells, slots⟩ (Value.ref a :: argsL).toArray v B ∧
      ∀ target, Steps p.tables e below (B.U.setTop { g with pc := g.pc + 3, stack := v.toList ++ rest }) target → Steps p.tables e below (T.setTop g) target) ∨
    (∃ (q : Addr) (vm₁ : Vm) (B : Pt), s.WarmedH vm₁ ∧ Stand p l e R s m args below meth c B.U B.locs B.cells B.slots ∧ PostX ⟨T.setVm vm₁, locs, cells, slots⟩ (Value.ref a :: argsL).toArray q B ∧
      Steps p.tables e below (T.setTop g) ((B.U.setTop { g with stack := rest }).pushFrame (.throwing q))) := by
  subst hg
  have hpl : e.platform.magicAccessors = ({} : Platform).magicAccessors := by rw [X.admits.platform]
  obtain ⟨mk, methM, cM, kP, vm₁, hnamed, hmethM, hcodeM, -, hlocalsM, -, hkP, -, hW₁, hstep₁⟩ := Steps.initColdArgs (e := e) X.here hexec X.warmed hpl hown hy1 hy hlink hinst hcode (f := g) rfl hlen hstack hdg
  have X₁ := X.noted hW₁
  rcases hK g.method meth c ⟨T.setVm vm₁, locs, cells, slots⟩ { g with stack := rest } (.invokespecial index) mk (Value.ref a :: argsL).toArray X₁ rfl hsize hdg hW (X₁.named hnamed) (hpre vm₁ X₁.warmed) with ⟨v, B, X', hpost, hsteps⟩ | ⟨q, B, X', hpost, hsteps⟩
  · exact Or.inl ⟨v, vm₁, B, X₁.warmed, X', hpost, fun target h => hstep₁ _ fun acts => by rw [doInvoke_state]; exact hsteps.trans h⟩
  · exact Or.inr ⟨q, vm₁, B, X₁.warmed, X', hpost, hstep₁ _ fun acts => by rw [doInvoke_state]; exact hsteps⟩
end VXIA
section VXIB
variable {p : Program} {l : Launch} {e : Env} {R : Room} {s : State} {m : MethodId} {args : Array Value} {below : List Frame} {meth : Method} {c : Code} {H : Heap} {locs : List Loc} {cells slots : Nat}
variable {y : MethodName} {bytes cc : ByteArray} {maxL nL mc ms n index : Nat} {ret : Option FieldType} {ws : List Cond} {rm : Room} {Pc : Array Value → State → Prop} {Qc : Array Value → State → Outcome → State → Prop} {XC : String → State → State → Prop} {free : Addr → Prop} {Ts : List Cond} {own C : String} {b : Addr} {As rest : List Value} {g : JFrame}
theorem vx_runI (S : CallFix p m c cc nL s args Ts own) (hM : vx_Met l y ws rm Pc Qc XC mc ms free) (cw : CallB R s args own index y bytes maxL none ws rm mc ms n ∧ y.name = "<init>" ∧ (Cond.instanceMethod y).before args s = true) (hp : PreS s H Pc (.ref b :: As))
    (hg : g.method = m) (hn : As.length = n) (hsize : g.locals.size = nL) (hstack : g.stack = As.reverse ++ .ref b :: rest) (hW : 2 * g.monitorRoom + (rest.map fun v => v.category).sum ≤ 8) (hdg : decode cc g.pc = .ok (.invokespecial index, 3)) (hf : cells + mc ≤ R.cells ∧ slots + ms ≤ R.slots) :
    vx_Run p l e R s m args below meth c H locs cells slots mc ms g rest (Qc (Value.ref b :: As).toArray) XC free := by
  have hK : vx_Back l R p e below s args y 3 8 (PreOf R mc ms Pc) (PostOf Qc mc ms free) (vx_Post XC mc ms free) := vx_callBack cw.1 hM hp.1
  obtain ⟨⟨-, -, -, -, -, -, hcode, -, hy, hlen, hl⟩, hy1, hin⟩ := cw
  obtain ⟨hx, hb, hml, ho, -⟩ := S
  have hPc := hp.2
  intro T hT X
  rcases vx_callI X hx (bytes := bytes) (maxL := maxL) ho hy1 hl hin hcode hy hK hg (hsize.trans hml.symm) (a := b) (argsL := As) (rest := rest) (fun sig h => hn.trans (hlen sig h)) hstack hW (by rw [hb]; exact hdg)
    (fun vm₁ hW₁ => ⟨hf.1, hf.2, hPc (T.setVm vm₁) hT hW₁⟩) with ⟨v, vm₁, ⟨U', l2, c2, s2⟩, hW₁, X', ⟨g', mk, t, L, e1, e2, hq, h1, hL, h2, h3⟩, st⟩ | ⟨q, vm₁, ⟨U', l2, c2, s2⟩, hW₁, X', ⟨g', mk, t, L, E, ce, e1, e2, hq, hce, hcv, hcl, h1, hL, h2, h3⟩, st⟩
  · dsimp only [Pt.U, Pt.locs, Pt.cells, Pt.slots] at X' e1 e2 h1 h2 h3 st
    subst h1; subst h2; subst h3
    exact Or.inl ⟨v, (T.setVm vm₁).calling g' mk (Value.ref b :: As).toArray, t, U', L, hT, X', hL, e1, e2, hq, st⟩
  · dsimp only [Pt.U, Pt.locs, Pt.cells, Pt.slots] at X' e1 e2 h1 h2 h3 st hcl
    subst h1; subst h2; subst h3
    exact Or.inr ⟨q, (T.setVm vm₁).calling g' mk (Value.ref b :: As).toArray, t, U', L, E, ce, hT, X', hL, e1, e2, hq, hce, hcv, vx_cls hW₁ hcl, st⟩
end VXIB
/-! ===== END ===== -/
/-! ===== BEGIN a private constructor of a nest mate that throws ===== -/
section VXIC
variable {p : Program} {l : Launch} {e : Env} {R : Room} {s : State} {m : MethodId} {args : Array Value} {below : List Frame} {meth : Method} {c : Code} {T : State} {locs : List Loc} {cells slots : Nat}
theorem vx_callIN (X : Stand p l e R s m args below meth c T locs cells slots) (hexec : p.tables.exec = Jvm.exec) {own : String} {index : Nat} {host : String} {y : MethodName} {bytes : ByteArray} {maxL : Nat}
    (hown : s.vm.findClass own = some m.cls) (hy1 : y.name = "<init>") (hlink : (Cond.methodLinkNest own index y host).before args s = true) (hinst : (Cond.instanceMethod y).before args s = true)
    (hcode : (Cond.code y bytes maxL none).before args s = true) (hy : y.cls ≠ "java/lang/invoke/MethodHandle" ∧ y.cls ≠ "java/lang/invoke/VarHandle")
    {W9 : Nat} {Pre : Pt → Array Value → Prop} {Post : Pt → Array Value → Option Value → Pt → Prop} {PostX : Pt → Array Value → Addr → Pt → Prop} (hK : vx_Back l R p e below s args y 3 W9 Pre Post PostX)
    {g : JFrame} (hg : g.method = m) (hsize : g.locals.size = c.maxLocals) {a : Addr} {argsL rest : List Value} (hlen : ∀ sig, parseMethodDescriptor y.desc = some sig → argsL.length = sig.parameters.length)
    (hstack : g.stack = argsL.reverse ++ .ref a :: rest) (hW : 2 * g.monitorRoom + (rest.map fun v => v.category).sum ≤ W9) (hdg : decode c.code g.pc = .ok (.invokespecial index, 3))
    (hpre : ∀ vm₁, s.WarmedH vm₁ → Pre ⟨T.setVm vm₁, locs, cells, slots⟩ (Value.ref a :: argsL).toArray) :
    (∃ (v : Option Value) (vm₁ : Vm) (B : Pt), s.WarmedH vm₁ ∧ Stand p l e R s m args below meth c B.U B.locs B.cells B.slots ∧ Post ⟨T.setVm vm₁, locs, cells, slots⟩ (Value.ref a :: argsL).toArray v B ∧
      ∀ target, Steps p.tables e below (B.U.setTop { g with pc := g.pc + 3, stack := v.toList ++ rest }) target → Steps p.tables e below (T.setTop g) target) ∨
    (∃ (q : Addr) (vm₁ : Vm) (B : Pt), s.WarmedH vm₁ ∧ Stand p l e R s m args below meth c B.U B.locs B.cells B.slots ∧ PostX ⟨T.setVm vm₁, locs, cells, slots⟩ (Value.ref a :: argsL).toArray q B ∧
      Steps p.tables e below (T.setTop g) ((B.U.setTop { g with stack := rest }).pushFrame (.throwing q))) := by
  subst hg
  have hpl : e.platform.magicAccessors = ({} : Platform).magicAccessors := by rw [X.admits.platform]
  obtain ⟨mk, methM, cM, kP, vm₁, hnamed, hmethM, hcodeM, -, hlocalsM, -, hkP, -, hW₁, hstep₁⟩ := Steps.initColdArgsNest (e := e) X.here hexec X.warmed hpl hown hy1 hy hlink hinst hcode (f := g) rfl hlen hstack hdg
  have X₁ := X.noted hW₁
  rcases hK g.method meth c ⟨T.setVm vm₁, locs, cells, slots⟩ { g with stack := rest } (.invokespecial index) mk (Value.ref a :: argsL).toArray X₁ rfl hsize hdg hW (X₁.named hnamed) (hpre vm₁ X₁.warmed) with ⟨v, B, X', hpost, hsteps⟩ | ⟨q, B, X', hpost, hsteps⟩
  · exact Or.inl ⟨v, vm₁, B, X₁.warmed, X', hpost, fun target h => hstep₁ _ fun acts => by rw [doInvoke_state]; exact hsteps.trans h⟩
  · exact Or.inr ⟨q, vm₁, B, X₁.warmed, X', hpost, hstep₁ _ fun acts => by rw [doInvoke_state]; exact hsteps⟩
end VXIC
section VXID
variable {p : Program} {l : Launch} {e : Env} {R : Room} {s : State} {m : MethodId} {args : Array Value} {below : List Frame} {meth : Method} {c : Code} {H : Heap} {locs : List Loc} {cells slots : Nat}
theorem vx_runIN {y : MethodName} {bytes cc : ByteArray} {maxL nL mc ms n index : Nat} {ws : List Cond} {rm : Room} {Pc : Array Value → State → Prop} {Qc : Array Value → State → Outcome → State → Prop} {XC : String → State → State → Prop} {free : Addr → Prop} {Ts : List Cond} {own host : String} {b : Addr} {As rest : List Value} {g : JFrame}
    (S : CallFix p m c cc nL s args Ts own) (hM : vx_Met l y ws rm Pc Qc XC mc ms free) (cw : va_CN R s args own index y host bytes maxL none ws rm mc ms n ∧ y.name = "<init>" ∧ (Cond.instanceMethod y).before args s = true) (hp : PreS s H Pc (.ref b :: As))
    (hg : g.method = m) (hn : As.length = n) (hsize : g.locals.size = nL) (hstack : g.stack = As.reverse ++ .ref b :: rest) (hW : 2 * g.monitorRoom + (rest.map fun v => v.category).sum ≤ 8) (hdg : decode cc g.pc = .ok (.invokespecial index, 3)) (hf : cells + mc ≤ R.cells ∧ slots + ms ≤ R.slots) :
    vx_Run p l e R s m args below meth c H locs cells slots mc ms g rest (Qc (Value.ref b :: As).toArray) XC free := by
  obtain ⟨⟨⟨hrc, hrs, hfr, hlo, hws, hcw⟩, hcode, hini, hy, hlen, hl⟩, hx1, hx2⟩ := cw
  have hK : vx_Back l R p e below s args y 3 8 (PreOf R mc ms Pc) (PostOf Qc mc ms free) (vx_Post XC mc ms free) := vx_back (bytes := bytes) (maxL := maxL) (ret := none) hM hp.1 hrc hrs hfr hlo hws hcw (fun a' U hW => word_at hW (Or.inl (by first | rfl | simp [Cond.onTables, Cond.keeps, Cond.steady])) hini)
  obtain ⟨hx, hb, hml, ho, -⟩ := S
  have hPc := hp.2
  intro T hT X
  rcases vx_callIN X hx (bytes := bytes) (maxL := maxL) ho hx1 hl hx2 hcode hy hK hg (hsize.trans hml.symm) (a := b) (argsL := As) (rest := rest) (fun sig h => hn.trans (hlen sig h)) hstack hW (by rw [hb]; exact hdg)
    (fun vm₁ hW₁ => ⟨hf.1, hf.2, hPc (T.setVm vm₁) hT hW₁⟩) with ⟨v, vm₁, ⟨U', l2, c2, s2⟩, hW₁, X', ⟨g', mk, t, L, e1, e2, hq, h1, hL, h2, h3⟩, st⟩ | ⟨q, vm₁, ⟨U', l2, c2, s2⟩, hW₁, X', ⟨g', mk, t, L, E, ce, e1, e2, hq, hce, hcv, hcl, h1, hL, h2, h3⟩, st⟩
  · dsimp only [Pt.U, Pt.locs, Pt.cells, Pt.slots] at X' e1 e2 h1 h2 h3 st
    subst h1; subst h2; subst h3
    exact Or.inl ⟨v, (T.setVm vm₁).calling g' mk (Value.ref b :: As).toArray, t, U', L, hT, X', hL, e1, e2, hq, st⟩
  · dsimp only [Pt.U, Pt.locs, Pt.cells, Pt.slots] at X' e1 e2 h1 h2 h3 st hcl
    subst h1; subst h2; subst h3
    exact Or.inr ⟨q, (T.setVm vm₁).calling g' mk (Value.ref b :: As).toArray, t, U', L, E, ce, hT, X', hL, e1, e2, hq, hce, hcv, vx_cls hW₁ hcl, st⟩
end VXID
/-! ===== END ===== -/
/-! ===== BEGIN a private method of a nest mate that may throw (follows va_callVN, va_callSN, va_runVN, va_runSN) ===== -/
section
variable {p : Program} {l : Launch} {e : Env} {R : Room} {s : State} {m : MethodId} {args : Array Value} {below : List Frame} {meth : Method} {c : Code} {H : Heap} {locs : List Loc} {cells slots : Nat}
variable {T : State}
theorem vx_callVN (X : Stand p l e R s m args below meth c T locs cells slots) (hexec : p.tables.exec = Jvm.exec) {own C : String} {index : Nat} {host : String} {y : MethodName} {bytes : ByteArray} {maxL : Nat} {ret : Option FieldType}
    (hown : s.vm.findClass own = some m.cls) (hlink : (Cond.methodLinkNest own index y host).before args s = true) (hinst : (Cond.instanceMethod y).before args s = true) (hsel : (Cond.selects C y y).before args s = true)
    (hcode : (Cond.code y bytes maxL ret).before args s = true) (hy : y.cls ≠ "java/lang/invoke/MethodHandle" ∧ y.cls ≠ "java/lang/invoke/VarHandle")
    {W : Nat} {Pre : Pt → Array Value → Prop} {Post : Pt → Array Value → Option Value → Pt → Prop} {PostX : Pt → Array Value → Addr → Pt → Prop} (hK : vx_Back l R p e below s args y 3 W Pre Post PostX)
    {b : Addr} {cellB : Cell} (hcell : T.heap[b]? = some cellB) (hobj : cellB.vm.isStatics = false) (hcls : s.vm.findClass C = some cellB.cls)
    {g : JFrame} (hg : g.method = m) (hsize : g.locals.size = c.maxLocals) {argsL rest : List Value} (hlen : ∀ sig, parseMethodDescriptor y.desc = some sig → argsL.length = sig.parameters.length)
    (hstack : g.stack = argsL.reverse ++ .ref b :: rest) (hW : 2 * g.monitorRoom + (rest.map fun v => v.category).sum ≤ W) (hdg : decode c.code g.pc = .ok (.invokevirtual index, 3))
    (hpre : ∀ vm₁, s.WarmedH vm₁ → Pre ⟨T.setVm vm₁, locs, cells, slots⟩ (Value.ref b :: argsL).toArray) :
    (∃ (v : Option Value) (vm₁ : Vm) (B : Pt), s.WarmedH vm₁ ∧ Stand p l e R s m args below meth c B.U B.locs B.cells B.slots ∧ Post ⟨T.setVm vm₁, locs, cells, slots⟩ (Value.ref b :: argsL).toArray v B ∧
      ∀ target, Steps p.tables e below (B.U.setTop { g with pc := g.pc + 3, stack := v.toList ++ rest }) target → Steps p.tables e below (T.setTop g) target) ∨
    (∃ (q : Addr) (vm₁ : Vm) (B : Pt), s.WarmedH vm₁ ∧ Stand p l e R s m args below meth c B.U B.locs B.cells B.slots ∧ PostX ⟨T.setVm vm₁, locs, cells, slots⟩ (Value.ref b :: argsL).toArray q B ∧
      Steps p.tables e below (T.setTop g) ((B.U.setTop { g with stack := rest }).pushFrame (.throwing q))) := by
  obtain ⟨mk, methM, hnamed, hmethM, hstM, habM⟩ := Cond.instanceMethod_spec hinst
  obtain ⟨methM', cM, hmethM', -, -, -, -, -, -, hsigM⟩ := Cond.code_spec hnamed hcode
  cases hmethM.symm.trans hmethM'
  obtain ⟨c2, r2, m2, q1, q2, q3, q4, kP, hkP, hkPi⟩ := Cond.selects_spec hsel
  cases hcls.symm.trans q1
  cases (State.methodFound?_of_named hnamed hy).symm.trans q2
  cases hnamed.symm.trans q3
  have hselP : selectMethod e.platform s.vm cellB.cls mk = .method mk := by rw [Launch.admits_selectMethod X.admits]; exact q4
  obtain ⟨vm₁, X₁, hstep₁⟩ := X.invokevirtualNest hexec hown hlink hnamed hmethM hstM hkP hkPi hy (a := b) (cell := cellB) hcell
    (fun z h => by rw [h] at hobj; cases hobj) hselP hmethM habM hkP hkPi (g := g) hg (argsL := argsL) (rest := rest) (hlen _ hsigM) hstack hdg
  rcases hK m meth c ⟨T.setVm vm₁, locs, cells, slots⟩ { g with stack := rest } (.invokevirtual index) mk (Value.ref b :: argsL).toArray X₁ hg hsize hdg hW (X₁.named hnamed) (hpre vm₁ X₁.warmed) with ⟨v, B, X', hpost, hsteps⟩ | ⟨q, B, X', hpost, hsteps⟩
  · exact Or.inl ⟨v, vm₁, B, X₁.warmed, X', hpost, fun target h => hstep₁ _ fun acts => by rw [doInvoke_state]; exact hsteps.trans h⟩
  · exact Or.inr ⟨q, vm₁, B, X₁.warmed, X', hpost, hstep₁ _ fun acts => by rw [doInvoke_state]; exact hsteps⟩
theorem vx_callSN (X : Stand p l e R s m args below meth c T locs cells slots) (hexec : p.tables.exec = Jvm.exec) {own : String} {index : Nat} {host : String} {y : MethodName} {bytes : ByteArray} {maxL : Nat} {ret : Option FieldType}
    (hown : s.vm.findClass own = some m.cls) (hlink : (Cond.methodLinkNest own index y host).before args s = true) (hstat : (Cond.static y).before args s = true) (hinit : (Cond.initialized y.cls).before args s = true)
    (hcode : (Cond.code y bytes maxL ret).before args s = true) (hy : y.cls ≠ "java/lang/invoke/MethodHandle" ∧ y.cls ≠ "java/lang/invoke/VarHandle")
    {W : Nat} {Pre : Pt → Array Value → Prop} {Post : Pt → Array Value → Option Value → Pt → Prop} {PostX : Pt → Array Value → Addr → Pt → Prop} (hK : vx_Back l R p e below s args y 3 W Pre Post PostX)
    {g : JFrame} (hg : g.method = m) (hsize : g.locals.size = c.maxLocals) {argsL rest : List Value} (hlen : ∀ sig, parseMethodDescriptor y.desc = some sig → argsL.length = sig.parameters.length)
    (hstack : g.stack = argsL.reverse ++ rest) (hW : 2 * g.monitorRoom + (rest.map fun v => v.category).sum ≤ W) (hdg : decode c.code g.pc = .ok (.invokestatic index, 3))
    (hpre : ∀ vm₁, s.WarmedH vm₁ → Pre ⟨T.setVm vm₁, locs, cells, slots⟩ argsL.toArray) :
    (∃ (v : Option Value) (vm₁ : Vm) (B : Pt), s.WarmedH vm₁ ∧ Stand p l e R s m args below meth c B.U B.locs B.cells B.slots ∧ Post ⟨T.setVm vm₁, locs, cells, slots⟩ argsL.toArray v B ∧
      ∀ target, Steps p.tables e below (B.U.setTop { g with pc := g.pc + 3, stack := v.toList ++ rest }) target → Steps p.tables e below (T.setTop g) target) ∨
    (∃ (q : Addr) (vm₁ : Vm) (B : Pt), s.WarmedH vm₁ ∧ Stand p l e R s m args below meth c B.U B.locs B.cells B.slots ∧ PostX ⟨T.setVm vm₁, locs, cells, slots⟩ argsL.toArray q B ∧
      Steps p.tables e below (T.setTop g) ((B.U.setTop { g with stack := rest }).pushFrame (.throwing q))) := by
  obtain ⟨mk, hnamed⟩ := Cond.code_named hcode
  obtain ⟨methM, cM, hmethM, -, -, -, -, -, -, hsigM⟩ := Cond.code_spec hnamed hcode
  have hstatic : methM.isStatic = true := Cond.static_spec hnamed hmethM hstat
  obtain ⟨kP, hkP, -⟩ := className_of_methodNamed hnamed
  have hinitP : kP.init = .initialized := Cond.initialized_spec (findClass_of_methodNamed hnamed) hkP hinit
  obtain ⟨vm₁, X₁, hstep₁⟩ := X.invokestaticNest hexec hown hlink hnamed hmethM hstatic hkP hinitP hy (g := g) hg (argsL := argsL) (rest := rest) (hlen _ hsigM) hstack hdg
  rcases hK m meth c ⟨T.setVm vm₁, locs, cells, slots⟩ { g with stack := rest } (.invokestatic index) mk argsL.toArray X₁ hg hsize hdg hW (X₁.named hnamed) (hpre vm₁ X₁.warmed) with ⟨v, B, X', hpost, hsteps⟩ | ⟨q, B, X', hpost, hsteps⟩
  · exact Or.inl ⟨v, vm₁, B, X₁.warmed, X', hpost, fun target h => hstep₁ _ fun acts => by rw [doInvoke_state]; exact hsteps.trans h⟩
  · exact Or.inr ⟨q, vm₁, B, X₁.warmed, X', hpost, hstep₁ _ fun acts => by rw [doInvoke_state]; exact hsteps⟩
theorem vx_runVN {y : MethodName} {bytes cc : ByteArray} {maxL nL mc ms n index : Nat} {ret : Option FieldType} {ws : List Cond} {rm : Room} {Pc : Array Value → State → Prop} {Qc : Array Value → State → Outcome → State → Prop} {XC : String → State → State → Prop} {free : Addr → Prop} {Ts : List Cond} {own C host : String} {b : Addr} {As rest : List Value} {g : JFrame}
    (S : CallFix p m c cc nL s args Ts own) (hM : vx_Met l y ws rm Pc Qc XC mc ms free) (cw : va_CN R s args own index y host bytes maxL ret ws rm mc ms n ∧ (Cond.instanceMethod y).before args s = true ∧ (Cond.selects C y y).before args s = true) (hp : PreV s H C b Pc As)
    (hg : g.method = m) (hn : As.length = n) (hsize : g.locals.size = nL) (hstack : g.stack = As.reverse ++ .ref b :: rest) (hW : 2 * g.monitorRoom + (rest.map fun v => v.category).sum ≤ 8) (hdg : decode cc g.pc = .ok (.invokevirtual index, 3)) (hf : cells + mc ≤ R.cells ∧ slots + ms ≤ R.slots) :
    vx_Run p l e R s m args below meth c H locs cells slots mc ms g rest (Qc (Value.ref b :: As).toArray) XC free := by
  obtain ⟨⟨⟨hrc, hrs, hfr, hlo, hws, hcw⟩, hcode, hini, hy, hlen, hl⟩, hx1, hx2⟩ := cw
  have hK : vx_Back l R p e below s args y 3 8 (PreOf R mc ms Pc) (PostOf Qc mc ms free) (vx_Post XC mc ms free) := vx_back (bytes := bytes) (maxL := maxL) (ret := ret) hM hp.1 hrc hrs hfr hlo hws hcw (fun a' U hW => word_at hW (Or.inl (by first | rfl | simp [Cond.onTables, Cond.keeps, Cond.steady])) hini)
  obtain ⟨hx, hb, hml, ho, -⟩ := S
  obtain ⟨-, ⟨cellB, hcB, hoB, hclB⟩, hPc⟩ := hp
  intro T hT X
  rcases vx_callVN X hx (C := C) (bytes := bytes) (maxL := maxL) (ret := ret) ho hl hx1 hx2 hcode hy hK (by rw [hT]; exact hcB) hoB hclB hg (hsize.trans hml.symm) (argsL := As) (rest := rest) (fun sig h => hn.trans (hlen sig h)) hstack hW (by rw [hb]; exact hdg)
    (fun vm₁ hW₁ => ⟨hf.1, hf.2, hPc (T.setVm vm₁) hT hW₁⟩) with ⟨v, vm₁, ⟨U', l2, c2, s2⟩, hW₁, X', ⟨g', mk, t, L, e1, e2, hq, h1, hL, h2, h3⟩, st⟩ | ⟨q, vm₁, ⟨U', l2, c2, s2⟩, hW₁, X', ⟨g', mk, t, L, E, ce, e1, e2, hq, hce, hcv, hcl, h1, hL, h2, h3⟩, st⟩
  · dsimp only [Pt.U, Pt.locs, Pt.cells, Pt.slots] at X' e1 e2 h1 h2 h3 st
    subst h1; subst h2; subst h3
    exact Or.inl ⟨v, (T.setVm vm₁).calling g' mk (Value.ref b :: As).toArray, t, U', L, hT, X', hL, e1, e2, hq, st⟩
  · dsimp only [Pt.U, Pt.locs, Pt.cells, Pt.slots] at X' e1 e2 h1 h2 h3 st hcl
    subst h1; subst h2; subst h3
    exact Or.inr ⟨q, (T.setVm vm₁).calling g' mk (Value.ref b :: As).toArray, t, U', L, E, ce, hT, X', hL, e1, e2, hq, hce, hcv, vx_cls hW₁ hcl, st⟩
theorem vx_runSN {y : MethodName} {bytes cc : ByteArray} {maxL nL mc ms n index : Nat} {ret : Option FieldType} {ws : List Cond} {rm : Room} {Pc : Array Value → State → Prop} {Qc : Array Value → State → Outcome → State → Prop} {XC : String → State → State → Prop} {free : Addr → Prop} {Ts : List Cond} {own host : String} {As rest : List Value} {g : JFrame}
    (S : CallFix p m c cc nL s args Ts own) (hM : vx_Met l y ws rm Pc Qc XC mc ms free) (cw : va_CN R s args own index y host bytes maxL ret ws rm mc ms n ∧ (Cond.static y).before args s = true ∧ True) (hp : PreS s H Pc As)
    (hg : g.method = m) (hn : As.length = n) (hsize : g.locals.size = nL) (hstack : g.stack = As.reverse ++ rest) (hW : 2 * g.monitorRoom + (rest.map fun v => v.category).sum ≤ 8) (hdg : decode cc g.pc = .ok (.invokestatic index, 3)) (hf : cells + mc ≤ R.cells ∧ slots + ms ≤ R.slots) :
    vx_Run p l e R s m args below meth c H locs cells slots mc ms g rest (Qc As.toArray) XC free := by
  obtain ⟨⟨⟨hrc, hrs, hfr, hlo, hws, hcw⟩, hcode, hini, hy, hlen, hl⟩, hx1, hx2⟩ := cw
  have hK : vx_Back l R p e below s args y 3 8 (PreOf R mc ms Pc) (PostOf Qc mc ms free) (vx_Post XC mc ms free) := vx_back (bytes := bytes) (maxL := maxL) (ret := ret) hM hp.1 hrc hrs hfr hlo hws hcw (fun a' U hW => word_at hW (Or.inl (by first | rfl | simp [Cond.onTables, Cond.keeps, Cond.steady])) hini)
  obtain ⟨hx, hb, hml, ho, -⟩ := S
  have hPc := hp.2
  intro T hT X
  rcases vx_callSN X hx (bytes := bytes) (maxL := maxL) (ret := ret) ho hl hx1 hini hcode hy hK hg (hsize.trans hml.symm) (argsL := As) (rest := rest) (fun sig h => hn.trans (hlen sig h)) hstack hW (by rw [hb]; exact hdg)
    (fun vm₁ hW₁ => ⟨hf.1, hf.2, hPc (T.setVm vm₁) hT hW₁⟩) with ⟨v, vm₁, ⟨U', l2, c2, s2⟩, hW₁, X', ⟨g', mk, t, L, e1, e2, hq, h1, hL, h2, h3⟩, st⟩ | ⟨q, vm₁, ⟨U', l2, c2, s2⟩, hW₁, X', ⟨g', mk, t, L, E, ce, e1, e2, hq, hce, hcv, hcl, h1, hL, h2, h3⟩, st⟩
  · dsimp only [Pt.U, Pt.locs, Pt.cells, Pt.slots] at X' e1 e2 h1 h2 h3 st
    subst h1; subst h2; subst h3
    exact Or.inl ⟨v, (T.setVm vm₁).calling g' mk As.toArray, t, U', L, hT, X', hL, e1, e2, hq, st⟩
  · dsimp only [Pt.U, Pt.locs, Pt.cells, Pt.slots] at X' e1 e2 h1 h2 h3 st hcl
    subst h1; subst h2; subst h3
    exact Or.inr ⟨q, (T.setVm vm₁).calling g' mk As.toArray, t, U', L, E, ce, hT, X', hL, e1, e2, hq, hce, hcv, vx_cls hW₁ hcl, st⟩
end
/-! ===== END ===== -/
end
section
/-! THE SMALL MACHINE: what a method of the class or of the reference does to an abstract heap, told by rules (Vs), its least meaning (V), and V's equations -/
abbrev HI : Type := Nat → Nat → Int32
abbrev HR : Type := Nat → Nat → Option Nat
abbrev HS : Type := Nat → Option (Nat × Nat)
abbrev VO : Type := Option Value ⊕ String
abbrev VF : Type := VO → HS → HI → HR → Prop
abbrev VL : Type := List (Option Value)
abbrev VT : Type := Nat → Nat → VL → List Value → HS → HI → HR → Nat × Nat → VF → Prop
def mG (k : Nat) : MTy := mT.getD k mD
def mY (k : Nat) : MethodName := (mG k).1
def mB (k : Nat) : ByteArray := (mG k).2.1
def mL (k : Nat) : Nat := (mG k).2.2.1
def mRt (k : Nat) : Option FieldType := (mG k).2.2.2.1
def mC (k : Nat) : Nat := (mG k).2.2.2.2.1.1
def mK (k : Nat) : Nat := (mG k).2.2.2.2.1.2.1
def mN (k : Nat) : Nat := (mG k).2.2.2.2.1.2.2
def mFr (k : Nat) : Nat := (mG k).2.2.2.2.2.1.1
def mLo (k : Nat) : Nat := (mG k).2.2.2.2.2.1.2.1
def mCe (k : Nat) : Nat := (mG k).2.2.2.2.2.1.2.2.1
def mSl (k : Nat) : Nat := (mG k).2.2.2.2.2.1.2.2.2
def mRm (k : Nat) : Room := { frames := mFr k, cells := mCe k, slots := mSl k, locals := mLo k }
def mHl (k : Nat) : Bool := decide (k = hlI)
def nS : Nat := strs.length
def sLen (i : Nat) : Nat := (strs.getD i "").length
def sByt (i j : Nat) : Int32 := Int32.ofNat (((strs.getD i "").toList.getD j ' ').toNat)
def catS (st : List Value) : Nat := (st.map fun v => v.category).sum
def u2 {α : Type} (f : Nat → Nat → α) (a k : Nat) (x : α) : Nat → Nat → α := fun b j => if b = a ∧ j = k then x else f b j
def cp2 (f : HI) (src sp dst dp n : Nat) : HI := fun b j => if b = dst ∧ dp ≤ j ∧ j < dp + n then f src (sp + (j - dp)) else f b j
def u1 {α : Type} (f : Nat → α) (a : Nat) (x : α) : Nat → α := fun b => if b = a then x else f b
/-- the locals with which a method begins -/
def entA : List Value → VL
  | [] => []
  | v :: vs => if v.category = 2 then some v :: none :: entA vs else some v :: entA vs
def ent (n : Nat) (vs : List Value) : VL := entA vs ++ List.replicate (n - (entA vs).length) none
def lk2 {β : Type} (T : List (Nat × β)) (k ix : Nat) : Option β := if ix < 10000 then T.lookup (k * 10000 + ix) else none
def cst (k : Nat) : Instr → Option Int32
  | .iconst n => some (Int32.ofInt n)
  | .bipush n => some (Int8.ofInt n).toInt32
  | .sipush n => some (Int16.ofInt n).toInt32
  | .ldc ix => (lk2 iL (mC k) ix).map (·.1)
  | .ldc_w ix => (lk2 iL (mC k) ix).map (·.1)
  | _ => none
def cstS (k : Nat) : Instr → Option Nat
  | .ldc ix => (lk2 sL (mC k) ix).map (·.1)
  | .ldc_w ix => (lk2 sL (mC k) ix).map (·.1)
  | _ => none
def cstJ (k : Nat) : Instr → Option Int64
  | .lconst n => some (Int64.ofNat n.val)
  | .ldc2_w ix => (lk2 lL (mC k) ix).map (·.1)
  | _ => none
/-- what loads and stores name: 0 int, 1 reference, 2 long -/
def ldI : Instr → Option (Nat × Nat)
  | .iload_n k => some (0, k.val)
  | .iload k => some (0, k)
  | .aload_n k => some (1, k.val)
  | .aload k => some (1, k)
  | .lload_n k => some (2, k.val)
  | .lload k => some (2, k)
  | _ => none
def stI : Instr → Option (Nat × Nat)
  | .istore_n k => some (0, k.val)
  | .istore k => some (0, k)
  | .astore_n k => some (1, k.val)
  | .astore k => some (1, k)
  | _ => none
def isTy (t : Nat) : Value → Bool
  | .int _ => t == 0
  | .ref _ => t == 1
  | .null => t == 1
  | .long _ => t == 2
  | _ => false
/-- arithmetic and the like: from the stack to the stack -/
def ari (ins : Instr) (st : List Value) : Option (List Value) := match ins with
  | .iadd => match st with | .int y :: .int x :: r => some (.int (x + y) :: r) | _ => none
  | .isub => match st with | .int y :: .int x :: r => some (.int (x - y) :: r) | _ => none
  | .imul => match st with | .int y :: .int x :: r => some (.int (x * y) :: r) | _ => none
  | .iand => match st with | .int y :: .int x :: r => some (.int (x &&& y) :: r) | _ => none
  | .ior => match st with | .int y :: .int x :: r => some (.int (x ||| y) :: r) | _ => none
  | .ixor => match st with | .int y :: .int x :: r => some (.int (x ^^^ y) :: r) | _ => none
  | .ishl => match st with | .int y :: .int x :: r => some (.int (x <<< (y &&& 31)) :: r) | _ => none
  | .ishr => match st with | .int y :: .int x :: r => some (.int (x >>> (y &&& 31)) :: r) | _ => none
  | .iushr => match st with | .int y :: .int x :: r => some (.int (x.toUInt32 >>> (y.toUInt32 &&& Int32.toUInt32 31)).toInt32 :: r) | _ => none
  | .ineg => match st with | .int x :: r => some (.int (-x) :: r) | _ => none
  | .i2l => match st with | .int x :: r => some (.long x.toInt64 :: r) | _ => none
  | .i2c => match st with | .int x :: r => some (.int (x.toUInt32 % 65536).toInt32 :: r) | _ => none
  | .i2d => match st with | .int x :: r => some (.double (FP.i2d x) :: r) | _ => none
  | .lcmp => match st with | .long y :: .long x :: r => some (.int (lg_cmp x y) :: r) | _ => none
  | .dup => match st with
    | .int x :: r => some (.int x :: .int x :: r)
    | .ref x :: r => some (.ref x :: .ref x :: r)
    | _ => none
  | .dup2 => match st with
    | .int y :: .int x :: r => some (.int y :: .int x :: .int y :: .int x :: r)
    | .int y :: .ref x :: r => some (.int y :: .ref x :: .int y :: .ref x :: r)
    | _ => none
  | .pop => match st with | .int _ :: r => some r | _ => none
  | .dconst 0 => some (.double FP.dconst0 :: st)
  | _ => none
/-- a two-way branch: when, how far, what stays -/
def bra (ins : Instr) (st : List Value) : Option (Bool × Int × List Value) := match ins with
  | .ifCond .eq o => match st with | .int x :: r => some (decide (x = 0), o, r) | _ => none
  | .ifCond .ne o => match st with | .int x :: r => some (decide (¬ x = 0), o, r) | _ => none
  | .ifCond .lt o => match st with | .int x :: r => some (decide (x < 0), o, r) | _ => none
  | .ifCond .ge o => match st with | .int x :: r => some (decide (0 ≤ x), o, r) | _ => none
  | .ifCond .gt o => match st with | .int x :: r => some (decide (0 < x), o, r) | _ => none
  | .ifCond .le o => match st with | .int x :: r => some (decide (x ≤ 0), o, r) | _ => none
  | .if_icmp .eq o => match st with | .int y :: .int x :: r => some (decide (x = y), o, r) | _ => none
  | .if_icmp .ne o => match st with | .int y :: .int x :: r => some (decide (¬ x = y), o, r) | _ => none
  | .if_icmp .lt o => match st with | .int y :: .int x :: r => some (decide (x < y), o, r) | _ => none
  | .if_icmp .ge o => match st with | .int y :: .int x :: r => some (decide (y ≤ x), o, r) | _ => none
  | .if_icmp .gt o => match st with | .int y :: .int x :: r => some (decide (y < x), o, r) | _ => none
  | .if_icmp .le o => match st with | .int y :: .int x :: r => some (decide (x ≤ y), o, r) | _ => none
  | _ => none
def swO : Instr → Int32 → Option Int
  | .tableswitch d lo hi offs, x => if x.toInt < lo ∨ hi < x.toInt then some d else offs[(x.toInt - lo).toNat]?
  | .lookupswitch d ps, x => if (ps.toList.zip (ps.toList.drop 1)).all (fun (a, next) => a.1 < next.1) = true then some (Op.lookupswitch.offset ps.toList d x.toInt) else none
  | _, _ => none
def fN (t : Nat) : Nat := ((vwCl[t]?).map (fun r => r.2.2)).getD 0
def rvOK (K : Nat → Nat) (sh : HS) (k : Nat) : Option Value → Prop
  | some (.ref b) => ((rcN (mC k) < 15 ∧ ∃ n, sh b = some (rcN (mC k), n)) ∨ (mC k = 14 ∧ ∃ i, i < nS ∧ b = K i)) ∨ ((rcN (mC k) = 12 ∨ rcN (mC k) = 14) ∧ ∃ n, sh b = some (rcN (mC k) + 14, n))
  | _ => False
/-- a call of a method of the tables -/
def Vc (K : Nat → Nat) (X : VT) (kd q mi pc : Nat) (L : VL) (st : List Value) (sh : HS) (I : HI) (R : HR) (c : Nat × Nat) (F : VF) : Prop :=
  q < mT.length ∧ mN q ≤ st.length ∧ mK q = kd ∧ catS (st.drop (mN q)) ≤ 8 ∧ (mFr q + 1 ≤ mFr mi ∧ 8 + (mL q + 11) + mLo q ≤ mLo mi) ∧ (c.1 + mCe q ≤ mCe mi ∧ c.2 + mSl q ≤ mSl mi) ∧ ((kd = 1 → rvOK K sh q ((st.take (mN q)).getLast?)) ∧ (kd = 2 → ∃ b, (st.take (mN q)).getLast? = some (.ref b))) ∧
  ((entA ((st.take (mN q)).reverse)).length ≤ mL q ∧ ((st.take (mN q)).all (fun v => v.category == 1) = true ∨ mHl q = true)) ∧
  ∃ G : VF, X q 0 (ent (mL q) ((st.take (mN q)).reverse)) [] sh I R (0, 0) G ∧ (∀ sh' I' R', G (.inl none) sh' I' R' → X mi (pc + 3) L (st.drop (mN q)) sh' I' R' (c.1 + mCe q, c.2 + mSl q) F) ∧
    (∀ v sh' I' R', G (.inl (some v)) sh' I' R' → X mi (pc + 3) L (v :: st.drop (mN q)) sh' I' R' (c.1 + mCe q, c.2 + mSl q) F) ∧ (∀ E sh' I' R', G (.inr E) sh' I' R' → F (.inr E) sh' I' R')
def VmG (mi : Nat) (c : Nat × Nat) (r : List Value) : Prop := catS r ≤ 8 ∧ 1 ≤ mFr mi ∧ 26 ≤ mLo mi ∧ c.1 ≤ mCe mi ∧ c.2 ≤ mSl mi
/-- calls of Math, System, Object -/
def Vm (X : VT) (code mi pc : Nat) (L : VL) (st : List Value) (sh : HS) (I : HI) (R : HR) (c : Nat × Nat) (F : VF) : Prop :=
  match code with
  | 1000 => match st with | .int y :: .int x :: r => VmG mi c r ∧ X mi (pc + 3) L (.int (if y < x then y else x) :: r) sh I R c F | _ => False
  | 1001 => match st with | .int y :: .int x :: r => VmG mi c r ∧ X mi (pc + 3) L (.int (if x < y then y else x) :: r) sh I R c F | _ => False
  | 1002 => match st with | .int x :: r => VmG mi c r ∧ X mi (pc + 3) L (.int (if 0 ≤ x then x else 0 - x) :: r) sh I R c F | _ => False
  | 1003 => match st with
    | .int n :: .int dp :: .ref b :: .int sp :: .ref a :: r => VmG mi c r ∧ (∃ n0 n1, sh a = some (20, n0) ∧ sh b = some (20, n1) ∧ ¬ sp < 0 ∧ ¬ dp < 0 ∧ ¬ n < 0 ∧ sp.toNatClampNeg + n.toNatClampNeg ≤ n0 ∧ dp.toNatClampNeg + n.toNatClampNeg ≤ n1) ∧
        X mi (pc + 3) L r sh (cp2 I a sp.toNatClampNeg b dp.toNatClampNeg n.toNatClampNeg) R c F
    | _ => False
  | 1004 => match st with | .ref _ :: r => VmG mi c r ∧ X mi (pc + 3) L r sh I R c F | _ => False
  | _ => False
/-- how long an instruction is, where that isn't left open -/
def iln (ins : Instr) (n : Nat) : Nat := match ins with
  | .iload _ => 2 | .aload _ => 2 | .lload _ => 2 | .istore _ => 2 | .astore _ => 2 | .bipush _ => 2 | .sipush _ => 3 | .ldc _ => 2 | .ldc_w _ => 3 | .ldc2_w _ => 3
  | .ifCond _ _ => 3 | .if_icmp _ _ => 3 | .goto _ => 3 | .iinc _ _ => 3 | .getfield _ => 3 | .putfield _ => 3 | .getstatic _ => 3 | .new _ => 3 | .newarray _ => 2 | .anewarray _ => 3
  | .invokestatic _ => 3 | .invokevirtual _ => 3 | .invokespecial _ => 3 | .tableswitch _ _ _ _ => n | .lookupswitch _ _ => n
  | _ => 1
/-- a final field is written by its own class's constructor alone -/
def fF (t k : Nat) : Bool := ((vwCl[t]?).map (fun r => (r.2.1 k).2.2.2)).getD false
def Vi (K J : Nat → Nat) (X : VT) (ins : Instr) (n mi pc : Nat) (L : VL) (st : List Value) (sh : HS) (I : HI) (R : HR) (c : Nat × Nat) (F : VF) : Prop :=
  match ldI ins with
  | some (t, i) => (match L[i]? with | some (some v) => isTy t v = true ∧ X mi (pc + n) L (v :: st) sh I R c F | _ => False)
  | none =>
  match stI ins with
  | some (t, i) => (match st with | v :: r => isTy t v = true ∧ t < 2 ∧ mHl mi = false ∧ i < L.length ∧ X mi (pc + n) (L.set i (some v)) r sh I R c F | _ => False)
  | none =>
  match cst mi ins with
  | some v => X mi (pc + n) L (.int v :: st) sh I R c F
  | none =>
  match cstS mi ins with
  | some i => i < nS ∧ X mi (pc + n) L (.ref (K i) :: st) sh I R c F
  | none =>
  match cstJ mi ins with
  | some v => X mi (pc + n) L (.long v :: st) sh I R c F
  | none =>
  match ari ins st with
  | some r => X mi (pc + n) L r sh I R c F
  | none =>
  match bra ins st with
  | some (b, o, r) => 0 ≤ (pc : Int) + o ∧ (b = true → X mi ((pc : Int) + o).toNat L r sh I R c F) ∧ (b = false → X mi (pc + 3) L r sh I R c F)
  | none =>
  match ins with
  | .goto o => 0 ≤ (pc : Int) + o ∧ X mi ((pc : Int) + o).toNat L st sh I R c F
  | .tableswitch _ _ _ _ => (match st with | .int x :: r => (match swO ins x with | some o => 0 ≤ (pc : Int) + o ∧ X mi ((pc : Int) + o).toNat L r sh I R c F | none => False) | _ => False)
  | .lookupswitch _ _ => (match st with | .int x :: r => (match swO ins x with | some o => 0 ≤ (pc : Int) + o ∧ X mi ((pc : Int) + o).toNat L r sh I R c F | none => False) | _ => False)
  | .iinc i z => (match L[i]? with | some (some (.int x)) => mHl mi = false ∧ i < L.length ∧ X mi (pc + n) (L.set i (some (.int (x + Int32.ofInt z)))) st sh I R c F | _ => False)
  | .idiv => (match st with | .int y :: .int x :: r => ¬ y = 0 ∧ X mi (pc + n) L (.int (x / y) :: r) sh I R c F | _ => False)
  | .irem => (match st with | .int y :: .int x :: r => ¬ y = 0 ∧ X mi (pc + n) L (.int (x - x / y * y) :: r) sh I R c F | _ => False)
  | .ddiv => (match st with | .double y :: .double x :: r => vf_n64 (FP.ddiv x y) ∧ X mi (pc + n) L (.double (FP.ddiv x y) :: r) sh I R c F | _ => False)
  | .getfield ix => (match lk2 fL (mC mi) ix with
    | some (t, k, ty, _) => (match st with
      | .ref a :: r => (match t with
        | 20 => ∃ i, i < nS ∧ a = K i ∧ X mi (pc + 3) L (.ref (J i) :: r) sh I R c F
        | 21 => ∃ i, i < nS ∧ a = K i ∧ X mi (pc + 3) L (.int 0 :: r) sh I R c F
        | _ => (∃ m, sh a = some (t, m)) ∧ t < 15 ∧ X mi (pc + 3) L ((if ty = 2 then va_rf (R a k) else .int (I a k)) :: r) sh I R c F)
      | _ => False)
    | none => False)
  | .putfield ix => (match lk2 fL (mC mi) ix with
    | some (t, k, ty, _) => (match st with
      | .int x :: .ref a :: r => ((∃ m, sh a = some (t, m)) ∧ (fF t k = true → mK mi = 2 ∧ mC mi = t) ∧ t < 15) ∧ ty < 2 ∧ (ty = 1 → x = 0 ∨ x = 1) ∧ X mi (pc + 3) L r sh (u2 I a k x) R c F
      | .ref v :: .ref a :: r => ((∃ m, sh a = some (t, m)) ∧ (fF t k = true → mK mi = 2 ∧ mC mi = t) ∧ t < 15) ∧ ty = 2 ∧ X mi (pc + 3) L r sh I (u2 R a k (some v)) c F
      | _ => False)
    | none => False)
  | .getstatic ix => (match lk2 gL (mC mi) ix with
    | some (0, _) => X mi (pc + 3) L (.int 1 :: st) sh I R c F
    | some (_, _) => ∀ v, (v = .null ∨ ∃ a, v = .ref a) → X mi (pc + 3) L (v :: st) sh I R c F
    | none => False)
  | .iaload => (match st with | .int i :: .ref a :: r => (∃ m, sh a = some (20, m) ∧ vp_in i m) ∧ X mi (pc + n) L (.int (I a i.toNatClampNeg) :: r) sh I R c F | _ => False)
  | .baload => (match st with | .int i :: .ref a :: r => ∃ k, k < nS ∧ a = J k ∧ vp_in i (sLen k) ∧ X mi (pc + n) L (.int (sByt k i.toNatClampNeg) :: r) sh I R c F | _ => False)
  | .aaload => (match st with | .int i :: .ref a :: r => (∃ t m, sh a = some (30 + t, m) ∧ vp_in i m) ∧ X mi (pc + n) L (va_rf (R a i.toNatClampNeg) :: r) sh I R c F | _ => False)
  | .iastore => (match st with | .int x :: .int i :: .ref a :: r => (∃ m, sh a = some (20, m) ∧ vp_in i m) ∧ X mi (pc + n) L r sh (u2 I a i.toNatClampNeg x) R c F | _ => False)
  | .aastore => (match st with | .ref v :: .int i :: .ref a :: r => (∃ t m m2, sh a = some (30 + t, m) ∧ vp_in i m ∧ sh v = some (t, m2) ∧ t < 10) ∧ X mi (pc + n) L r sh I (u2 R a i.toNatClampNeg (some v)) c F | _ => False)
  | .arraylength => (match st with | .ref a :: r => ∃ k, k < nS ∧ a = J k ∧ X mi (pc + n) L (.int (nI (sLen k)) :: r) sh I R c F | _ => False)
  | .new ix => (match lk2 nL (mC mi) ix with
    | some (t, _) => c.1 + 1 ≤ mCe mi ∧ c.2 + fN t ≤ mSl mi ∧ ∀ a, sh a = none → X mi (pc + 3) L (.ref a :: st) (u1 sh a (some (t, fN t))) (u1 I a (fun _ => 0)) (u1 R a (fun _ => none)) (c.1 + 1, c.2 + fN t) F
    | none => False)
  | .newarray .int => (match st with | .int x :: r => ¬ x < 0 ∧ x.toNatClampNeg < 100000 ∧ c.1 + 1 ≤ mCe mi ∧ c.2 + x.toNatClampNeg ≤ mSl mi ∧ ∀ a, sh a = none → X mi (pc + 2) L (.ref a :: r) (u1 sh a (some (20, x.toNatClampNeg))) (u1 I a (fun _ => 0)) R (c.1 + 1, c.2 + x.toNatClampNeg) F | _ => False)
  | .anewarray ix => (match lk2 nL (mC mi) ix with
    | some (t, _) => (match st with | .int x :: r => (¬ x < 0 ∧ (t = 0 ∨ t = 5 ∨ t = 7)) ∧ x.toNatClampNeg < 100000 ∧ c.1 + 1 ≤ mCe mi ∧ c.2 + x.toNatClampNeg ≤ mSl mi ∧ ∀ a, sh a = none → X mi (pc + 3) L (.ref a :: r) (u1 sh a (some (30 + t, x.toNatClampNeg))) I (u1 R a (fun _ => none)) (c.1 + 1, c.2 + x.toNatClampNeg) F | _ => False)
    | none => False)
  | .invokestatic ix => (match lk2 kL (mC mi) ix with
    | some (code, _) => (code < 1000 → Vc K X 0 code mi pc L st sh I R c F) ∧ (¬ code < 1000 → code < 1004 ∧ Vm X code mi pc L st sh I R c F)
    | none => False)
  | .invokevirtual ix => (match lk2 kL (mC mi) ix with
    | some (code, _) => code < 1000 ∧ Vc K X 1 code mi pc L st sh I R c F
    | none => False)
  | .invokespecial ix => (match lk2 kL (mC mi) ix with
    | some (code, _) => (code < 1000 → Vc K X 2 code mi pc L st sh I R c F) ∧ (¬ code < 1000 → code = 1004 ∧ Vm X code mi pc L st sh I R c F)
    | none => False)
  | .return_ => mRt mi = none ∧ st = [] ∧ c.1 ≤ mCe mi ∧ c.2 ≤ mSl mi ∧ F (.inl none) sh I R
  | .ireturn => (match st with | [.int x] => (∃ ty, mRt mi = some ty ∧ narrow ty (.int x) = .int x) ∧ c.1 ≤ mCe mi ∧ c.2 ≤ mSl mi ∧ F (.inl (some (.int x))) sh I R | _ => False)
  | .areturn => (match st with | [.ref x] => (∃ d, mRt mi = some (.object d)) ∧ c.1 ≤ mCe mi ∧ c.2 ≤ mSl mi ∧ F (.inl (some (.ref x))) sh I R | _ => False)
  | .dreturn => (match st with | [.double x] => mRt mi = some .double ∧ c.1 ≤ mCe mi ∧ c.2 ≤ mSl mi ∧ F (.inl (some (.double x))) sh I R | _ => False)
  | _ => False
def Vs (K J : Nat → Nat) (X : VT) : VT := fun mi pc L st sh I R c F =>
  match (if pc < 1000 then tL.lookup (mi * 1000 + pc) else none) with
  | some E => c.1 + 1 ≤ mCe mi ∧ c.2 + 6 ≤ mSl mi ∧ catS st ≤ 6 ∧ F (.inr E) sh I R
  | none => match decode (mB mi) pc with
    | .ok (ins, n) => n = iln ins n ∧ Vi K J X ins n mi pc L st sh I R c F
    | _ => False
/-- the least meaning -/
def V (K J : Nat → Nat) : VT := fun mi pc L st sh I R c F => ∀ X : VT, (∀ mi pc L st sh I R c F, Vs K J X mi pc L st sh I R c F → X mi pc L st sh I R c F) → X mi pc L st sh I R c F
end
section
/-! V is the least fixed point of Vs, and monotone in what it ends with -/
theorem Vc_mono {K : Nat → Nat} {X Y : VT} {F G : VF} {kd q mi pc : Nat} {L : VL} {st : List Value} {sh : HS} {I : HI} {R : HR} {c : Nat × Nat} (hF : ∀ mi pc L st sh I R c, X mi pc L st sh I R c F → Y mi pc L st sh I R c G) (hX : ∀ mi pc L st sh I R c H, X mi pc L st sh I R c H → Y mi pc L st sh I R c H) (hFG : ∀ o sh I R, F o sh I R → G o sh I R)
    (h : Vc K X kd q mi pc L st sh I R c F) : Vc K Y kd q mi pc L st sh I R c G := by
  obtain ⟨a1, a2, a3, a4, a5, a6, a7, a8, P, b1, b2, b3, b4⟩ := h
  exact ⟨a1, a2, a3, a4, a5, a6, a7, a8, P, hX _ _ _ _ _ _ _ _ _ b1, fun _ _ _ g => hF _ _ _ _ _ _ _ _ (b2 _ _ _ g), fun _ _ _ _ g => hF _ _ _ _ _ _ _ _ (b3 _ _ _ _ g), fun _ _ _ _ g => hFG _ _ _ _ (b4 _ _ _ _ g)⟩
theorem Vm_mono {X Y : VT} {F G : VF} {q mi pc : Nat} {L : VL} {st : List Value} {sh : HS} {I : HI} {R : HR} {c : Nat × Nat} (hF : ∀ mi pc L st sh I R c, X mi pc L st sh I R c F → Y mi pc L st sh I R c G)
    (h : Vm X q mi pc L st sh I R c F) : Vm Y q mi pc L st sh I R c G := by
  unfold Vm at h ⊢
  split at h
  · split at h <;> first | exact h.elim | exact ⟨h.1, hF _ _ _ _ _ _ _ _ h.2⟩
  · split at h <;> first | exact h.elim | exact ⟨h.1, hF _ _ _ _ _ _ _ _ h.2⟩
  · split at h <;> first | exact h.elim | exact ⟨h.1, hF _ _ _ _ _ _ _ _ h.2⟩
  · split at h <;> first | exact h.elim | exact ⟨h.1, h.2.1, hF _ _ _ _ _ _ _ _ h.2.2⟩
  · split at h <;> first | exact h.elim | exact ⟨h.1, hF _ _ _ _ _ _ _ _ h.2⟩
  · exact h.elim
set_option maxHeartbeats 4000000 in
theorem Vi_mono {K J : Nat → Nat} {X Y : VT} {F G : VF} {ins : Instr} {n mi pc : Nat} {L : VL} {st : List Value} {sh : HS} {I : HI} {R : HR} {c : Nat × Nat} (hF : ∀ mi pc L st sh I R c, X mi pc L st sh I R c F → Y mi pc L st sh I R c G) (hX : ∀ mi pc L st sh I R c H, X mi pc L st sh I R c H → Y mi pc L st sh I R c H) (hFG : ∀ o sh I R, F o sh I R → G o sh I R)
    (h : Vi K J X ins n mi pc L st sh I R c F) : Vi K J Y ins n mi pc L st sh I R c G := by
  unfold Vi at h ⊢
  cases e1 : ldI ins with
  | some ti =>
    obtain ⟨t, i⟩ := ti
    simp only [e1] at h ⊢
    rcases e2 : L[i]? with _ | (_ | v) <;> simp only [e2] at h ⊢
    exact ⟨h.1, hF _ _ _ _ _ _ _ _ h.2⟩
  | none =>
  simp only [e1] at h ⊢
  cases e2 : stI ins with
  | some ti =>
    obtain ⟨t, i⟩ := ti
    simp only [e2] at h ⊢
    cases st with
    | nil => exact h.elim
    | cons v r => exact ⟨h.1, h.2.1, h.2.2.1, h.2.2.2.1, hF _ _ _ _ _ _ _ _ h.2.2.2.2⟩
  | none =>
  simp only [e2] at h ⊢
  cases e3 : cst mi ins with
  | some v => simp only [e3] at h ⊢; exact hF _ _ _ _ _ _ _ _ h
  | none =>
  simp only [e3] at h ⊢
  cases e4 : cstS mi ins with
  | some v => simp only [e4] at h ⊢; exact ⟨h.1, hF _ _ _ _ _ _ _ _ h.2⟩
  | none =>
  simp only [e4] at h ⊢
  cases e5 : cstJ mi ins with
  | some v => simp only [e5] at h ⊢; exact hF _ _ _ _ _ _ _ _ h
  | none =>
  simp only [e5] at h ⊢
  cases e6 : ari ins st with
  | some v => simp only [e6] at h ⊢; exact hF _ _ _ _ _ _ _ _ h
  | none =>
  simp only [e6] at h ⊢
  cases e7 : bra ins st with
  | some v =>
    obtain ⟨b, o, r⟩ := v
    simp only [e7] at h ⊢
    exact ⟨h.1, fun z => hF _ _ _ _ _ _ _ _ (h.2.1 z), fun z => hF _ _ _ _ _ _ _ _ (h.2.2 z)⟩
  | none =>
  simp only [e7] at h ⊢
  clear e1 e2 e3 e4 e5 e6 e7
  cases ins with
  | goto o => exact ⟨h.1, hF _ _ _ _ _ _ _ _ h.2⟩
  | tableswitch a b d e =>
    simp only at h ⊢
    split at h
    · split at h
      · rename_i e9; (try simp only [e9]); exact ⟨h.1, hF _ _ _ _ _ _ _ _ h.2⟩
      · exact h.elim
    · exact h.elim
  | lookupswitch a b =>
    simp only at h ⊢
    split at h
    · split at h
      · rename_i e9; (try simp only [e9]); exact ⟨h.1, hF _ _ _ _ _ _ _ _ h.2⟩
      · exact h.elim
    · exact h.elim
  | iinc i z =>
    simp only at h ⊢
    split at h
    · rename_i e9; (try simp only [e9]); exact ⟨h.1, h.2.1, hF _ _ _ _ _ _ _ _ h.2.2⟩
    · exact h.elim
  | idiv => simp only at h ⊢; split at h <;> first | exact h.elim | exact ⟨h.1, hF _ _ _ _ _ _ _ _ h.2⟩
  | irem => simp only at h ⊢; split at h <;> first | exact h.elim | exact ⟨h.1, hF _ _ _ _ _ _ _ _ h.2⟩
  | ddiv => simp only at h ⊢; split at h <;> first | exact h.elim | exact ⟨h.1, hF _ _ _ _ _ _ _ _ h.2⟩
  | getfield ix =>
    simp only at h ⊢
    split at h
    · rename_i e9
      (try simp only [e9])
      split at h
      · split at h
        · obtain ⟨i, q1, q2, q3⟩ := h
          exact ⟨i, q1, q2, hF _ _ _ _ _ _ _ _ q3⟩
        · obtain ⟨i, q1, q2, q3⟩ := h
          exact ⟨i, q1, q2, hF _ _ _ _ _ _ _ _ q3⟩
        · exact ⟨h.1, h.2.1, hF _ _ _ _ _ _ _ _ h.2.2⟩
      · exact h.elim
    · exact h.elim
  | putfield ix =>
    simp only at h ⊢
    split at h
    · rename_i e9
      (try simp only [e9])
      split at h
      · exact ⟨h.1, h.2.1, h.2.2.1, hF _ _ _ _ _ _ _ _ h.2.2.2⟩
      · exact ⟨h.1, h.2.1, hF _ _ _ _ _ _ _ _ h.2.2⟩
      · exact h.elim
    · exact h.elim
  | getstatic ix =>
    simp only at h ⊢
    split at h
    · rename_i e9; (try simp only [e9]); exact hF _ _ _ _ _ _ _ _ h
    · rename_i e8 e9; (try simp only [e9]); exact fun v z => hF _ _ _ _ _ _ _ _ (h v z)
    · exact h.elim
  | iaload => simp only at h ⊢; split at h <;> first | exact h.elim | exact ⟨h.1, hF _ _ _ _ _ _ _ _ h.2⟩
  | aaload => simp only at h ⊢; split at h <;> first | exact h.elim | exact ⟨h.1, hF _ _ _ _ _ _ _ _ h.2⟩
  | iastore => simp only at h ⊢; split at h <;> first | exact h.elim | exact ⟨h.1, hF _ _ _ _ _ _ _ _ h.2⟩
  | aastore => simp only at h ⊢; split at h <;> first | exact h.elim | exact ⟨h.1, hF _ _ _ _ _ _ _ _ h.2⟩
  | baload =>
    simp only at h ⊢
    split at h
    · obtain ⟨k, q1, q2, q3, q4⟩ := h
      exact ⟨k, q1, q2, q3, hF _ _ _ _ _ _ _ _ q4⟩
    · exact h.elim
  | arraylength =>
    simp only at h ⊢
    split at h
    · obtain ⟨k, q1, q2, q3⟩ := h
      exact ⟨k, q1, q2, hF _ _ _ _ _ _ _ _ q3⟩
    · exact h.elim
  | new ix =>
    simp only at h ⊢
    split at h
    · rename_i e9; (try simp only [e9]); exact ⟨h.1, h.2.1, fun a z => hF _ _ _ _ _ _ _ _ (h.2.2 a z)⟩
    · exact h.elim
  | newarray ty =>
    cases ty <;> simp only at h ⊢
    split at h
    · exact ⟨h.1, h.2.1, h.2.2.1, h.2.2.2.1, fun a z => hF _ _ _ _ _ _ _ _ (h.2.2.2.2 a z)⟩
    · exact h.elim
  | anewarray ix =>
    simp only at h ⊢
    split at h
    · rename_i e9
      (try simp only [e9])
      split at h
      · exact ⟨h.1, h.2.1, h.2.2.1, h.2.2.2.1, fun a z => hF _ _ _ _ _ _ _ _ (h.2.2.2.2 a z)⟩
      · exact h.elim
    · exact h.elim
  | invokestatic ix =>
    simp only at h ⊢
    split at h
    · rename_i e9; (try simp only [e9]); exact ⟨fun z => Vc_mono hF hX hFG (h.1 z), fun z => ⟨(h.2 z).1, Vm_mono hF (h.2 z).2⟩⟩
    · exact h.elim
  | invokevirtual ix =>
    simp only at h ⊢
    split at h
    · rename_i e9; (try simp only [e9]); exact ⟨h.1, Vc_mono hF hX hFG h.2⟩
    · exact h.elim
  | invokespecial ix =>
    simp only at h ⊢
    split at h
    · rename_i e9; (try simp only [e9]); exact ⟨fun z => Vc_mono hF hX hFG (h.1 z), fun z => ⟨(h.2 z).1, Vm_mono hF (h.2 z).2⟩⟩
    · exact h.elim
  | return_ => exact ⟨h.1, h.2.1, h.2.2.1, h.2.2.2.1, hFG _ _ _ _ h.2.2.2.2⟩
  | ireturn => simp only at h ⊢; split at h <;> first | exact h.elim | exact ⟨h.1, h.2.1, h.2.2.1, hFG _ _ _ _ h.2.2.2⟩
  | areturn => simp only at h ⊢; split at h <;> first | exact h.elim | exact ⟨h.1, h.2.1, h.2.2.1, hFG _ _ _ _ h.2.2.2⟩
  | dreturn => simp only at h ⊢; split at h <;> first | exact h.elim | exact ⟨h.1, h.2.1, h.2.2.1, hFG _ _ _ _ h.2.2.2⟩
  | _ => exact h.elim
theorem Vs_mono {K J : Nat → Nat} {X Y : VT} {F G : VF} {mi pc : Nat} {L : VL} {st : List Value} {sh : HS} {I : HI} {R : HR} {c : Nat × Nat} (hF : ∀ mi pc L st sh I R c, X mi pc L st sh I R c F → Y mi pc L st sh I R c G) (hX : ∀ mi pc L st sh I R c H, X mi pc L st sh I R c H → Y mi pc L st sh I R c H) (hFG : ∀ o sh I R, F o sh I R → G o sh I R)
    (h : Vs K J X mi pc L st sh I R c F) : Vs K J Y mi pc L st sh I R c G := by
  unfold Vs at h ⊢
  split at h
  · rename_i e9; (try simp only [e9]); exact ⟨h.1, h.2.1, h.2.2.1, hFG _ _ _ _ h.2.2.2⟩
  · rename_i e8
    (try simp only [e8])
    split at h
    · rename_i e9; (try simp only [e9]); exact ⟨h.1, Vi_mono hF hX hFG h.2⟩
    · exact h.elim
theorem V_in {K J : Nat → Nat} {mi pc : Nat} {L : VL} {st : List Value} {sh : HS} {I : HI} {R : HR} {c : Nat × Nat} {F : VF} (h : Vs K J (V K J) mi pc L st sh I R c F) : V K J mi pc L st sh I R c F := by
  intro X hX
  have e : ∀ mi pc L st sh I R c F, V K J mi pc L st sh I R c F → X mi pc L st sh I R c F := fun _ _ _ _ _ _ _ _ _ g => g X hX
  exact hX _ _ _ _ _ _ _ _ _ (Vs_mono (fun _ _ _ _ _ _ _ _ => e _ _ _ _ _ _ _ _ _) (fun _ _ _ _ _ _ _ _ _ => e _ _ _ _ _ _ _ _ _) (fun _ _ _ _ g => g) h)
theorem V_eq {K J : Nat → Nat} {mi pc : Nat} {L : VL} {st : List Value} {sh : HS} {I : HI} {R : HR} {c : Nat × Nat} {F : VF} : V K J mi pc L st sh I R c F = Vs K J (V K J) mi pc L st sh I R c F := by
  refine propext ⟨fun h => ?_, V_in⟩
  refine h (Vs K J (V K J)) fun mi pc L st sh I R c F g => ?_
  exact Vs_mono (fun _ _ _ _ _ _ _ _ => V_in) (fun _ _ _ _ _ _ _ _ _ => V_in) (fun _ _ _ _ g => g) g
theorem V_mono {K J : Nat → Nat} {mi pc : Nat} {L : VL} {st : List Value} {sh : HS} {I : HI} {R : HR} {c : Nat × Nat} {F G : VF} (hFG : ∀ o sh I R, F o sh I R → G o sh I R) (h : V K J mi pc L st sh I R c F) : V K J mi pc L st sh I R c G := by
  refine h (fun mi pc L st sh I R c F => ∀ G : VF, (∀ o sh I R, F o sh I R → G o sh I R) → V K J mi pc L st sh I R c G) (fun mi pc L st sh I R c F g G hFG => ?_) G hFG
  exact V_in (Vs_mono (fun _ _ _ _ _ _ _ _ z => z G hFG) (fun _ _ _ _ _ _ _ _ H z => z H (fun _ _ _ _ q => q)) hFG g)
end
section
/-! THE SMALL MACHINE IS THE MACHINE'S: what V says of an abstract heap, W says of the heap that holds it -/
def wAll : List Cond := lw_tb2.filter goodWord
theorem wAll_good : GoodIn lw_tb2 wAll := fun w h => ⟨(List.mem_filter.mp h).1, good_of_word (List.mem_filter.mp h).2⟩
theorem wAll_self : GoodIn wAll wAll := fun w h => ⟨h, good_of_word (List.mem_filter.mp h).2⟩
theorem wAll_at {i : Nat} {w : Cond} (h : lw_tb2[i]? = some w) (hg : goodWord w = true) : w ∈ wAll := List.mem_filter.mpr ⟨List.mem_of_getElem? h, hg⟩
def fT (t k : Nat) : Bool := ((vwCl[t]?).map (fun r => !((r.2.1 k).2.2.1 == "I" || ((r.2.1 k).2.2.1 == "Z" || (r.2.1 k).2.2.1 == "B")))).getD false
def fv (t k a : Nat) (I : HI) (R : HR) : Value := if fT t k = true then va_rf (R a k) else .int (I a k)
def lenS : List Nat := strs.map String.length
def bytS : List (List Int32) := strs.map (fun z => z.toList.map (fun c => Int32.ofNat c.toNat))
/-- words of a throw that aren't carried by a method's words -/
def nW : List Cond := [.castable "java/lang/IllegalStateException" "java/lang/IllegalStateException", .castable "java/lang/IllegalArgumentException" "java/lang/IllegalArgumentException", .castable "java/util/NoSuchElementException" "java/util/NoSuchElementException", .declares ⟨"java/lang/RuntimeException", "<init>", "(Ljava/lang/String;)V"⟩, .declares ⟨"java/lang/Exception", "<init>", "(Ljava/lang/String;)V"⟩, .declares ⟨"java/lang/Throwable", "<init>", "(Ljava/lang/String;)V"⟩]
def aN : List String := ["ShotListPlanner$Board", "ShotListPlanner$Scene", "ShotListPlanner$Shot"]
/-- the host of the nest of a class -/
def hoN (c : Nat) : String := if c = 17 then "ShotListPlannerLaw" else if c = 11 then "java/util/ArrayList" else "ShotListPlanner"
/-- the words of casts, of the iterator's interface, of arrays' classes -/
def nW2 : List Cond := [.castable "[I" "java/lang/Object", .castable "java/lang/Integer" "java/lang/Object", .castable "[B" "java/lang/Cloneable", .castable "java/util/ArrayList$Itr" "java/util/Iterator"]
def fxN (q : Nat × Nat × Nat × Nat × Nat × Nat) : Cond := match vwCl[q.2.1]? with
  | some r => .fieldLinkNest (cN (q.1 / 10000)) (q.1 % 10000) (r.2.1 q.2.2.1).1 (r.2.1 q.2.2.1).2.1 (r.2.1 q.2.2.1).2.2.1 (hoN (q.1 / 10000))
  | none => .castable "[I" "java/lang/Object"
def itX : MethodName := ⟨"java/util/Iterator", "hasNext", "()Z"⟩
def itY : MethodName := ⟨"java/util/Iterator", "next", "()Ljava/lang/Object;"⟩
/-- what the law needs beyond the class: statics of the JDK, a class object, casts, nest mates' fields, the iterator's interface -/
def WB2 (K J : Nat → Nat) (A : Nat → Prop) (U : State) (H : Heap) : Prop :=
  (va_Z "java/util/ArrayList" "DEFAULTCAPACITY_EMPTY_ELEMENTDATA" "[Ljava/lang/Object;" (.ref (K nS)) A U H ∧ va_Z "java/lang/Integer$IntegerCache" "high" "I" (.int 127) A U H ∧ va_Z "java/lang/Integer$IntegerCache" "cache" "[Ljava/lang/Integer;" (.ref (K (nS + 1))) A U H ∧
    va_Z "java/lang/Integer" "DigitOnes" "[B" (.ref (K (nS + 2))) A U H ∧ va_Z "java/lang/Integer" "DigitTens" "[B" (.ref (K (nS + 3))) A U H) ∧
  (∀ q ∈ fX, q.2.2.2.2.2 = 1 → va_Nw (fxN q) U) ∧ (∀ w ∈ nW2, va_Nw w U) ∧ va_Mi "[Ljava/lang/Object;" (J nS) U ∧ va_Dc U ∧ va_AO "java/lang/Object" U ∧ va_AOA .int U ∧
  va_Fw "java/util/ArrayList$Itr" itX yJx35411_hasNext_aae02 U ∧ va_Fw "java/util/ArrayList$Itr" itY yJx35411_next_0502b U
/-- the texts, the statics, the links between nest mates: what a method finds and leaves -/
def WB (K J : Nat → Nat) (A : Nat → Prop) (U : State) (H : Heap) : Prop :=
  vk_S nS lenS bytS K J A U H ∧ (∀ q ∈ sL, vk_R (cN (q.1 / 10000)) (q.1 % 10000) (strs.getD q.2.1 "") (K q.2.1) U) ∧
  (∀ w ∈ nW, va_Nw w U) ∧ (∀ q ∈ kL, q.2.2.1 = 1 → va_Nw (.methodLinkNest (cN (q.1 / 10000)) (q.1 % 10000) (mY q.2.1) (hoN (q.1 / 10000))) U) ∧
  vx_Zq Bundle.tN "UNASSIGNED_STACK" Bundle.steD A U H ∧ vx_Zq Bundle.tN "SUPPRESSED_SENTINEL" Bundle.listD A U H ∧
  va_Z "java/lang/String" "COMPACT_STRINGS" "Z" (.int 1) A U H ∧ va_Zq "jdk/internal/util/Preconditions" "SIOOBE_FORMATTER" "Ljava/util/function/BiFunction;" A U H ∧ (∀ C ∈ aN, va_AO C U) ∧ WB2 K J A U H
/-- the elements of an array of references, by its kind -/
def eTy (u : Nat) : FieldType := if u = 15 then .array .int else if u = 16 then .object "java/lang/Object" else if u = 17 then .object "java/lang/Integer" else .object (cN u)
/-- an old cell: a field of it, its contents -/
def oF (s : State) (o n d : String) (v : Value) (cell : Cell) : Prop := ∃ (cf : ClassId) (k : Class) (i : Nat) (f : Field), s.fieldFound? o n d = some (cf, k, i, f) ∧ f.isStatic = false ∧ cell.vm ≠ .unknown ∧ cell.slots[f.slot]? = some v
def oT (s : State) (ty : FieldType) (n : Nat) (f : Nat → Value) (cell : Cell) : Prop := s.isArrayOf cell ty ∧ cell.vm ≠ .unknown ∧ n ≤ cell.slots.size ∧ cell.slots.size.toInt32 = Int32.ofNat n ∧ ∀ j : Nat, j < n → cell.slots[j]? = some (f j)
def oO (s : State) (E : String) (cell : Cell) : Prop := cell.vm.isStatics = false ∧ s.vm.findClass E = some cell.cls
def rcO (s : State) (t n a : Nat) (I : HI) (R : HR) (cell : Cell) : Prop :=
  (t = 26 → oO s "java/lang/Integer" cell ∧ oF s "java/lang/Integer" "value" "I" (.int (I a 0)) cell) ∧
  (t = 28 → oO s "java/lang/String" cell ∧ oF s "java/lang/String" "coder" "B" (.int (I a 1)) cell ∧ oF s "java/lang/String" "value" "[B" (va_rf (R a 0)) cell) ∧
  (t = 22 → oT s .int n (fun j => .int (I a j)) cell) ∧ (t = 23 → oT s .byte n (fun j => .int (I a j)) cell) ∧
  (t = 24 → oT s (.object "java/lang/Object") n (fun j => va_rf (R a j)) cell) ∧ (t = 25 → oT s (.object "java/lang/Integer") n (fun j => va_rf (R a j)) cell)
def rc (D : va_G) (s : State) (t n a : Nat) (I : HI) (R : HR) (H : Heap) : Prop :=
  (t < 15 → ∃ r, vwCl[t]? = some r ∧ t_OB a (D.1 t) r.2.2 (D.2 t) H (fun k => fv t k a I R)) ∧
  (t = 20 → ∃ cA, H[a]? = some (arrV cA n (fun j => .int (I a j))) ∧ ArrOfT s cA .int ∧ va_RA s cA .int) ∧
  (∀ u, t = 30 + u → ∃ cA, H[a]? = some (arrV cA n (fun j => va_rf (R a j))) ∧ ArrOfT s cA (eTy u) ∧ va_RA s cA (eTy u)) ∧
  (t = 21 → ∃ cA, H[a]? = some (arrV cA n (fun j => .int (I a j))) ∧ ArrOfT s cA .byte ∧ va_RA s cA .byte ∧ ∀ j, j < n → fits .byte (.int (I a j)) = true) ∧
  (22 ≤ t → t < 30 → ∃ cell, H[a]? = some cell ∧ rcO s t n a I R cell)
def RP (D : va_G) (s : State) (A : Nat → Prop) (sh : HS) (I : HI) (R : HR) (H : Heap) : Prop := ∀ a t n, sh a = some (t, n) → ((t < 22 ∨ 30 ≤ t) → A a) ∧ a < H.size ∧ rc D s t n a I R H
def QF (D : va_G) (A : Nat → Prop) (F : VF) : Array Value → State → Outcome → State → Prop := fun _ s o t => ∃ v sh I R, o = .returned v ∧ F (.inl v) sh I R ∧ RP D t A sh I R t.heap ∧ va_F A s t
def XF (D : va_G) (A : Nat → Prop) (F : VF) : String → State → State → Prop := fun E s t => ∃ sh I R, F (.inr E) sh I R ∧ RP D t A sh I R t.heap ∧ va_F A s t
def lok (mi : Nat) (ls : Array Slot) (L : VL) : Prop := ls.size = mL mi ∧ L.length = mL mi ∧ lv_wf ls ∧ ∀ (i : Nat) (v : Value), L[i]? = some (some v) → ls[i]? = some (.val v) ∧ (v.category = 2 → mHl mi = true)
def CX (l : Launch) (K J : Nat → Nat) (D : va_G) (mi : Nat) (p : Program) (s : State) (m : MethodId) (args : Array Value) (meth : Method) (cd : Code) (A : Nat → Prop) : Prop :=
  p.tables.exec = Jvm.exec ∧ cd.code = mB mi ∧ cd.maxLocals = mL mi ∧ meth.sig.returnType = mRt mi ∧ s.vm.findClass (cN (mC mi)) = some m.cls ∧ (∀ w ∈ wAll, w.before args s = true) ∧ meth.locks = false ∧ (mK mi = 2 → meth.name = "<init>") ∧
  (∀ x ∈ cd.exceptionTable.toList, False) ∧ va_K D vwCl [] s ∧ WB K J A s s.heap ∧ (∀ q, s.heap.size ≤ q → A q) ∧ l.stackTraces = false ∧ True
def MW (l : Launch) (K J : Nat → Nat) : VT := fun mi pc L st sh I R c F => ∀ (D : va_G) (p : Program) (e : Env) (s : State) (m : MethodId) (args : Array Value) (below : List Frame) (meth : Method) (cd : Code) (A : Nat → Prop) (H : Heap) (locs : List Loc) (ls : Array Slot),
  CX l K J D mi p s m args meth cd A → RP D s A sh I R H → lok mi ls L → va_S A s.heap H locs →
  W p l e (mRm mi) s m args below meth cd H locs c.1 c.2 (vx_MQ below (QF D A F) (XF D A F) args s (mCe mi) (mSl mi) A) (F0 m pc ls st)
def prs (L : VL) : List (Nat × Value) := (List.range L.length).filterMap (fun j => match L[j]? with | some (some v) => some (j, v) | _ => none)
theorem prs_mem {L : VL} {j : Nat} {v : Value} : (j, v) ∈ prs L ↔ L[j]? = some (some v) := by
  unfold prs
  rw [List.mem_filterMap]
  constructor
  · rintro ⟨i, -, h⟩
    split at h
    · rename_i w e
      cases h
      exact e
    · cases h
  · intro h
    exact ⟨j, List.mem_range.mpr (List.getElem?_eq_some_iff.mp h).1, by rw [h]⟩
theorem lok_has {mi : Nat} {ls : Array Slot} {L : VL} (h : lok mi ls L) : lv_has ls (mL mi) (prs L) := ⟨h.1, h.2.2.1, fun q hq => (h.2.2.2 q.1 q.2 (prs_mem.mp hq)).1⟩
theorem lok_set {mi i : Nat} {ls ls' : Array Slot} {L : VL} {v : Value} (h : lok mi ls L) (hh : mHl mi = false) (hi : i < L.length) (hc : v.category = 1)
    (g : lv_has ls' (mL mi) ((i, v) :: (prs L).filter (fun q => !(q.1 == i) && !(q.1 + 1 == i && q.2.category == 2)))) : lok mi ls' (L.set i (some v)) := by
  refine ⟨g.1, by rw [List.length_set]; exact h.2.1, g.2.1, fun j w hj => ?_⟩
  by_cases e : j = i
  · subst e
    rw [List.getElem?_set_self hi] at hj
    cases hj
    exact ⟨g.2.2 (j, v) List.mem_cons_self, fun z => by omega⟩
  · rw [List.getElem?_set_ne (Ne.symm e)] at hj
    have h2 := (h.2.2.2 j w hj).2
    refine ⟨g.2.2 (j, w) (List.mem_cons_of_mem _ (List.mem_filter.mpr ⟨prs_mem.mpr hj, ?_⟩)), h2⟩
    have n2 : ¬ w.category = 2 := fun z => by rw [h2 z] at hh; cases hh
    simp [e, n2]
theorem lok_lt {mi i : Nat} {ls : Array Slot} {L : VL} (h : lok mi ls L) (hi : i < L.length) : i < mL mi := by rw [← h.2.1]; exact hi
section SIM
variable {l : Launch} {K J : Nat → Nat} {mi pc n : Nat} {L : VL} {st : List Value} {sh : HS} {I : HI} {R : HR} {c : Nat × Nat} {F : VF} {ins : Instr}
theorem sim_ld {t i : Nat} {v : Value} (hd : decode (mB mi) pc = .ok (ins, n)) (hn : n = iln ins n) (hi : ldI ins = some (t, i)) (hv : L[i]? = some (some v)) (ht : isTy t v = true) (hk : MW l K J mi (pc + n) L (v :: st) sh I R c F) : MW l K J mi pc L st sh I R c F := by
  intro D p e s m args below meth cd A H locs ls C hP hl hS
  have k := hk D p e s m args below meth cd A H locs ls C hP hl hS
  obtain ⟨hx, hb, hml, hr, hown, hts, hlk, hin, hex, hK, hB, hA, htr, hmi⟩ := C
  have hlv := (hl.2.2.2 i v hv).1
  cases ins <;> simp only [ldI, Option.some.injEq, Prod.mk.injEq, reduceCtorEq] at hi <;> obtain ⟨rfl, rfl⟩ := hi <;> simp only [iln] at hn <;> subst hn <;> cases v <;> simp [isTy] at ht
  all_goals first | exact lv_iload_n hx hb hd rfl hlv k | exact lv_iload hx hb hd hlv k | exact lv_aload_n hx hb hd rfl hlv k | exact lv_aload hx hb hd hlv k | exact lv_aload_nN hx hb hd rfl hlv k | exact lv_aloadN hx hb hd hlv k | exact lv_lload_n hx hb hd rfl hlv k | exact lv_lload hx hb hd hlv k
theorem sim_st {t i : Nat} {v : Value} (hd : decode (mB mi) pc = .ok (ins, n)) (hn : n = iln ins n) (hi : stI ins = some (t, i)) (ht : isTy t v = true) (ht2 : t < 2) (hh : mHl mi = false) (hlt : i < L.length) (hk : MW l K J mi (pc + n) (L.set i (some v)) st sh I R c F) : MW l K J mi pc L (v :: st) sh I R c F := by
  intro D p e s m args below meth cd A H locs ls C hP hl hS
  have hc : v.category = 1 := by cases v <;> simp [isTy] at ht <;> first | rfl | (subst ht; omega)
  have k : ∀ ls', lv_has ls' (mL mi) ((i, v) :: (prs L).filter (fun q => !(q.1 == i) && !(q.1 + 1 == i && q.2.category == 2))) → _ := fun ls' g => hk D p e s m args below meth cd A H locs ls' C hP (lok_set hl hh hlt hc g) hS
  obtain ⟨hx, hb, hml, hr, hown, hts, hlk, hin, hex, hK, hB, hA, htr, hmi⟩ := C
  have hlv := lok_has hl
  have hil := lok_lt hl hlt
  cases ins <;> simp only [stI, Option.some.injEq, Prod.mk.injEq, reduceCtorEq] at hi <;> obtain ⟨rfl, rfl⟩ := hi <;> simp only [iln] at hn <;> subst hn <;> cases v <;> simp [isTy] at ht
  all_goals first | exact lv_istore_n hx hb hd rfl hlv hil rfl k | exact lv_istore hx hb hd hlv hil rfl k | exact lv_astore_n hx hb hd rfl hlv hil rfl k | exact lv_astore hx hb hd hlv hil rfl k | exact lv_astore_nN hx hb hd rfl hlv hil rfl k | exact lv_astoreN hx hb hd hlv hil rfl k
theorem sim_iinc {i : Nat} {z : Int} {x : Int32} (hd : decode (mB mi) pc = .ok (.iinc i z, n)) (hn : n = iln (.iinc i z) n) (hv : L[i]? = some (some (.int x))) (hh : mHl mi = false) (hlt : i < L.length) (hk : MW l K J mi (pc + n) (L.set i (some (.int (x + Int32.ofInt z)))) st sh I R c F) : MW l K J mi pc L st sh I R c F := by
  intro D p e s m args below meth cd A H locs ls C hP hl hS
  have k : ∀ ls', lv_has ls' (mL mi) ((i, .int (x + Int32.ofInt z)) :: (prs L).filter (fun q => !(q.1 == i) && !(q.1 + 1 == i && q.2.category == 2))) → _ := fun ls' g => hk D p e s m args below meth cd A H locs ls' C hP (lok_set hl hh hlt rfl g) hS
  obtain ⟨hx, hb, hml, hr, hown, hts, hlk, hin, hex, hK, hB, hA, htr, hmi⟩ := C
  simp only [iln] at hn
  subst hn
  obtain ⟨k0, hk0⟩ := List.getElem?_of_mem (prs_mem.mpr hv)
  exact lv_iinc hx hb hd (lok_has hl) hk0 rfl (lok_lt hl hlt) rfl k
theorem sim_ari {r : List Value} (hd : decode (mB mi) pc = .ok (ins, n)) (hn : n = iln ins n) (hi : ari ins st = some r) (hk : MW l K J mi (pc + n) L r sh I R c F) : MW l K J mi pc L st sh I R c F := by
  intro D p e s m args below meth cd A H locs ls C hP hl hS
  have k := hk D p e s m args below meth cd A H locs ls C hP hl hS
  obtain ⟨hx, hb, hml, hr, hown, hts, hlk, hin, hex, hK, hB, hA, htr, hmi⟩ := C
  unfold ari at hi
  split at hi
  · simp only [iln] at hn; subst hn; split at hi <;> cases hi; exact lv_iadd hx hb hd k
  · simp only [iln] at hn; subst hn; split at hi <;> cases hi; exact lv_isub hx hb hd k
  · simp only [iln] at hn; subst hn; split at hi <;> cases hi; exact lv_imul hx hb hd k
  · simp only [iln] at hn; subst hn; split at hi <;> cases hi; exact lv_iand hx hb hd k
  · simp only [iln] at hn; subst hn; split at hi <;> cases hi; exact lv_ior hx hb hd k
  · simp only [iln] at hn; subst hn; split at hi <;> cases hi; exact lv_ixor hx hb hd k
  · simp only [iln] at hn; subst hn; split at hi <;> cases hi; exact lv_ishl hx hb hd k
  · simp only [iln] at hn; subst hn; split at hi <;> cases hi; exact lv_ishr hx hb hd k
  · simp only [iln] at hn; subst hn; split at hi <;> cases hi; exact lv_iushr hx hb hd rfl k
  · simp only [iln] at hn; subst hn; split at hi <;> cases hi; exact lv_ineg hx hb hd k
  · simp only [iln] at hn; subst hn; split at hi <;> cases hi; exact lv_i2l hx hb hd rfl k
  · simp only [iln] at hn; subst hn; split at hi <;> cases hi; exact lv_i2c hx hb hd rfl k
  · simp only [iln] at hn; subst hn; split at hi <;> cases hi; exact lv_i2d hx hb hd k
  · simp only [iln] at hn; subst hn; split at hi <;> cases hi; exact W.lcmp hx hb hd k
  · simp only [iln] at hn; subst hn; split at hi <;> cases hi <;> exact lv_dup hx hb hd rfl k
  · simp only [iln] at hn; subst hn; split at hi <;> cases hi <;> exact lv_dup2_11 hx hb hd rfl rfl k
  · simp only [iln] at hn; subst hn; split at hi <;> cases hi; exact lv_pop hx hb hd rfl k
  · simp only [iln] at hn; subst hn; cases hi; exact lv_dconst0 hx hb hd k
  · cases hi
theorem sim_bra {b : Bool} {o : Int} {r : List Value} (hd : decode (mB mi) pc = .ok (ins, n)) (hn : n = iln ins n) (hi : bra ins st = some (b, o, r)) (h0 : 0 ≤ (pc : Int) + o) (hk1 : b = true → MW l K J mi ((pc : Int) + o).toNat L r sh I R c F) (hk2 : b = false → MW l K J mi (pc + 3) L r sh I R c F) : MW l K J mi pc L st sh I R c F := by
  intro D p e s m args below meth cd A H locs ls C hP hl hS
  have k1 := fun z => hk1 z D p e s m args below meth cd A H locs ls C hP hl hS
  have k2 := fun z => hk2 z D p e s m args below meth cd A H locs ls C hP hl hS
  have kt : (pc : Int) + o = (((pc : Int) + o).toNat : Int) := (Int.toNat_of_nonneg h0).symm
  obtain ⟨hx, hb, hml, hr, hown, hts, hlk, hin, hex, hK, hB, hA, htr, hmi⟩ := C
  unfold bra at hi
  split at hi
  · simp only [iln] at hn; subst hn; split at hi <;> cases hi; exact lv_if_eq hx hb hd kt (fun z => k1 (decide_eq_true z)) (fun z => k2 (decide_eq_false z))
  · simp only [iln] at hn; subst hn; split at hi <;> cases hi; exact lv_if_ne hx hb hd kt (fun z => k1 (decide_eq_true z)) (fun z => k2 (decide_eq_false (fun q => q z)))
  · simp only [iln] at hn; subst hn; split at hi <;> cases hi; exact lv_if_lt hx hb hd kt (fun z => k1 (decide_eq_true z)) (fun z => k2 (decide_eq_false z))
  · simp only [iln] at hn; subst hn; split at hi <;> cases hi; exact lv_if_ge hx hb hd kt (fun z => k1 (decide_eq_true z)) (fun z => k2 (decide_eq_false z))
  · simp only [iln] at hn; subst hn; split at hi <;> cases hi; exact lv_if_gt hx hb hd kt (fun z => k1 (decide_eq_true z)) (fun z => k2 (decide_eq_false z))
  · simp only [iln] at hn; subst hn; split at hi <;> cases hi; exact lv_if_le hx hb hd kt (fun z => k1 (decide_eq_true z)) (fun z => k2 (decide_eq_false z))
  · simp only [iln] at hn; subst hn; split at hi <;> cases hi; exact lv_icmp_eq hx hb hd kt (fun z => k1 (decide_eq_true z)) (fun z => k2 (decide_eq_false z))
  · simp only [iln] at hn; subst hn; split at hi <;> cases hi; exact lv_icmp_ne hx hb hd kt (fun z => k1 (decide_eq_true z)) (fun z => k2 (decide_eq_false (fun q => q z)))
  · simp only [iln] at hn; subst hn; split at hi <;> cases hi; exact lv_icmp_lt hx hb hd kt (fun z => k1 (decide_eq_true z)) (fun z => k2 (decide_eq_false z))
  · simp only [iln] at hn; subst hn; split at hi <;> cases hi; exact lv_icmp_ge hx hb hd kt (fun z => k1 (decide_eq_true z)) (fun z => k2 (decide_eq_false z))
  · simp only [iln] at hn; subst hn; split at hi <;> cases hi; exact lv_icmp_gt hx hb hd kt (fun z => k1 (decide_eq_true z)) (fun z => k2 (decide_eq_false z))
  · simp only [iln] at hn; subst hn; split at hi <;> cases hi; exact lv_icmp_le hx hb hd kt (fun z => k1 (decide_eq_true z)) (fun z => k2 (decide_eq_false z))
  · cases hi
theorem sim_goto {o : Int} (hd : decode (mB mi) pc = .ok (.goto o, n)) (hn : n = iln (.goto o) n) (h0 : 0 ≤ (pc : Int) + o) (hk : MW l K J mi ((pc : Int) + o).toNat L st sh I R c F) : MW l K J mi pc L st sh I R c F := by
  intro D p e s m args below meth cd A H locs ls C hP hl hS
  have k := hk D p e s m args below meth cd A H locs ls C hP hl hS
  obtain ⟨hx, hb, hml, hr, hown, hts, hlk, hin, hex, hK, hB, hA, htr, hmi⟩ := C
  simp only [iln] at hn
  subst hn
  exact lv_goto hx hb hd (Int.toNat_of_nonneg h0).symm k
theorem sim_tab {d lo hi o : Int} {offs : Array Int} {x : Int32} (hd : decode (mB mi) pc = .ok (.tableswitch d lo hi offs, n)) (ho : swO (.tableswitch d lo hi offs) x = some o) (h0 : 0 ≤ (pc : Int) + o) (hk : MW l K J mi ((pc : Int) + o).toNat L st sh I R c F) : MW l K J mi pc L (.int x :: st) sh I R c F := by
  intro D p e s m args below meth cd A H locs ls C hP hl hS
  have k := hk D p e s m args below meth cd A H locs ls C hP hl hS
  obtain ⟨hx, hb, hml, hr, hown, hts, hlk, hin, hex, hK, hB, hA, htr, hmi⟩ := C
  simp only [swO] at ho
  by_cases hc : x.toInt < lo ∨ hi < x.toInt
  · rw [if_pos hc] at ho
    cases ho
    exact lv_tableOut hx hb hd hc (Int.toNat_of_nonneg h0).symm k
  · rw [if_neg hc] at ho
    exact lv_tableIn hx hb hd (fun z => hc (Or.inl z)) (fun z => hc (Or.inr z)) ho (Int.toNat_of_nonneg h0).symm k
theorem sim_lkp {d o : Int} {ps : Array (Int × Int)} {x : Int32} (hd : decode (mB mi) pc = .ok (.lookupswitch d ps, n)) (ho : swO (.lookupswitch d ps) x = some o) (h0 : 0 ≤ (pc : Int) + o) (hk : MW l K J mi ((pc : Int) + o).toNat L st sh I R c F) : MW l K J mi pc L (.int x :: st) sh I R c F := by
  intro D p e s m args below meth cd A H locs ls C hP hl hS
  have k := hk D p e s m args below meth cd A H locs ls C hP hl hS
  obtain ⟨hx, hb, hml, hr, hown, hts, hlk, hin, hex, hK, hB, hA, htr, hmi⟩ := C
  simp only [swO] at ho
  split at ho
  · rename_i hc
    cases ho
    exact lv_lookup hx hb hd hc rfl (Int.toNat_of_nonneg h0).symm k
  · cases ho
theorem sim_idiv {x y : Int32} (hd : decode (mB mi) pc = .ok (.idiv, n)) (hn : n = iln .idiv n) (h0 : ¬ y = 0) (hk : MW l K J mi (pc + n) L (.int (x / y) :: st) sh I R c F) : MW l K J mi pc L (.int y :: .int x :: st) sh I R c F := by
  intro D p e s m args below meth cd A H locs ls C hP hl hS
  have k := hk D p e s m args below meth cd A H locs ls C hP hl hS
  obtain ⟨hx, hb, hml, hr, hown, hts, hlk, hin, hex, hK, hB, hA, htr, hmi⟩ := C
  simp only [iln] at hn
  subst hn
  exact lv_idiv hx hb hd h0 k
theorem sim_irem {x y : Int32} (hd : decode (mB mi) pc = .ok (.irem, n)) (hn : n = iln .irem n) (h0 : ¬ y = 0) (hk : MW l K J mi (pc + n) L (.int (x - x / y * y) :: st) sh I R c F) : MW l K J mi pc L (.int y :: .int x :: st) sh I R c F := by
  intro D p e s m args below meth cd A H locs ls C hP hl hS
  have k := hk D p e s m args below meth cd A H locs ls C hP hl hS
  obtain ⟨hx, hb, hml, hr, hown, hts, hlk, hin, hex, hK, hB, hA, htr, hmi⟩ := C
  simp only [iln] at hn
  subst hn
  exact lv_irem hx hb hd h0 k
theorem sim_ddiv {x y : UInt64} (hd : decode (mB mi) pc = .ok (.ddiv, n)) (hn : n = iln .ddiv n) (h0 : vf_n64 (FP.ddiv x y)) (hk : MW l K J mi (pc + n) L (.double (FP.ddiv x y) :: st) sh I R c F) : MW l K J mi pc L (.double y :: .double x :: st) sh I R c F := by
  intro D p e s m args below meth cd A H locs ls C hP hl hS
  have k := hk D p e s m args below meth cd A H locs ls C hP hl hS
  obtain ⟨hx, hb, hml, hr, hown, hts, hlk, hin, hex, hK, hB, hA, htr, hmi⟩ := C
  simp only [iln] at hn
  subst hn
  exact lv_ddiv hx hb hd h0 k
end SIM
end
section
/-! the heap's instructions -/
theorem lkm {β : Type} : ∀ (T : List (Nat × β)) (k : Nat) (v : β), T.lookup k = some v → (k, v) ∈ T
  | [], _, _, h => by simp at h
  | (a, b) :: T, k, v, h => by
    rw [List.lookup_cons] at h
    split at h
    · rename_i e
      have e2 : k = a := by simpa using e
      cases h
      rw [e2]
      exact List.mem_cons_self
    · exact List.mem_cons_of_mem _ (lkm T k v h)
theorem lk2m {β : Type} {T : List (Nat × β)} {k ix : Nat} {v : β} (h : lk2 T k ix = some v) : (k * 10000 + ix, v) ∈ T ∧ (k * 10000 + ix) / 10000 = k ∧ (k * 10000 + ix) % 10000 = ix := by
  unfold lk2 at h
  split at h
  · exact ⟨lkm _ _ _ h, by omega, by omega⟩
  · cases h
def isD (d : String) (ty : Nat) : Bool := match ty with
  | 0 => d == "I"
  | 1 => d == "Z"
  | 3 => d == "B"
  | _ => !(d == "I" || (d == "Z" || d == "B")) && (match parseFieldDescriptor d with | some (.object _) => true | some (.array _) => true | _ => false)
def fchk (q : Nat × Nat × Nat × Nat × Nat) : Bool :=
  if q.2.1 < 15 then (match vwCl[q.2.1]? with
    | some r => decide (q.2.2.1 < r.2.2) && (decide (lw_tb2[q.2.2.2.2]? = some (.fieldLink (cN (q.1 / 10000)) (q.1 % 10000) (r.2.1 q.2.2.1).1 (r.2.1 q.2.2.1).2.1 (r.2.1 q.2.2.1).2.2.1)) && (isD (r.2.1 q.2.2.1).2.2.1 q.2.2.2.1 && (!(r.2.1 q.2.2.1).2.2.2 || decide ((r.2.1 q.2.2.1).1 = cN q.2.1))))
    | none => false)
  else if q.2.1 = 20 then decide (lw_tb2[q.2.2.2.2]? = some (.fieldLink (cN (q.1 / 10000)) (q.1 % 10000) "java/lang/String" "value" "[B"))
  else if q.2.1 = 21 then decide (lw_tb2[q.2.2.2.2]? = some (.fieldLink (cN (q.1 / 10000)) (q.1 % 10000) "java/lang/String" "coder" "B"))
  else true
theorem fL_ok : fL.all fchk = true := by decide +kernel
def gchk (q : Nat × Nat × Nat) : Bool := match q.2.1 with
  | 0 => decide (lw_tb2[q.2.2]? = some (.fieldLink (cN (q.1 / 10000)) (q.1 % 10000) "java/lang/String" "COMPACT_STRINGS" "Z"))
  | _ => decide (lw_tb2[q.2.2]? = some (.fieldLink (cN (q.1 / 10000)) (q.1 % 10000) "jdk/internal/util/Preconditions" "SIOOBE_FORMATTER" "Ljava/util/function/BiFunction;"))
theorem gL_ok : gL.all gchk = true := by decide +kernel
def nchk (q : Nat × Nat × Nat × Nat × Nat) : Bool := match vwCl[q.2.1]? with
  | some r => decide (lw_tb2[q.2.2.1]? = some (.classLink (cN (q.1 / 10000)) (q.1 % 10000) r.1)) && (decide (lw_tb2[q.2.2.2.1]? = some (.instantiable r.1 r.2.2)) && decide (lw_tb2[q.2.2.2.2]? = some (.initialized r.1)))
  | none => false
theorem nL_ok : nL.all nchk = true := by decide +kernel
theorem iL_ok : iL.all (fun q => decide (lw_tb2[q.2.2]? = some (.constant (cN (q.1 / 10000)) (q.1 % 10000) q.2.1))) = true := by decide +kernel
theorem lL_ok : lL.all (fun q => decide (lw_tb2[q.2.2]? = some (.constantLong (cN (q.1 / 10000)) (q.1 % 10000) q.2.1))) = true := by decide +kernel
def cFl (t : Nat) : List Cond := ((vwCl[t]?).map (fun r => u_ws r.1 r.2.1 r.2.2)).getD []
theorem cls_in : ((List.range 15).all fun t => (cFl t).all fun w => goodWord w && lw_tb2.contains w) = true := by decide +kernel
theorem cls_inA {t : Nat} {r : vw_C} (hr : vwCl[t]? = some r) : ∀ w ∈ u_ws r.1 r.2.1 r.2.2, w ∈ wAll := by
  intro w hw
  have ht : t < 15 := (List.getElem?_eq_some_iff.mp hr).1
  have h := List.all_eq_true.mp cls_in t (List.mem_range.mpr ht)
  have e : cFl t = u_ws r.1 r.2.1 r.2.2 := by unfold cFl; rw [hr]; rfl
  rw [e] at h
  have h2 := List.all_eq_true.mp h w hw
  simp only [Bool.and_eq_true] at h2
  exact List.mem_filter.mpr ⟨by simpa using h2.2, h2.1⟩
def tyc (t k : Nat) : FieldType := ((vwCl[t]?).bind (fun r => parseFieldDescriptor (r.2.1 k).2.2.1)).getD .int
theorem tyc_okB : ((List.range 15).all fun t => (List.range (fN t)).all fun k => ((vwCl[t]?).bind (fun r => parseFieldDescriptor (r.2.1 k).2.2.1)).isSome) = true := by decide +kernel
theorem tyc_ok {t : Nat} {r : vw_C} (hr : vwCl[t]? = some r) : ∀ k, k < r.2.2 → parseFieldDescriptor (r.2.1 k).2.2.1 = some (tyc t k) := by
  intro k hk
  have ht : t < 15 := (List.getElem?_eq_some_iff.mp hr).1
  have h := List.all_eq_true.mp tyc_okB t (List.mem_range.mpr ht)
  have e : fN t = r.2.2 := by unfold fN; rw [hr]; rfl
  rw [e] at h
  have h2 := List.all_eq_true.mp h k (List.mem_range.mpr hk)
  unfold tyc
  rw [hr] at h2 ⊢
  simp only [Option.bind_some] at h2 ⊢
  obtain ⟨z, hz⟩ := Option.isSome_iff_exists.mp h2
  rw [hz]
  rfl
theorem nmc_okB : ((List.range 15).all fun t => (List.range (fN t)).all fun a => (List.range (fN t)).all fun b => a == b || (match vwCl[t]? with | some r => !((r.2.1 a).2.1 == (r.2.1 b).2.1) | none => true)) = true := by decide +kernel
theorem nmc_ok {t : Nat} {r : vw_C} (hr : vwCl[t]? = some r) : ∀ a, a < r.2.2 → ∀ b, b < r.2.2 → a ≠ b → (r.2.1 a).2.1 ≠ (r.2.1 b).2.1 := by
  intro a ha b hb hab
  have ht : t < 15 := (List.getElem?_eq_some_iff.mp hr).1
  have h := List.all_eq_true.mp nmc_okB t (List.mem_range.mpr ht)
  have e : fN t = r.2.2 := by unfold fN; rw [hr]; rfl
  rw [e] at h
  have h2 := List.all_eq_true.mp (List.all_eq_true.mp h a (List.mem_range.mpr ha)) b (List.mem_range.mpr hb)
  rw [hr] at h2
  simpa [hab] using h2
end
section
theorem u2_off {α : Type} {f : Nat → Nat → α} {a k b : Nat} {x : α} (h : b ≠ a) (j : Nat) : u2 f a k x b j = f b j := by simp [u2, h]
theorem u2_on {α : Type} {f : Nat → Nat → α} {a k : Nat} {x : α} (j : Nat) : u2 f a k x a j = if j = k then x else f a j := by simp [u2]
theorem rcO_of {s : State} {t n b : Nat} {I I' : HI} {R R' : HR} {cell : Cell} (h : rcO s t n b I R cell) (hI : ∀ j, I' b j = I b j) (hR : ∀ j, R' b j = R b j) : rcO s t n b I' R' cell := by
  unfold rcO at h ⊢
  simp only [hI, hR]
  exact h
theorem oF_moved {s U : State} {o n d : String} {v : Value} {cell : Cell} (hvm : s.vm.Alike U.vm) (h : oF s o n d v cell) : oF U o n d v cell := by
  obtain ⟨cf, k, i, f, h1, h2⟩ := h
  obtain ⟨k', hi', -⟩ := State.fieldFound?_setVm hvm h1
  exact ⟨cf, k', i, f, hi', h2⟩
theorem oT_moved {s U : State} {ty : FieldType} {n : Nat} {f : Nat → Value} {cell : Cell} (hvm : s.vm.Alike U.vm) (h : oT s ty n f cell) : oT U ty n f cell := ⟨State.isArrayOf_alike hvm h.1, h.2⟩
theorem oO_moved {s U : State} {E : String} {cell : Cell} (hvm : s.vm.Alike U.vm) (h : oO s E cell) : oO U E cell := ⟨h.1, by rw [hvm.findClass]; exact h.2⟩
theorem rcO_moved {s U : State} {t n b : Nat} {I : HI} {R : HR} {cell : Cell} (hvm : s.vm.Alike U.vm) (h : rcO s t n b I R cell) : rcO U t n b I R cell := by
  obtain ⟨h1, h2, h3, h4, h5, h6⟩ := h
  exact ⟨fun z => ⟨oO_moved hvm (h1 z).1, oF_moved hvm (h1 z).2⟩, fun z => ⟨oO_moved hvm (h2 z).1, oF_moved hvm (h2 z).2.1, oF_moved hvm (h2 z).2.2⟩, fun z => oT_moved hvm (h3 z), fun z => oT_moved hvm (h4 z), fun z => oT_moved hvm (h5 z), fun z => oT_moved hvm (h6 z)⟩
theorem rc_off {D : va_G} {s : State} {t n b : Nat} {I I' : HI} {R R' : HR} {H H' : Heap} (h : rc D s t n b I R H) (hH : H'[b]? = H[b]?) (hI : ∀ j, I' b j = I b j) (hR : ∀ j, R' b j = R b j) : rc D s t n b I' R' H' := by
  obtain ⟨h1, h2, h3, h4, h5⟩ := h
  refine ⟨fun ht => ?_, fun ht => ?_, fun u hu => ?_, fun ht => ?_, fun ht ht2 => ?_⟩
  · obtain ⟨r, hr, ho⟩ := h1 ht
    exact ⟨r, hr, (ho.kept hH).to (fun k _ => by simp only [fv, hI, hR])⟩
  · obtain ⟨cA, g1, g2⟩ := h2 ht
    exact ⟨cA, by rw [hH, g1]; congr 2; funext j; rw [hI], g2⟩
  · obtain ⟨cA, g2, g3⟩ := h3 u hu
    exact ⟨cA, by rw [hH, g2]; congr 2; funext j; rw [hR], g3⟩
  · obtain ⟨cA, g1, g2, g3, g4⟩ := h4 ht
    exact ⟨cA, by rw [hH, g1]; congr 2; funext j; rw [hI], g2, g3, fun j hj => by rw [hI]; exact g4 j hj⟩
  · obtain ⟨cell, g1, g2⟩ := h5 ht ht2
    exact ⟨cell, by rw [hH, g1], rcO_of g2 hI hR⟩
theorem rc_moved {D : va_G} {s U : State} {t n b : Nat} {I : HI} {R : HR} {H : Heap} (hvm : s.vm.Alike U.vm) (h : rc D s t n b I R H) : rc D U t n b I R H := by
  obtain ⟨h1, h2, h3, h4, h5⟩ := h
  refine ⟨h1, fun ht => ?_, fun u hu => ?_, fun ht => ?_, fun ht ht2 => ?_⟩
  · obtain ⟨cA, g1, g2, g3⟩ := h2 ht
    exact ⟨cA, g1, arrOfT_moved hvm g2, g3.moved hvm⟩
  · obtain ⟨cA, g2, g3, g4⟩ := h3 u hu
    exact ⟨cA, g2, arrOfT_moved hvm g3, g4.moved hvm⟩
  · obtain ⟨cA, g1, g2, g3, g4⟩ := h4 ht
    exact ⟨cA, g1, arrOfT_moved hvm g2, g3.moved hvm, g4⟩
  · obtain ⟨cell, g1, g2⟩ := h5 ht ht2
    exact ⟨cell, g1, rcO_moved hvm g2⟩
theorem RP.moved {D : va_G} {s U : State} {A : Nat → Prop} {sh : HS} {I : HI} {R : HR} {H : Heap} (hvm : s.vm.Alike U.vm) (h : RP D s A sh I R H) : RP D U A sh I R H := fun a t n q => ⟨(h a t n q).1, (h a t n q).2.1, rc_moved hvm (h a t n q).2.2⟩
/-- one cell is written -/
theorem RP.put {D : va_G} {s : State} {A : Nat → Prop} {sh : HS} {I I' : HI} {R R' : HR} {H H' : Heap} {a t n : Nat} (h : RP D s A sh I R H) (ha : sh a = some (t, n)) (hz : H'.size = H.size) (oq : ∀ q : Nat, q ≠ a → H'[q]? = H[q]?) (hI : ∀ b j, b ≠ a → I' b j = I b j) (hR : ∀ b j, b ≠ a → R' b j = R b j) (hc : rc D s t n a I' R' H') : RP D s A sh I' R' H' := by
  intro b t' n' hb
  obtain ⟨h1, h2, h3⟩ := h b t' n' hb
  refine ⟨h1, by rw [hz]; exact h2, ?_⟩
  by_cases e : b = a
  · subst e
    cases ha.symm.trans hb
    exact hc
  · exact rc_off h3 (oq b e) (fun j => hI b j e) (fun j => hR b j e)
/-- every link to a field, however it is reached -/
def fxchk (q : Nat × Nat × Nat × Nat × Nat × Nat) : Bool := match vwCl[q.2.1]? with
  | some r => decide (q.2.2.1 < r.2.2) && (isD (r.2.1 q.2.2.1).2.2.1 q.2.2.2.1 && ((!(r.2.1 q.2.2.1).2.2.2 || decide ((r.2.1 q.2.2.1).1 = cN q.2.1)) && (match q.2.2.2.2.2 with
    | 0 => decide (lw_tb2[q.2.2.2.2.1]? = some (.fieldLink (cN (q.1 / 10000)) (q.1 % 10000) (r.2.1 q.2.2.1).1 (r.2.1 q.2.2.1).2.1 (r.2.1 q.2.2.1).2.2.1))
    | 1 => true
    | _ => decide (lw_tb2[q.2.2.2.2.1]? = some (.fieldLink (cN (q.1 / 10000)) (q.1 % 10000) (cN q.2.1) (r.2.1 q.2.2.1).2.1 (r.2.1 q.2.2.1).2.2.1)) && lw_tb2.contains (.sameField (cN q.2.1) (r.2.1 q.2.2.1).1 (r.2.1 q.2.2.1).2.1 (r.2.1 q.2.2.1).2.2.1))))
  | none => false
theorem fX_ok : fX.all fxchk = true := by decide +kernel
theorem fL_in : fL.all (fun q => decide (15 ≤ q.2.1) || decide (lk2 fX (q.1 / 10000) (q.1 % 10000) = some (q.2.1, q.2.2.1, q.2.2.2.1, q.2.2.2.2, 0))) = true := by decide +kernel
theorem fl_fx {c ix t k ty pos : Nat} (h : lk2 fL c ix = some (t, k, ty, pos)) (ht : t < 15) : lk2 fX c ix = some (t, k, ty, pos, 0) := by
  obtain ⟨h1, h2, h3⟩ := lk2m h
  have := List.all_eq_true.mp fL_in _ h1
  simp only [h2, h3, Bool.or_eq_true, decide_eq_true_eq] at this
  rcases this with q | q
  · omega
  · exact q
/-- how a field is linked from a method of class c -/
def LKD (s : State) (args : Array Value) (c ix : Nat) (r : vw_C) (k : Nat) : Prop :=
  ∃ ref : String, (∀ x, s.fieldFound? (r.2.1 k).1 (r.2.1 k).2.1 (r.2.1 k).2.2.1 = some x → s.fieldFound? ref (r.2.1 k).2.1 (r.2.1 k).2.2.1 = some x) ∧
    ((Cond.fieldLink (cN c) ix ref (r.2.1 k).2.1 (r.2.1 k).2.2.1).before args s = true ∨ ∃ host : String, (Cond.fieldLinkNest (cN c) ix ref (r.2.1 k).2.1 (r.2.1 k).2.2.1 host).before args s = true)
theorem fx_at {K J : Nat → Nat} {A : Nat → Prop} {s : State} {args : Array Value} {H : Heap} (hts : ∀ w ∈ wAll, w.before args s = true) (hB : WB K J A s H) {c ix t k ty pos md : Nat} (h : lk2 fX c ix = some (t, k, ty, pos, md)) : ∃ r, vwCl[t]? = some r ∧ k < r.2.2 ∧ isD (r.2.1 k).2.2.1 ty = true ∧ ((r.2.1 k).2.2.2 = true → (r.2.1 k).1 = cN t) ∧ LKD s args c ix r k ∧ (md = 0 → (Cond.fieldLink (cN c) ix (r.2.1 k).1 (r.2.1 k).2.1 (r.2.1 k).2.2.1).before args s = true) := by
  obtain ⟨h1, h2, h3⟩ := lk2m h
  have h4 := List.all_eq_true.mp fX_ok _ h1
  have hn : md = 1 → va_Nw (fxN (c * 10000 + ix, t, k, ty, pos, md)) s := fun z => hB.2.2.2.2.2.2.2.2.2.2.1 _ h1 z
  unfold fxN at hn
  unfold fxchk at h4
  simp only [h2, h3] at h4 hn
  cases hr : vwCl[t]? with
  | none => rw [hr] at h4; cases h4
  | some r =>
    rw [hr] at h4 hn
    simp only [Bool.and_eq_true, decide_eq_true_eq] at h4 hn
    obtain ⟨g1, g2, g3, g4⟩ := h4
    refine ⟨r, rfl, g1, g2, fun z => by simpa [z] using g3, ?_, fun z => ?_⟩
    · split at g4
      · simp only [decide_eq_true_eq] at g4
        exact ⟨_, fun _ z => z, Or.inl (hts _ (wAll_at g4 rfl))⟩
      · exact ⟨_, fun _ z => z, Or.inr ⟨_, va_Nw.use rfl (hn rfl)⟩⟩
      · simp only [Bool.and_eq_true, decide_eq_true_eq] at g4
        refine ⟨_, fun x hx => u_same (args := args) (hts _ ?_) x hx, Or.inl (hts _ (wAll_at g4.1 rfl))⟩
        exact List.mem_filter.mpr ⟨by simpa using g4.2, rfl⟩
    · subst z
      simp only [decide_eq_true_eq] at g4
      exact hts _ (wAll_at g4 rfl)
section SIM
variable {l : Launch} {K J : Nat → Nat} {mi pc n : Nat} {L : VL} {st : List Value} {sh : HS} {I : HI} {R : HR} {c : Nat × Nat} {F : VF} {ins : Instr}
theorem isD_fT {t k ty : Nat} {r : vw_C} (hr : vwCl[t]? = some r) (h : isD (r.2.1 k).2.2.1 ty = true) (a : Nat) (I : HI) (R : HR) : fv t k a I R = if ty = 0 ∨ ty = 1 ∨ ty = 3 then .int (I a k) else va_rf (R a k) := by
  unfold fv fT
  rw [hr]
  simp only [Option.map_some, Option.getD_some]
  unfold isD at h
  split at h
  · have e : (r.2.1 k).2.2.1 = "I" := by simpa using h
    simp [e]
  · have e : (r.2.1 k).2.2.1 = "Z" := by simpa using h
    simp [e]
  · have e : (r.2.1 k).2.2.1 = "B" := by simpa using h
    simp [e]
  · rename_i z0 z1 z3
    simp only [Bool.and_eq_true] at h
    rw [if_pos h.1, if_neg (fun q => by rcases q with q | q | q; exact z0 q; exact z1 q; exact z3 q)]
theorem sim_getG {ix t k ty pos md a : Nat} (hd : decode (mB mi) pc = .ok (.getfield ix, n)) (hn : n = iln (.getfield ix) n) (hf : lk2 fX (mC mi) ix = some (t, k, ty, pos, md)) (ho : ∃ m, sh a = some (t, m)) (ht : t < 15)
    (hk : MW l K J mi (pc + 3) L ((if ty = 0 ∨ ty = 1 ∨ ty = 3 then .int (I a k) else va_rf (R a k)) :: st) sh I R c F) : MW l K J mi pc L (.ref a :: st) sh I R c F := by
  intro D p e s m args below meth cd A H locs ls C hP hl hS
  have kk := hk D p e s m args below meth cd A H locs ls C hP hl hS
  obtain ⟨hx, hb, hml, hr, hown, hts, hlk, hin, hex, hK, hB, hA, htr, hmi⟩ := C
  simp only [iln] at hn
  subst hn
  obtain ⟨r, hr0, hk0, hD, hfin, ⟨ref, hsame, hlink⟩, -⟩ := fx_at (args := args) hts hB hf
  obtain ⟨m0, hm0⟩ := ho
  obtain ⟨r', hr', cell, q1, q2, q3, q4⟩ := (hP a t m0 hm0).2.2.1 ht
  cases hr0.symm.trans hr'
  obtain ⟨hSl, hfc, kC, hkC, hkind⟩ := hK.1 t r hr0
  obtain ⟨cf, kf, fi, f, hi, hsl⟩ := hSl k hk0
  have hst := (u_facts hfc hkC (u_lays hts (cls_inA hr0) hk0) hi).1
  have hv : cell.slots[f.slot]? = some (if ty = 0 ∨ ty = 1 ∨ ty = 3 then .int (I a k) else va_rf (R a k)) := by
    rw [hsl, q4 k hk0]
    exact congrArg some (isD_fT hr0 hD a I R)
  have hkn : cell.vm ≠ .unknown := by rw [q3]; exact fun h => by cases h
  rcases hlink with hl1 | ⟨host, hl1⟩
  · exact W.getf hx hb hown hl1 (hsame _ hi) hst q1 hkn hv rfl rfl hd kk
  · exact va_Wgetf hx hb hown hl1 (hsame _ hi) hst q1 hkn hv rfl rfl hd kk
theorem sim_get {ix t k ty pos a : Nat} (hd : decode (mB mi) pc = .ok (.getfield ix, n)) (hn : n = iln (.getfield ix) n) (hf : lk2 fL (mC mi) ix = some (t, k, ty, pos)) (ho : ∃ m, sh a = some (t, m)) (ht : t < 15) (hty : ty < 3)
    (hk : MW l K J mi (pc + 3) L ((if ty = 2 then va_rf (R a k) else .int (I a k)) :: st) sh I R c F) : MW l K J mi pc L (.ref a :: st) sh I R c F := by
  refine sim_getG hd hn (fl_fx hf ht) ho ht ?_
  by_cases h : ty = 2
  · rw [if_pos h] at hk
    rw [if_neg (by omega)]
    exact hk
  · rw [if_neg h] at hk
    rw [if_pos (by omega)]
    exact hk
theorem sim_putG {ix t k ty pos md a : Nat} {v : Value} {I' : HI} {R' : HR} (hd : decode (mB mi) pc = .ok (.putfield ix, n)) (hn : n = iln (.putfield ix) n) (hf : lk2 fX (mC mi) ix = some (t, k, ty, pos, md)) (ho : ∃ m, sh a = some (t, m)) (hfi : fF t k = true → (mK mi = 2 ∧ mC mi = t) ∧ md = 0) (ht : t < 15)
    (hv : (∃ x, v = .int x ∧ (ty = 0 ∨ ty = 1 ∨ ty = 3) ∧ (ty = 1 → x = 0 ∨ x = 1) ∧ (ty = 3 → x.toInt8.toInt32 = x) ∧ I' = u2 I a k x ∧ R' = R) ∨ (∃ x, v = va_rf x ∧ ty = 2 ∧ I' = I ∧ R' = u2 R a k x))
    (hk : MW l K J mi (pc + 3) L st sh I' R' c F) : MW l K J mi pc L (v :: .ref a :: st) sh I R c F := by
  intro D p e s m args below meth cd A H locs ls C hP hl hS
  have kk := fun H1 locs1 => hk D p e s m args below meth cd A H1 locs1 ls C
  obtain ⟨hx, hb, hml, hr, hown, hts, hlk, hin, hex, hK, hB, hA, htr, hmi⟩ := C
  simp only [iln] at hn
  subst hn
  obtain ⟨r, hr0, hk0, hD, hfin, ⟨ref, hsame, hlink⟩, hl0⟩ := fx_at (args := args) hts hB hf
  obtain ⟨m0, hm0⟩ := ho
  obtain ⟨haA, hasz, hrc⟩ := hP a t m0 hm0
  have haA := haA (by omega)
  obtain ⟨r', hr', cell, q1, q2, q3, q4⟩ := hrc.1 ht
  cases hr0.symm.trans hr'
  have hap := va_apart (own := cN (mC mi)) hts (cls_inA hr0) (tyc t) (tyc_ok hr0) (nmc_ok hr0) hK (by rw [hr0])
  obtain ⟨hSl, hfc, kC, hkC, hkind⟩ := hK.1 t r hr0
  obtain ⟨cf, kf, fi, f, hi, hsl⟩ := hSl k hk0
  have hpt := tyc_ok hr0 k hk0
  have hnf : narrow (tyc t k) v = v ∧ fits (tyc t k) v = true := by
    unfold isD at hD
    split at hD
    · have e : (r.2.1 k).2.2.1 = "I" := by simpa using hD
      rw [e, show parseFieldDescriptor "I" = some .int by decide +kernel] at hpt
      rw [← Option.some.inj hpt]
      rcases hv with ⟨x, rfl, -⟩ | ⟨x, rfl, h2, -⟩
      · exact ⟨rfl, rfl⟩
      · cases h2
    · have e : (r.2.1 k).2.2.1 = "Z" := by simpa using hD
      rw [e, show parseFieldDescriptor "Z" = some .boolean by decide +kernel] at hpt
      rw [← Option.some.inj hpt]
      rcases hv with ⟨x, rfl, -, h2, -⟩ | ⟨x, rfl, h2, -⟩
      · rcases h2 rfl with rfl | rfl <;> exact ⟨by decide +kernel, by decide +kernel⟩
      · cases h2
    · have e : (r.2.1 k).2.2.1 = "B" := by simpa using hD
      rw [e, show parseFieldDescriptor "B" = some .byte by decide +kernel] at hpt
      rw [← Option.some.inj hpt]
      rcases hv with ⟨x, rfl, -, -, h2, -⟩ | ⟨x, rfl, h2, -⟩
      · have h3 := h2 rfl
        have h4 : narrow .byte (.int x) = .int x := by rw [narrow_byte, h3]
        exact ⟨h4, by have := fits_narrow_byte x; rwa [h4] at this⟩
      · cases h2
    · rename_i z0 z1 z3
      simp only [Bool.and_eq_true, hpt] at hD
      rcases hv with ⟨x, rfl, h2, -⟩ | ⟨x, rfl, h2, -⟩
      · exfalso
        rcases h2 with q | q | q
        · exact z0 q
        · exact z1 q
        · exact z3 q
      · have h3 := hD.2
        revert h3
        generalize tyc t k = z
        intro h3
        cases x <;> cases z <;> first | exact ⟨rfl, rfl⟩ | cases h3
  have fin : ∀ H' : Heap, H'[a]? = some (cell.setSlot f.slot v) → H'.size = H.size → (∀ q, q ≠ a → H'[q]? = H[q]?) → W p l e (mRm mi) s m args below meth cd H' (locs ++ [⟨a, f.slot⟩]) c.1 c.2 (vx_MQ below (QF D A F) (XF D A F) args s (mCe mi) (mSl mi) A) (F0 m (pc + 3) ls st) := by
    intro H' e1 e2 e3
    rw [hsl] at e1
    refine kk H' _ (hP.put hm0 e2 e3 ?_ ?_ ⟨fun _ => ⟨r, hr0, t_OB.to (V := updV (fun j => fv t j a I R) k v) ⟨_, e1, q2, q3, t_set q4 hap hk0 v⟩ ?_⟩, fun z => by omega, fun u z => by omega, fun z => by omega, fun z z2 => by omega⟩) hl (hS.put e2 e3 haA)
    · intro b j hb0
      rcases hv with ⟨x, -, -, -, -, rfl, -⟩ | ⟨x, -, -, rfl, -⟩
      · exact u2_off hb0 j
      · rfl
    · intro b j hb0
      rcases hv with ⟨x, -, -, -, -, -, rfl⟩ | ⟨x, -, -, -, rfl⟩
      · rfl
      · exact u2_off hb0 j
    · intro j hj
      unfold updV
      by_cases ej : j = k
      · subst ej
        rw [if_pos rfl, isD_fT hr0 hD]
        rcases hv with ⟨x, rfl, h2, -, -, rfl, -⟩ | ⟨x, rfl, h2, -, rfl⟩
        · rw [if_pos h2, u2_on, if_pos rfl]
        · rw [if_neg (by omega), u2_on, if_pos rfl]
      · rw [if_neg ej]
        rcases hv with ⟨x, -, -, -, -, rfl, rfl⟩ | ⟨x, -, -, rfl, rfl⟩
        · simp only [fv, u2_on, if_neg ej]
        · simp only [fv, u2_on, if_neg ej]
  by_cases hfn : (r.2.1 k).2.2.2 = true
  · have hlay : (Cond.laysFinal r.1 (r.2.1 k).1 (r.2.1 k).2.1 (r.2.1 k).2.2.1).before args s = true := by
      have h := hts _ (cls_inA hr0 _ (u_in_lay hk0))
      unfold u_lay at h
      rwa [if_pos hfn] at h
    have hst := (u_facts hfc hkC (u_lays hts (cls_inA hr0) hk0) hi).1
    obtain ⟨⟨hk2, hc2⟩, hmd⟩ := hfi (by unfold fF; rw [hr0]; exact hfn)
    have hcf : m.cls = cf := by
      obtain ⟨_, _, c', _, _, _, -, -, hf', -, -, -, hown2, -⟩ := Cond.laysFinal_spec hlay
      have e1 : c' = cf := by have := hi.symm.trans hf'; simp at this; exact this.1.symm
      rw [hfin hfn, ← hc2] at hown2
      rw [← e1]; exact Option.some.inj (hown.symm.trans hown2)
    have h6 := u_fits hfc hkC hkind (Or.inr hlay) hi hpt hnf.1 hnf.2
    exact W.putFinK hx hb hown (hl0 hmd) hi hst hcf (hin hk2) (by rw [q2]; exact h6) q1 q3 (by rw [hsl]; exact k2_hasslot (q4 k hk0)) rfl rfl hd fin
  · have hlay : (Cond.lays r.1 (r.2.1 k).1 (r.2.1 k).2.1 (r.2.1 k).2.2.1).before args s = true := by
      have h := hts _ (cls_inA hr0 _ (u_in_lay hk0))
      unfold u_lay at h
      rwa [if_neg hfn] at h
    have hst := (u_facts hfc hkC (u_lays hts (cls_inA hr0) hk0) hi).1
    have h6 := u_store hfc hkC hkind hlay hi hpt hnf.1 hnf.2
    rcases hlink with hl1 | ⟨host, hl1⟩
    · exact W.putK hx hb (f := f) ⟨hown, hl1, ⟨_, _, _, hsame _ hi⟩, hst⟩ (by rw [q2]; exact h6) q1 q3 (by rw [hsl]; exact k2_hasslot (q4 k hk0)) rfl rfl hd fin
    · exact va_WputK hx hb (f := f) hown hl1 (hsame _ hi) hst (by rw [q2]; exact h6) q1 q3 (by rw [hsl]; exact k2_hasslot (q4 k hk0)) rfl rfl hd fin
theorem sim_put {ix t k ty pos a : Nat} {v : Value} {I' : HI} {R' : HR} (hd : decode (mB mi) pc = .ok (.putfield ix, n)) (hn : n = iln (.putfield ix) n) (hf : lk2 fL (mC mi) ix = some (t, k, ty, pos)) (ho : ∃ m, sh a = some (t, m)) (hfi : fF t k = true → mK mi = 2 ∧ mC mi = t) (ht : t < 15)
    (hv : (∃ x, v = .int x ∧ ty < 2 ∧ (ty = 1 → x = 0 ∨ x = 1) ∧ I' = u2 I a k x ∧ R' = R) ∨ (∃ x, v = .ref x ∧ ty = 2 ∧ I' = I ∧ R' = u2 R a k (some x)))
    (hk : MW l K J mi (pc + 3) L st sh I' R' c F) : MW l K J mi pc L (v :: .ref a :: st) sh I R c F := by
  refine sim_putG hd hn (fl_fx hf ht) ho (fun z => ⟨hfi z, rfl⟩) ht ?_ hk
  rcases hv with ⟨x, h1, h2, h3, h4, h5⟩ | ⟨x, h1, h2, h3, h4⟩
  · exact Or.inl ⟨x, h1, by omega, h3, fun z => by omega, h4, h5⟩
  · exact Or.inr ⟨some x, h1, h2, h3, h4⟩
end SIM
end
section
section SIM
variable {l : Launch} {K J : Nat → Nat} {mi pc n : Nat} {L : VL} {st : List Value} {sh : HS} {I : HI} {R : HR} {c : Nat × Nat} {F : VF} {ins : Instr}
theorem vp_lt {i : Int32} {m : Nat} (h : vp_in i m) : i.toNatClampNeg < m := Nat.not_le.mp fun q => h (Or.inr q)
theorem eTy_ref (t : Nat) : (eTy t).isReference = true := by
  unfold eTy
  split
  · rfl
  · split
    · rfl
    · split <;> rfl
theorem sim_iald {a : Nat} {i : Int32} (hd : decode (mB mi) pc = .ok (.iaload, n)) (hn : n = iln .iaload n) (ho : ∃ m, sh a = some (20, m) ∧ vp_in i m) (hk : MW l K J mi (pc + n) L (.int (I a i.toNatClampNeg) :: st) sh I R c F) : MW l K J mi pc L (.int i :: .ref a :: st) sh I R c F := by
  intro D p e s m args below meth cd A H locs ls C hP hl hS
  have kk := hk D p e s m args below meth cd A H locs ls C hP hl hS
  obtain ⟨hx, hb, hml, hr, hown, hts, hlk, hin, hex, hK, hB, hA, htr, hmi⟩ := C
  simp only [iln] at hn
  subst hn
  obtain ⟨m0, hm0, hi⟩ := ho
  obtain ⟨cA, g1, g2, g3⟩ := (hP a 20 m0 hm0).2.2.2.1 rfl
  exact W.iald (v := .int (I a i.toNatClampNeg)) hx hb g1 (g2 m0 (fun j => .int (I a j))) (fun q => by cases q) (by rw [arrV_size]; exact hi) (by rw [arrV_read _ _ (vp_lt hi)]) rfl rfl hd kk
theorem sim_aald {a t : Nat} {i : Int32} (hd : decode (mB mi) pc = .ok (.aaload, n)) (hn : n = iln .aaload n) (ho : ∃ m, sh a = some (30 + t, m) ∧ vp_in i m) (hk : MW l K J mi (pc + n) L (va_rf (R a i.toNatClampNeg) :: st) sh I R c F) : MW l K J mi pc L (.int i :: .ref a :: st) sh I R c F := by
  intro D p e s m args below meth cd A H locs ls C hP hl hS
  have kk := hk D p e s m args below meth cd A H locs ls C hP hl hS
  obtain ⟨hx, hb, hml, hr, hown, hts, hlk, hin, hex, hK, hB, hA, htr, hmi⟩ := C
  simp only [iln] at hn
  subst hn
  obtain ⟨m0, hm0, hi⟩ := ho
  obtain ⟨cA, g1, g2, g3⟩ := (hP a (30 + t) m0 hm0).2.2.2.2.1 t rfl
  exact W.aald (v := va_rf (R a i.toNatClampNeg)) (ty := eTy t) hx hb g1 (g2 m0 (fun j => va_rf (R a j))) (eTy_ref t) (fun q => by cases q) (by rw [arrV_size]; exact hi) (by rw [arrV_read _ _ (vp_lt hi)]) rfl rfl hd kk
theorem sim_iast {a : Nat} {i x : Int32} (hd : decode (mB mi) pc = .ok (.iastore, n)) (hn : n = iln .iastore n) (ho : ∃ m, sh a = some (20, m) ∧ vp_in i m) (hk : MW l K J mi (pc + n) L st sh (u2 I a i.toNatClampNeg x) R c F) : MW l K J mi pc L (.int x :: .int i :: .ref a :: st) sh I R c F := by
  intro D p e s m args below meth cd A H locs ls C hP hl hS
  have kk := fun H1 locs1 => hk D p e s m args below meth cd A H1 locs1 ls C
  obtain ⟨hx, hb, hml, hr, hown, hts, hlk, hin, hex, hK, hB, hA, htr, hmi⟩ := C
  simp only [iln] at hn
  subst hn
  obtain ⟨m0, hm0, hi⟩ := ho
  obtain ⟨haA, hasz, hrc⟩ := hP a 20 m0 hm0
  obtain ⟨cA, g1, g2, g3⟩ := hrc.2.1 rfl
  refine W.iast hx hb g1 (g2 m0 (fun j => .int (I a j))) (fun q => by cases q) (by rw [arrV_size]; exact hi) rfl rfl hd fun H' e1 e2 e3 => ?_
  refine kk H' _ (hP.put hm0 e2 e3 (fun b j hb0 => u2_off hb0 j) (fun _ _ _ => rfl) ⟨fun z => by omega, fun _ => ⟨cA, ?_, g2, g3⟩, fun u z => by omega, fun z => by omega, fun z => by omega⟩) hl (hS.put e2 e3 (haA (by omega)))
  rw [e1, arrV_store]
  congr 2
  funext q
  rw [u2_on]
  unfold updV
  by_cases hq : q = i.toNatClampNeg
  · rw [if_pos hq, if_pos hq]
  · rw [if_neg hq, if_neg hq]
theorem eTy_cls {t : Nat} (h : t < 15) : eTy t = .object (cN t) := by
  unfold eTy
  rw [if_neg (by omega), if_neg (by omega), if_neg (by omega)]
theorem cN_clsB : ((List.range 15).all fun t => decide ((vwCl[t]?).map (fun r => r.1) = some (cN t))) = true := by decide +kernel
theorem cN_cls {t : Nat} {r : vw_C} (h : vwCl[t]? = some r) : cN t = r.1 := by
  have ht : t < 15 := (List.getElem?_eq_some_iff.mp h).1
  have h2 := List.all_eq_true.mp cN_clsB t (List.mem_range.mpr ht)
  rw [decide_eq_true_eq, h] at h2
  exact (Option.some.inj h2).symm
theorem sim_aast {a v t : Nat} {i : Int32} (hd : decode (mB mi) pc = .ok (.aastore, n)) (hn : n = iln .aastore n) (ho : ∃ m m2, sh a = some (30 + t, m) ∧ vp_in i m ∧ sh v = some (t, m2) ∧ t < 10) (hk : MW l K J mi (pc + n) L st sh I (u2 R a i.toNatClampNeg (some v)) c F) : MW l K J mi pc L (.ref v :: .int i :: .ref a :: st) sh I R c F := by
  intro D p e s m args below meth cd A H locs ls C hP hl hS
  have kk := fun H1 locs1 => hk D p e s m args below meth cd A H1 locs1 ls C
  obtain ⟨hx, hb, hml, hr, hown, hts, hlk, hin, hex, hK, hB, hA, htr, hmi⟩ := C
  simp only [iln] at hn
  subst hn
  obtain ⟨m0, m2, hm0, hi, hv, ht⟩ := ho
  obtain ⟨haA, hasz, hrc⟩ := hP a (30 + t) m0 hm0
  obtain ⟨cA, g1, g2, g3⟩ := hrc.2.2.1 t rfl
  obtain ⟨r, g0, cellV, q1, q2, q3, q4⟩ := (hP v t m2 hv).2.2.1 (by omega)
  have et : eTy t = .object r.1 := by rw [eTy_cls (by omega : t < 15), cN_cls g0]
  rw [et] at g2 g3
  have h0 : ¬ i < 0 := fun q => hi (Or.inl q)
  have hcls := (hK.1 t r g0).2
  have g4 := g3
  obtain ⟨kA, comp, k1, k2, k3, -⟩ := g3
  have hcomp : comp = D.1 t := Option.some.inj (k3.symm.trans hcls.1)
  subst hcomp
  obtain ⟨kC, hkC, -⟩ := hcls.2
  refine W.aast hx hb g1 (fun q h => by cases h) (fun h => by cases h) k1 k2 rfl hkC ⟨h0, by rw [arrV_size]; exact vp_lt hi⟩ q1 (fun q h => by rw [q3] at h; cases h) (by rw [q2]; exact hkC) (by rw [q2]; exact va_assign hcls) rfl rfl hd fun H' e1 e2 e3 => ?_
  refine kk H' _ (hP.put hm0 e2 e3 (fun _ _ _ => rfl) (fun b j hb0 => u2_off hb0 j) ⟨fun z => by omega, fun z => by omega, fun u z => ⟨cA, ?_, by rw [show u = t by omega, et]; exact g2, by rw [show u = t by omega, et]; exact g4⟩, fun z => by omega, fun z => by omega⟩) hl (hS.put e2 e3 (haA (by omega)))
  rw [e1, arrV_store]
  congr 2
  funext q
  rw [u2_on]
  unfold updV
  by_cases hq : q = i.toNatClampNeg
  · rw [if_pos hq, if_pos hq]; rfl
  · rw [if_neg hq, if_neg hq]
theorem u1_off {α : Type} {f : Nat → α} {a b : Nat} {x : α} (h : b ≠ a) : u1 f a x b = f b := by simp [u1, h]
theorem u1_on {α : Type} {f : Nat → α} {a : Nat} {x : α} : u1 f a x a = x := by simp [u1]
/-- one cell is made -/
theorem RP.push {D : va_G} {s : State} {A : Nat → Prop} {sh : HS} {I I' : HI} {R R' : HR} {H H' : Heap} {t n : Nat} (h : RP D s A sh I R H) (hz : H'.size = H.size + 1) (oq : ∀ q : Nat, q < H.size → H'[q]? = H[q]?) (hI : ∀ b j, b ≠ H.size → I' b j = I b j) (hR : ∀ b j, b ≠ H.size → R' b j = R b j) (hA : A H.size) (hc : rc D s t n H.size I' R' H') : RP D s A (u1 sh H.size (some (t, n))) I' R' H' := by
  intro b t' n' hb
  by_cases e : b = H.size
  · subst e
    rw [u1_on] at hb
    cases hb
    exact ⟨fun _ => hA, by omega, hc⟩
  · rw [u1_off e] at hb
    obtain ⟨h1, h2, h3⟩ := h b t' n' hb
    exact ⟨h1, by omega, rc_off h3 (oq b h2) (fun j => hI b j e) (fun j => hR b j e)⟩
theorem RP.fresh {D : va_G} {s : State} {A : Nat → Prop} {sh : HS} {I : HI} {R : HR} {H : Heap} (h : RP D s A sh I R H) : sh H.size = none := by
  cases e : sh H.size with
  | none => rfl
  | some q => exact absurd (h H.size q.1 q.2 e).2.1 (Nat.lt_irrefl _)
theorem nl_at {k ix t p1 p2 p3 : Nat} (h : lk2 nL k ix = some (t, p1, p2, p3)) : ∃ r, vwCl[t]? = some r ∧ Cond.classLink (cN k) ix r.1 ∈ wAll ∧ Cond.instantiable r.1 r.2.2 ∈ wAll ∧ Cond.initialized r.1 ∈ wAll := by
  obtain ⟨h1, h2, h3⟩ := lk2m h
  have h4 := List.all_eq_true.mp nL_ok _ h1
  unfold nchk at h4
  simp only [h2, h3] at h4
  cases hr : vwCl[t]? with
  | none => rw [hr] at h4; cases h4
  | some r =>
    rw [hr] at h4
    simp only [Bool.and_eq_true, decide_eq_true_eq] at h4
    exact ⟨r, rfl, wAll_at h4.1 rfl, wAll_at h4.2.1 rfl, wAll_at h4.2.2 rfl⟩
theorem dflt_okB : ((List.range 15).all fun t => (List.range (fN t)).all fun k => decide (defaultValue (tyc t k) = if fT t k = true then .null else .int 0)) = true := by decide +kernel
theorem sim_new {ix t p1 p2 p3 : Nat} (hd : decode (mB mi) pc = .ok (.new ix, n)) (hn : n = iln (.new ix) n) (hf : lk2 nL (mC mi) ix = some (t, p1, p2, p3)) (h1 : c.1 + 1 ≤ mCe mi) (h2 : c.2 + fN t ≤ mSl mi)
    (hk : ∀ a, sh a = none → MW l K J mi (pc + 3) L (.ref a :: st) (u1 sh a (some (t, fN t))) (u1 I a (fun _ => 0)) (u1 R a (fun _ => none)) (c.1 + 1, c.2 + fN t) F) : MW l K J mi pc L st sh I R c F := by
  intro D p e s m args below meth cd A H locs ls C hP hl hS
  have kk := fun H1 => hk H.size hP.fresh D p e s m args below meth cd A H1 locs ls C
  obtain ⟨hx, hb, hml, hr, hown, hts, hlk, hin, hex, hK, hB, hA, htr, hmi⟩ := C
  simp only [iln] at hn
  subst hn
  obtain ⟨r, hr0, hl1, hl2, hl3⟩ := nl_at hf
  have hKn := hK.1 t r hr0
  have hfn : fN t = r.2.2 := by unfold fN; rw [hr0]; rfl
  have ht : t < 15 := (List.getElem?_eq_some_iff.mp hr0).1
  refine W.newcK hx hb hown (hts _ hl1) (hts _ hl2) (hts _ hl3) rfl hd h1 (by rw [← hfn]; exact h2) hKn.2.1 rfl fun H1 kC hkC e1 z1 o1 => ?_
  rw [hfn] at kk
  have hsz := hS.1
  refine kk H1 (hP.push z1 o1 (fun b j hb0 => by rw [u1_off hb0]) (fun b j hb0 => by rw [u1_off hb0]) (hA _ hsz) ⟨fun _ => ⟨r, hr0, (u_born (tyc t) hts (cls_inA hr0) hKn hkC e1 (tyc_ok hr0)).to fun k hk0 => ?_⟩, fun z => by omega, fun u z => by omega, fun z => by omega, fun z => by omega⟩) hl ⟨by omega, fun q g1 g2 => (o1 q (by omega)).trans (hS.2.1 q g1 g2), hS.2.2⟩
  have h := List.all_eq_true.mp (List.all_eq_true.mp dflt_okB t (List.mem_range.mpr ht)) k (List.mem_range.mpr (by rw [hfn]; exact hk0))
  rw [decide_eq_true_eq] at h
  rw [h]
  unfold fv
  rw [u1_on, u1_on]
  rfl
theorem ac_int : Cond.arrayClass .int ∈ wAll := by
  refine List.mem_filter.mpr ⟨?_, rfl⟩
  have h : lw_tb2.contains (Cond.arrayClass .int) = true := by decide +kernel
  simpa using h
theorem sim_newa {x : Int32} (hd : decode (mB mi) pc = .ok (.newarray .int, n)) (hn : n = iln (.newarray .int) n) (h0 : ¬ x < 0) (h3 : x.toNatClampNeg < 100000) (h1 : c.1 + 1 ≤ mCe mi) (h2 : c.2 + x.toNatClampNeg ≤ mSl mi)
    (hk : ∀ a, sh a = none → MW l K J mi (pc + 2) L (.ref a :: st) (u1 sh a (some (20, x.toNatClampNeg))) (u1 I a (fun _ => 0)) R (c.1 + 1, c.2 + x.toNatClampNeg) F) : MW l K J mi pc L (.int x :: st) sh I R c F := by
  intro D p e s m args below meth cd A H locs ls C hP hl hS
  have kk := fun H1 => hk H.size hP.fresh D p e s m args below meth cd A H1 locs ls C
  obtain ⟨hx, hb, hml, hr, hown, hts, hlk, hin, hex, hK, hB, hA, htr, hmi⟩ := C
  simp only [iln] at hn
  subst hn
  have hsz := hS.1
  refine va_newaK (atype := .int) hx hb (hts _ ac_int) rfl hd rfl h0 rfl (by show _ * 4 ≤ _; omega) h1 h2 rfl fun H1 cA e1 z1 o1 hAr hNm => ?_
  exact kk H1 (hP.push z1 o1 (fun b j hb0 => by rw [u1_off hb0]) (fun _ _ _ => rfl) (hA _ hsz) ⟨fun z => by omega, fun _ => ⟨cA, by rw [e1, u1_on]; rfl, hAr, hNm⟩, fun u z => by omega, fun z => by omega, fun z => by omega⟩) hl ⟨by omega, fun q g1 g2 => (o1 q (by omega)).trans (hS.2.1 q g1 g2), hS.2.2⟩
theorem sim_anew {x : Int32} {ix t p1 p2 p3 : Nat} (hd : decode (mB mi) pc = .ok (.anewarray ix, n)) (hn : n = iln (.anewarray ix) n) (hf : lk2 nL (mC mi) ix = some (t, p1, p2, p3)) (hao : t = 0 ∨ t = 5 ∨ t = 7) (h0 : ¬ x < 0) (h3 : x.toNatClampNeg < 100000) (h1 : c.1 + 1 ≤ mCe mi) (h2 : c.2 + x.toNatClampNeg ≤ mSl mi)
    (hk : ∀ a, sh a = none → MW l K J mi (pc + 3) L (.ref a :: st) (u1 sh a (some (30 + t, x.toNatClampNeg))) I (u1 R a (fun _ => none)) (c.1 + 1, c.2 + x.toNatClampNeg) F) : MW l K J mi pc L (.int x :: st) sh I R c F := by
  intro D p e s m args below meth cd A H locs ls C hP hl hS
  have kk := fun H1 => hk H.size hP.fresh D p e s m args below meth cd A H1 locs ls C
  obtain ⟨hx, hb, hml, hr, hown, hts, hlk, hin, hex, hK, hB, hA, htr, hmi⟩ := C
  simp only [iln] at hn
  subst hn
  have hsz := hS.1
  obtain ⟨r, hr0, hl1, hl2, hl3⟩ := nl_at hf
  have ha9 : r.1 ∈ aN := by rcases hao with rfl | rfl | rfl <;> (cases hr0; decide)
  refine W.anew hx hb hown (hts _ hl1) (va_AO.use (hB.2.2.2.2.2.2.2.2.1 r.1 ha9)) rfl hd rfl h0 (by omega) h1 h2 fun cA kA comp f1 f2 f3 f4 => ?_
  generalize hH1 : H.push ({ cls := cA, slots := Array.replicate x.toNatClampNeg .null, vm := .none } : Cell) = H1
  have z1 : H1.size = H.size + 1 := by rw [← hH1, Array.size_push]
  have e1 : H1[H.size]? = some (arrV cA x.toNatClampNeg (fun _ => .null)) := by rw [← hH1, Array.getElem?_push_size, ← arrV_new]
  have o1 : ∀ q : Nat, q < H.size → H1[q]? = H[q]? := fun q hq => by rw [← hH1, Array.getElem?_push, if_neg (Nat.ne_of_lt hq)]
  have et : eTy t = .object r.1 := by rw [eTy_cls (by rcases hao with rfl | rfl | rfl <;> decide), cN_cls hr0]
  have hAr : ArrOfT s cA (.object r.1) := fun N z => ⟨(fun k h => by cases h), kA, f2, comp, f3⟩
  exact kk H1 (hP.push z1 o1 (fun _ _ _ => rfl) (fun b j hb0 => by rw [u1_off hb0]) (hA _ hsz) ⟨fun z => by omega, fun z => by omega, fun u z => ⟨cA, by rw [e1, u1_on]; rfl, by rw [show u = t by omega, et]; exact hAr, by rw [show u = t by omega, et]; exact ⟨kA, comp, f2, f3, f4, f1⟩⟩, fun z => by omega, fun z => by omega⟩) hl ⟨by omega, fun q g1 g2 => (o1 q (by omega)).trans (hS.2.1 q g1 g2), hS.2.2⟩
end SIM
end
section
theorem fchk_at {c ix t k ty pos : Nat} (h : lk2 fL c ix = some (t, k, ty, pos)) : fchk (c * 10000 + ix, t, k, ty, pos) = true ∧ (c * 10000 + ix) / 10000 = c ∧ (c * 10000 + ix) % 10000 = ix := by
  obtain ⟨h1, h2, h3⟩ := lk2m h
  exact ⟨List.all_eq_true.mp fL_ok _ h1, h2, h3⟩
theorem cst_at {k ix : Nat} {v : Int32} (h : (lk2 iL k ix).map (·.1) = some v) : Cond.constant (cN k) ix v ∈ wAll := by
  cases e : lk2 iL k ix with
  | none => rw [e] at h; cases h
  | some q =>
    rw [e] at h
    cases h
    obtain ⟨h1, h2, h3⟩ := lk2m e
    have h4 := List.all_eq_true.mp iL_ok _ h1
    simp only [h2, h3, decide_eq_true_eq] at h4
    exact wAll_at h4 rfl
theorem cstJ_at {k ix : Nat} {v : Int64} (h : (lk2 lL k ix).map (·.1) = some v) : Cond.constantLong (cN k) ix v ∈ wAll := by
  cases e : lk2 lL k ix with
  | none => rw [e] at h; cases h
  | some q =>
    rw [e] at h
    cases h
    obtain ⟨h1, h2, h3⟩ := lk2m e
    have h4 := List.all_eq_true.mp lL_ok _ h1
    simp only [h2, h3, decide_eq_true_eq] at h4
    exact wAll_at h4 rfl
theorem mem_of_contains {w : Cond} (h : lw_tb2.contains w = true) (g : goodWord w = true) : w ∈ wAll := List.mem_filter.mpr ⟨by simpa using h, g⟩
theorem m_min : Cond.static Lib.Math.min.name ∈ wAll ∧ Cond.code Lib.Math.min.name Lib.Math.min.code 2 (some .int) ∈ wAll ∧ Cond.initialized "java/lang/Math" ∈ wAll := ⟨mem_of_contains (by decide +kernel) rfl, mem_of_contains (by decide +kernel) rfl, mem_of_contains (by decide +kernel) rfl⟩
theorem m_max : Cond.static Lib.Math.max.name ∈ wAll ∧ Cond.code Lib.Math.max.name Lib.Math.max.code 2 (some .int) ∈ wAll ∧ Cond.initialized "java/lang/Math" ∈ wAll := ⟨mem_of_contains (by decide +kernel) rfl, mem_of_contains (by decide +kernel) rfl, mem_of_contains (by decide +kernel) rfl⟩
theorem m_abs : Cond.static Lib.Math.abs.name ∈ wAll ∧ Cond.code Lib.Math.abs.name Lib.Math.abs.code 1 (some .int) ∈ wAll ∧ Cond.initialized "java/lang/Math" ∈ wAll := ⟨mem_of_contains (by decide +kernel) rfl, mem_of_contains (by decide +kernel) rfl, mem_of_contains (by decide +kernel) rfl⟩
theorem m_cpy : Cond.native arraycopyName ∈ wAll ∧ Cond.static arraycopyName ∈ wAll ∧ Cond.initialized "java/lang/System" ∈ wAll := ⟨mem_of_contains (by decide +kernel) rfl, mem_of_contains (by decide +kernel) rfl, mem_of_contains (by decide +kernel) rfl⟩
theorem m_obj : Cond.instanceMethod Lib.objectInit ∈ wAll ∧ Cond.code Lib.objectInit ⟨#[0xb1]⟩ 1 none ∈ wAll := ⟨mem_of_contains (by decide +kernel) rfl, mem_of_contains (by decide +kernel) rfl⟩
def spN (code : Nat) : MethodName := match code with
  | 1000 => Lib.Math.min.name
  | 1001 => Lib.Math.max.name
  | 1002 => Lib.Math.abs.name
  | 1003 => arraycopyName
  | 1004 => Lib.objectInit
  | 1005 => ⟨"[B", "clone", "()Ljava/lang/Object;"⟩
  | 1006 => ⟨"java/lang/Object", "getClass", "()Ljava/lang/Class;"⟩
  | 1007 => yL_hasNone
  | _ => yL_hasNoFault
def kchk (q : Nat × Nat × Nat × Nat) : Bool := if q.2.1 < 1000 then (decide (q.2.1 < mT.length) && (if q.2.2.1 = 0 then decide (lw_tb2[q.2.2.2]? = some (.methodLink (cN (q.1 / 10000)) (q.1 % 10000) (mY q.2.1))) else decide (q.2.2.1 = 1)))
  else decide (lw_tb2[q.2.2.2]? = some (.methodLink (cN (q.1 / 10000)) (q.1 % 10000) (spN q.2.1))) && decide (q.2.1 < 1009)
theorem kL_ok : kL.all kchk = true := by decide +kernel
theorem kl_sp {k ix code a b : Nat} (h : lk2 kL k ix = some (code, a, b)) (hc : ¬ code < 1000) : Cond.methodLink (cN k) ix (spN code) ∈ wAll := by
  obtain ⟨h1, h2, h3⟩ := lk2m h
  have h4 := List.all_eq_true.mp kL_ok _ h1
  unfold kchk at h4
  rw [if_neg hc] at h4
  simp only [h2, h3, Bool.and_eq_true, decide_eq_true_eq] at h4
  exact wAll_at h4.1 rfl
section SIM
variable {l : Launch} {K J : Nat → Nat} {mi pc n : Nat} {L : VL} {st : List Value} {sh : HS} {I : HI} {R : HR} {c : Nat × Nat} {F : VF} {ins : Instr}
theorem w_ldcSW {p : Program} {e : Env} {Rm : Room} {s : State} {m : MethodId} {args : Array Value} {below : List Frame} {meth : Method} {cd : Code} {H : Heap} {locs : List Loc} {cells slots : Nat} {Q : State → Prop} {cc : ByteArray} {ls : Array Slot} {rest : List Value} (hexec : p.tables.exec = Jvm.exec) (hb : cd.code = cc) {own tx : String} {index q : Nat} (hown : s.vm.findClass own = some m.cls) (hZ : vk_R own index tx q s) (hdg : decode cc pc = .ok (.ldc_w index, 3))
    (k : W p l e Rm s m args below meth cd H locs cells slots Q (F0 m (pc + 3) ls (.ref q :: rest))) : W p l e Rm s m args below meth cd H locs cells slots Q (F0 m pc ls rest) := by
  intro T hT X
  obtain ⟨t, a1, b1⟩ := k T hT X
  exact ⟨t, X.ldcStringW hexec hown (text := tx) (a := q) hZ.1 hZ.2 (g := F0 m pc ls rest) rfl (by rw [hb]; exact hdg) t a1, b1⟩
theorem sim_cst {v : Int32} (hd : decode (mB mi) pc = .ok (ins, n)) (hn : n = iln ins n) (hi : cst mi ins = some v) (hk : MW l K J mi (pc + n) L (.int v :: st) sh I R c F) : MW l K J mi pc L st sh I R c F := by
  intro D p e s m args below meth cd A H locs ls C hP hl hS
  have k := hk D p e s m args below meth cd A H locs ls C hP hl hS
  obtain ⟨hx, hb, hml, hr, hown, hts, hlk, hin, hex, hK, hB, hA, htr, hmi⟩ := C
  unfold cst at hi
  split at hi
  · simp only [iln] at hn; subst hn; exact lv_iconst hx hb hd (Option.some.inj hi) k
  · simp only [iln] at hn; subst hn; exact lv_bipush hx hb hd (Option.some.inj hi) k
  · simp only [iln] at hn; subst hn; exact lv_sipush hx hb hd (Option.some.inj hi) k
  · simp only [iln] at hn; subst hn; exact lv_ldc hx hb hown (hts _ (cst_at hi)) hd k
  · simp only [iln] at hn; subst hn; exact lv_ldcw hx hb hown (hts _ (cst_at hi)) hd k
  · cases hi
theorem sim_cstS {i : Nat} (hd : decode (mB mi) pc = .ok (ins, n)) (hn : n = iln ins n) (hi : cstS mi ins = some i) (hk : MW l K J mi (pc + n) L (.ref (K i) :: st) sh I R c F) : MW l K J mi pc L st sh I R c F := by
  intro D p e s m args below meth cd A H locs ls C hP hl hS
  have k := hk D p e s m args below meth cd A H locs ls C hP hl hS
  obtain ⟨hx, hb, hml, hr, hown, hts, hlk, hin, hex, hK, hB, hA, htr, hmi⟩ := C
  have key : ∀ ix, (lk2 sL (mC mi) ix).map (·.1) = some i → vk_R (cN (mC mi)) ix (strs.getD i "") (K i) s := by
    intro ix h
    cases e1 : lk2 sL (mC mi) ix with
    | none => rw [e1] at h; cases h
    | some q =>
      rw [e1] at h
      cases h
      obtain ⟨h1, h2, h3⟩ := lk2m e1
      have h4 := hB.2.1 _ h1
      simp only [h2, h3] at h4
      exact h4
  unfold cstS at hi
  split at hi
  · simp only [iln] at hn; subst hn; exact va_ldcS hx hb hown (key _ hi) hd k
  · simp only [iln] at hn; subst hn; exact w_ldcSW hx hb hown (key _ hi) hd k
  · cases hi
theorem sim_cstJ {v : Int64} (hd : decode (mB mi) pc = .ok (ins, n)) (hn : n = iln ins n) (hi : cstJ mi ins = some v) (hk : MW l K J mi (pc + n) L (.long v :: st) sh I R c F) : MW l K J mi pc L st sh I R c F := by
  intro D p e s m args below meth cd A H locs ls C hP hl hS
  have k := hk D p e s m args below meth cd A H locs ls C hP hl hS
  obtain ⟨hx, hb, hml, hr, hown, hts, hlk, hin, hex, hK, hB, hA, htr, hmi⟩ := C
  unfold cstJ at hi
  split at hi
  · simp only [iln] at hn; subst hn; exact lv_lconst hx hb hd (Option.some.inj hi) k
  · simp only [iln] at hn; subst hn; exact lv_ldc2 hx hb hown (hts _ (cstJ_at hi)) hd k
  · cases hi
theorem sim_getS {ix k ty pos i : Nat} (hd : decode (mB mi) pc = .ok (.getfield ix, n)) (hn : n = iln (.getfield ix) n) (hf : lk2 fL (mC mi) ix = some (20, k, ty, pos)) (hi : i < nS) (hk : MW l K J mi (pc + 3) L (.ref (J i) :: st) sh I R c F) : MW l K J mi pc L (.ref (K i) :: st) sh I R c F := by
  intro D p e s m args below meth cd A H locs ls C hP hl hS
  have kk := hk D p e s m args below meth cd A H locs ls C hP hl hS
  obtain ⟨hx, hb, hml, hr, hown, hts, hlk, hin, hex, hK, hB, hA, htr, hmi⟩ := C
  simp only [iln] at hn
  subst hn
  obtain ⟨h1, h2, h3⟩ := fchk_at hf
  simp only [fchk, h2, h3, show ¬ (20 : Nat) < 15 by decide, if_false, if_true, decide_eq_true_eq] at h1
  exact vk_getf hx hb (hB.1.1 i hi).2.2.1 hS hown (hts _ (wAll_at h1 rfl)) (fun _ z => z) hd kk
theorem sim_getC {ix k ty pos i : Nat} (hd : decode (mB mi) pc = .ok (.getfield ix, n)) (hn : n = iln (.getfield ix) n) (hf : lk2 fL (mC mi) ix = some (21, k, ty, pos)) (hi : i < nS) (hk : MW l K J mi (pc + 3) L (.int 0 :: st) sh I R c F) : MW l K J mi pc L (.ref (K i) :: st) sh I R c F := by
  intro D p e s m args below meth cd A H locs ls C hP hl hS
  have kk := hk D p e s m args below meth cd A H locs ls C hP hl hS
  obtain ⟨hx, hb, hml, hr, hown, hts, hlk, hin, hex, hK, hB, hA, htr, hmi⟩ := C
  simp only [iln] at hn
  subst hn
  obtain ⟨h1, h2, h3⟩ := fchk_at hf
  simp only [fchk, h2, h3, show ¬ (21 : Nat) < 15 by decide, show ¬ (21 : Nat) = 20 by decide, if_false, if_true, decide_eq_true_eq] at h1
  exact vk_getf hx hb (hB.1.1 i hi).2.1 hS hown (hts _ (wAll_at h1 rfl)) (fun _ z => z) hd kk
theorem sLen_eq {i : Nat} (h : i < nS) : lenS.getD i 0 = sLen i := by
  unfold lenS sLen
  unfold nS at h
  rw [List.getD_eq_getElem?_getD, List.getD_eq_getElem?_getD, List.getElem?_map, List.getElem?_eq_getElem h]
  rfl
theorem sByt_eq {i j : Nat} (h : i < nS) (hj : j < sLen i) : (bytS.getD i []).getD j 0 = sByt i j := by
  unfold bytS sByt
  unfold sLen at hj
  unfold nS at h
  rw [List.getD_eq_getElem?_getD (l := strs), List.getElem?_eq_getElem h] at hj ⊢
  rw [List.getD_eq_getElem?_getD (l := strs.map _), List.getElem?_map, List.getElem?_eq_getElem h]
  simp only [Option.map_some, Option.getD_some] at hj ⊢
  have hj2 : j < (strs[i]).toList.length := by rw [String.length_toList]; exact hj
  rw [List.getD_eq_getElem?_getD, List.getD_eq_getElem?_getD, List.getElem?_map, List.getElem?_eq_getElem hj2]
  rfl
theorem sim_alen {i : Nat} (hd : decode (mB mi) pc = .ok (.arraylength, n)) (hn : n = iln .arraylength n) (hi : i < nS) (hk : MW l K J mi (pc + n) L (.int (nI (sLen i)) :: st) sh I R c F) : MW l K J mi pc L (.ref (J i) :: st) sh I R c F := by
  intro D p e s m args below meth cd A H locs ls C hP hl hS
  have kk := hk D p e s m args below meth cd A H locs ls C hP hl hS
  obtain ⟨hx, hb, hml, hr, hown, hts, hlk, hin, hex, hK, hB, hA, htr, hmi⟩ := C
  simp only [iln] at hn
  subst hn
  obtain ⟨cell, h1, h2, h3, h4, h5, h6, h7⟩ := (hB.1.1 i hi).2.2.2.kept hS.2.1
  rw [sLen_eq hi] at h5
  exact W.alen (n := nI (sLen i)) hx hb h1 h2 h5 rfl rfl hd kk
theorem sim_bald {k : Nat} {i : Int32} (hd : decode (mB mi) pc = .ok (.baload, n)) (hn : n = iln .baload n) (hi : k < nS) (hv : vp_in i (sLen k)) (hk : MW l K J mi (pc + n) L (.int (sByt k i.toNatClampNeg) :: st) sh I R c F) : MW l K J mi pc L (.int i :: .ref (J k) :: st) sh I R c F := by
  intro D p e s m args below meth cd A H locs ls C hP hl hS
  have kk := hk D p e s m args below meth cd A H locs ls C hP hl hS
  obtain ⟨hx, hb, hml, hr, hown, hts, hlk, hin, hex, hK, hB, hA, htr, hmi⟩ := C
  simp only [iln] at hn
  subst hn
  obtain ⟨cell, h1, h2, h3, h4, h5, h6, h7⟩ := (hB.1.1 k hi).2.2.2.kept hS.2.1
  rw [sLen_eq hi] at h4 h6
  have hj := vp_lt hv
  refine W.bald (v := .int (sByt k i.toNatClampNeg)) hx hb h1 h2 h3 (fun z => ?_) ?_ rfl rfl hd kk
  · rcases z with z | z
    · exact hv (Or.inl z)
    · exact hv (Or.inr (Nat.le_trans h4 z))
  · exact (h6 _ hj).trans (by simp only [sByt_eq hi hj])
theorem sim_gets {ix q pos : Nat} (hd : decode (mB mi) pc = .ok (.getstatic ix, n)) (hn : n = iln (.getstatic ix) n) (hf : lk2 gL (mC mi) ix = some (q, pos)) (hk : ∀ v, (q = 0 → v = .int 1) → (q ≠ 0 → v = .null ∨ ∃ a, v = .ref a) → MW l K J mi (pc + 3) L (v :: st) sh I R c F) : MW l K J mi pc L st sh I R c F := by
  intro D p e s m args below meth cd A H locs ls C hP hl hS
  have kk := fun v z1 z2 => hk v z1 z2 D p e s m args below meth cd A H locs ls C hP hl hS
  obtain ⟨hx, hb, hml, hr, hown, hts, hlk, hin, hex, hK, hB, hA, htr, hmi⟩ := C
  simp only [iln] at hn
  subst hn
  obtain ⟨h1, h2, h3⟩ := lk2m hf
  have h4 := List.all_eq_true.mp gL_ok _ h1
  unfold gchk at h4
  simp only [h2, h3] at h4
  split at h4
  · rename_i e0
    simp only [decide_eq_true_eq] at h4
    exact va_gets hx hb hB.2.2.2.2.2.2.1 hS hown (hts _ (wAll_at h4 rfl)) (fun _ z => z) hd (kk _ (fun _ => rfl) (fun z => absurd rfl z))
  · rename_i e0
    simp only [decide_eq_true_eq] at h4
    rcases hB.2.2.2.2.2.2.2.1 with hz | ⟨t, hz⟩
    · exact va_gets hx hb hz hS hown (hts _ (wAll_at h4 rfl)) (fun _ z => z) hd (kk _ (fun z => absurd z e0) (fun _ => Or.inl rfl))
    · exact va_gets hx hb hz hS hown (hts _ (wAll_at h4 rfl)) (fun _ z => z) hd (kk _ (fun z => absurd z e0) (fun _ => Or.inr ⟨t, rfl⟩))
end SIM
end
section
section NX
def nChain (X : String) (ix : Nat) (rx : ByteArray) : List String → List Cond
  | [] => Bundle.passSAtoms X Bundle.tN ix rx
  | Y :: r => Bundle.passSAtoms X Y ix rx ++ Bundle.chainSAtoms Y r
theorem nChain_ok {args : Array Value} {s : State} {pl : Platform} (hpl : pl.magicAccessors = ({} : Platform).magicAccessors) {top : MethodId} (htop : s.methodNamed? (Bundle.initS Bundle.tN) = some top)
    {ix : Nat} {rx : ByteArray} (x0 : decode rx 0 = .ok (.aload_n 0, 1)) (x1 : decode rx 1 = .ok (.aload_n 1, 1)) (x2 : decode rx 2 = .ok (.invokespecial ix, 3)) (x5 : decode rx 5 = .ok (.return_, 1)) :
    ∀ (names : List String) (X : String), Bundle.fit X = true → (∀ n ∈ names, Bundle.fit n = true) → (∀ c ∈ nChain X ix rx names, c.before args s = true) →
      ∃ (P1 : PassC) (Ps : List PassC), Ps.length = names.length ∧ P1.LinksS pl s ∧ (∀ P, P ∈ Ps → P.LinksS pl s) ∧ s.methodNamed? (Bundle.initS X) = some P1.m ∧
        P1.sup = firstOf top (Ps.map (·.toPassT)) ∧ PassesOn top (Ps.map (·.toPassT))
  | [], X, hX, _, h => by
    obtain ⟨P, L, hm, hs⟩ := PassC.ofS_atoms (args := args) (s := s) hpl (X := X) (Y := Bundle.tN) (Bundle.fit_spec hX).1 (by decide) x0 x1 x2 x5 h
    exact ⟨P, [], rfl, L, (fun _ hP => by cases hP), hm, Option.some.inj (hs.symm.trans htop), trivial⟩
  | Y :: r, X, hX, hn, h => by
    obtain ⟨P, L, hm, hs⟩ := PassC.ofS_atoms (args := args) (s := s) hpl (X := X) (Y := Y) (Bundle.fit_spec hX).1 (Bundle.fit_spec (hn Y List.mem_cons_self)).2 x0 x1 x2 x5 (fun c hc => h c (List.mem_append.mpr (Or.inl hc)))
    obtain ⟨P', Ps, hlen, L', hL, hm', hsup, hpass⟩ := Bundle.chainS (args := args) hpl htop r Y (hn Y List.mem_cons_self) (fun n hn' => hn n (List.mem_cons_of_mem _ hn')) (fun c hc => h c (List.mem_append.mpr (Or.inr hc)))
    refine ⟨P, P' :: Ps, by simp [hlen], L, fun Q hQ => ?_, hm, Option.some.inj (hs.symm.trans hm'), hsup, hpass⟩
    rcases List.mem_cons.mp hQ with rfl | hQ
    · exact L'
    · exact hL Q hQ
def nAtoms (own : String) (ic : Nat) (X : String) (ix : Nat) (rx : ByteArray) (names : List String) : List Cond :=
  Bundle.throwableAtoms ++ Bundle.throwableSAtoms ++ nChain X ix rx names ++
  [.methodLink own ic (Bundle.initS X), .instantiable X 6, .castable X X, .selects X Bundle.tFill0 Bundle.tFill0, .selects X Bundle.tFill Bundle.tFill,
   .lays X Bundle.tN "cause" "Ljava/lang/Throwable;", .lays X Bundle.tN "stackTrace" Bundle.steD, .lays X Bundle.tN "suppressedExceptions" Bundle.listD, .lays X Bundle.tN "detailMessage" "Ljava/lang/String;",
   .isRef (.static Bundle.tN "UNASSIGNED_STACK" Bundle.steD), .isRef (.static Bundle.tN "SUPPRESSED_SENTINEL" Bundle.listD),
   .fieldLink Bundle.tN 198 Bundle.tN "backtrace" "Ljava/lang/Object;", .lays Bundle.tN Bundle.tN "backtrace" "Ljava/lang/Object;", .lays X Bundle.tN "backtrace" "Ljava/lang/Object;"]
variable {p : Program} {l : Launch} {e : Env} {R : Room} {s : State} {m₀ : MethodId} {args : Array Value} {below : List Frame} {meth : Method} {c : Code} {W : State} {locs : List Loc} {cells slots : Nat}
set_option maxHeartbeats 2000000 in
theorem nx_ctorMade (X : Stand p l e R s m₀ args below meth c W locs cells slots) (hexec : p.tables.exec = Jvm.exec) (htr : e.platform.stackTraces = false) {own cls : String} {names : List String} {ic ix : Nat} {rx : ByteArray} (x0 : decode rx 0 = .ok (.aload_n 0, 1)) (x1 : decode rx 1 = .ok (.aload_n 1, 1)) (x2 : decode rx 2 = .ok (.invokespecial ix, 3)) (x5 : decode rx 5 = .ok (.return_, 1))
    (hown : s.vm.findClass own = some m₀.cls) (hcls : Bundle.fit cls = true) (hnames : ∀ n ∈ names, Bundle.fit n = true)
    (h : ∀ a ∈ nAtoms own ic cls ix rx names, a.before args s = true)
    (hlocs : ∀ x ∈ locs, ∀ cell, s.heap[x.base]? = some cell → cell.vm.isStatics = false)
    {a : Addr} {cX : ClassId} {kX : Class} (hfoundX : s.vm.findClass cls = some cX) (hkX : s.vm.classes[cX]? = some kX) (hcell : W.heap[a]? = some (freshCell cX kX)) (hnew : s.heap.size ≤ a)
    {msg : Value} (hmsg : msg.isRef = true)
    {g : JFrame} (hg : g.method = m₀) (hsize : g.locals.size = c.maxLocals) {rest : List Value} (hstack : g.stack = msg :: .ref a :: .ref a :: rest)
    (hd6 : decode c.code g.pc = .ok (.invokespecial ic, 3))
    (hRframes : names.length + 3 < R.frames) (hRlocals : 2 * g.monitorRoom + ((Value.ref a :: rest).map fun v => v.category).sum + (13 * (names.length + 1) + 42) ≤ R.locals) :
    ∃ (V : State) (ce : Cell) (L : List Loc), Stand p l e R s m₀ args below meth c (V.setCell a ce) (locs ++ L) cells slots ∧ (∀ y ∈ L, y.base = a) ∧ a < V.heap.size ∧ ce.cls = cX ∧ ce.vm = .none ∧
      ∀ target, Steps p.tables e below ((V.setCell a ce).setTop { g with stack := .ref a :: rest, pc := g.pc + 3 }) target → Steps p.tables e below (W.setTop g) target := by
  have howns : e.platform.frameOwnsMonitors = true := by rw [X.admits.platform]
  have hfin : e.platform.finalization = false := by rw [X.admits.platform]
  have hpl : e.platform.magicAccessors = ({} : Platform).magicAccessors := by rw [X.admits.platform]
  have a' : ∀ x, x ∈ nAtoms own ic cls ix rx names → x.holds args s none s [] = true := fun x hx => h x hx
  obtain ⟨T, Z0, L, -, Y⟩ := ThrowableC.of_atoms (args := args) howns hfin hpl (fun x hx => h x (by simp [nAtoms, hx]))
  obtain ⟨Z, M, LZ, LM, hnZ⟩ := Init0T.ofS_atoms (args := args) hpl L Y (fun x hx => h x (by simp [nAtoms, hx]))
  obtain ⟨P1, Ps, hlen, L1, hL, hP1m, hlink1, hlink⟩ := nChain_ok (args := args) hpl hnZ x0 x1 x2 x5 names cls hcls hnames (fun x hx => h x (by simp [nAtoms, hx]))
  have hfound : s.vm.findClass cls = some P1.m.cls := findClass_of_methodNamed hP1m
  cases Option.some.inj (hfoundX.symm.trans hfound)
  obtain ⟨c1, kX', hc1, hk, hord, -, -, hn6⟩ := Cond.instantiable_spec (a' (.instantiable cls 6) (by simp [nAtoms]))
  cases Option.some.inj (hc1.symm.trans hfound)
  cases Option.some.inj (hkX.symm.trans hk)
  have hsel0 : selectMethod e.platform s.vm P1.m.cls T.fill0 = .method T.fill0 := by
    obtain ⟨c2, r2, m2, q1, q2, q3, q4, -⟩ := Cond.selects_spec (a' (.selects cls Bundle.tFill0 Bundle.tFill0) (by simp [nAtoms]))
    cases Option.some.inj (q1.symm.trans hfound)
    cases Option.some.inj (q2.symm.trans (State.methodFound?_of_named Y.fill0 (by decide)))
    cases Option.some.inj (q3.symm.trans Y.fill0)
    rw [Launch.admits_selectMethod X.admits]; exact q4
  have hselF : selectMethod e.platform s.vm P1.m.cls T.fill = .method T.fill := by
    obtain ⟨c2, r2, m2, q1, q2, q3, q4, -⟩ := Cond.selects_spec (a' (.selects cls Bundle.tFill Bundle.tFill) (by simp [nAtoms]))
    cases Option.some.inj (q1.symm.trans hfound)
    cases Option.some.inj (q2.symm.trans (State.methodFound?_of_named Y.fill (by decide)))
    cases Option.some.inj (q3.symm.trans Y.fill)
    rw [Launch.admits_selectMethod X.admits]; exact q4
  obtain ⟨cellS0, hcS0, hiss⟩ := Y.statics
  obtain ⟨u0, hu0⟩ := Cond.staticRefV Y.unassigned L.unassignedStatic L.statics hcS0 hiss (a' (.isRef (.static Bundle.tN "UNASSIGNED_STACK" Bundle.steD)) (by simp [nAtoms]))
  obtain ⟨sen, hsen⟩ := Cond.staticRefV Y.sentinel L.sentinelStatic L.statics hcS0 hiss (a' (.isRef (.static Bundle.tN "SUPPRESSED_SENTINEL" Bundle.listD)) (by simp [nAtoms]))
  obtain ⟨ci198, i198, fB, hk198, hg198, ha198, hsB, -, hnB, htB, hffB⟩ := Cond.ownField (t := .object "java/lang/Object") Y.found L.cls (by decide +kernel) (a' (.fieldLink Bundle.tN 198 Bundle.tN "backtrace" "Ljava/lang/Object;") (by simp [nAtoms])) (a' (.lays Bundle.tN Bundle.tN "backtrace" "Ljava/lang/Object;") (by simp [nAtoms])) e.platform hpl
  obtain ⟨cellS, hcS', heS, -, hkeep⟩ := X.same.2.2.2.2.2 T.aS cellS0 hcS0
  have hcellS : W.heap[T.aS]? = some cellS := hcS'
  have hout' : ∀ i, (⟨T.aS, i⟩ : Loc) ∉ locs := fun i hmem => by
    have := hlocs _ hmem cellS0 hcS0
    rw [hiss] at this; cases this
  have hknownS : cellS.vm ≠ .unknown := by
    rw [heS]; intro hu
    rw [show cellS0.vm = .unknown from hu] at hiss
    cases hiss
  have hneS : T.aS ≠ a := Nat.ne_of_lt (Nat.lt_of_lt_of_le (Array.getElem?_eq_some_iff.mp hcS0).1 hnew)
  obtain ⟨iM, hffM⟩ := Y.msg
  obtain ⟨tyC, dC, hdC, hdnC⟩ := Cond.laysAt hfound hk Y.cause (a' (.lays cls Bundle.tN "cause" "Ljava/lang/Throwable;") (by simp [nAtoms]))
  obtain ⟨tyS, dS, hdS, hdnS⟩ := Cond.laysAt hfound hk Y.stack (a' (.lays cls Bundle.tN "stackTrace" Bundle.steD) (by simp [nAtoms]))
  obtain ⟨tyP, dP, hdP, hdnP⟩ := Cond.laysAt hfound hk Y.supp (a' (.lays cls Bundle.tN "suppressedExceptions" Bundle.listD) (by simp [nAtoms]))
  obtain ⟨tyM, dM, hdM, hdnM⟩ := Cond.laysAt hfound hk hffM (a' (.lays cls Bundle.tN "detailMessage" "Ljava/lang/String;") (by simp [nAtoms]))
  obtain ⟨tyB, dB, hdB, hdnB⟩ := Cond.laysAt hfound hk hffB (a' (.lays cls Bundle.tN "backtrace" "Ljava/lang/Object;") (by simp [nAtoms]))
  have bC := Cond.laysApart hdB hdC hdnB hdnC (by rw [hnB, Y.causeName]; decide)
  have bS := Cond.laysApart hdB hdS hdnB hdnS (by rw [hnB, Y.stackName]; decide)
  have bP := Cond.laysApart hdB hdP hdnB hdnP (by rw [hnB, Y.suppName]; decide)
  have hskip : SkipFacts T e.platform s (fun u => u) u0 ((preparedCellV T.toThrowableT (freshCell P1.m.cls kX) a u0 sen).withEntry W.cur) :=
    ⟨{ ci198 := ci198, i198 := i198, fBack := fB }, ⟨hk198, hg198, ha198, hsB⟩, by
      have := fresh_default (c := P1.m.cls) tyB
      rw [htB] at this
      simpa [preparedCellV, Cell.setSlot, Cell.withEntry, Array.getElem?_setIfInBounds, bC, bS, bP, bC.symm, bS.symm, bP.symm, defaultValue] using this, fun _ _ => rfl⟩
  obtain ⟨tm, methC, cdC, kC, vm₁, hnC, -, -, -, -, -, -, -, hW₁, st1⟩ := Steps.initColdS (tb := p.tables) (e := e) (below := below) (s := s) (U := W) X.here hexec X.warmed hpl hown (t := Bundle.initS cls) rfl rfl (Bundle.fit_spec hcls).2
    (a' (.methodLink own ic (Bundle.initS cls)) (by simp [nAtoms])) (h (.instanceMethod (Bundle.initS cls)) (by cases names <;> simp [nAtoms, nChain, Bundle.passSAtoms])) (bytes := rx) (maxL := 2) (h (.code (Bundle.initS cls) rx 2 none) (by cases names <;> simp [nAtoms, nChain, Bundle.passSAtoms]))
    (f := g) hg (a := a) (msg := msg) (rest := .ref a :: rest) hstack hd6
  cases Option.some.inj (hnC.symm.trans hP1m)
  have X₁ := X.noted hW₁
  obtain ⟨vm₂, X₂, st2⟩ := X₁.ctorMessageOffV hexec (g := { g with stack := .ref a :: rest }) hg hsize T L Z LZ M LM (P1 :: Ps)
    (fun P hP => by rcases List.mem_cons.mp hP with rfl | hP; exact L1; exact hL P hP) ⟨hlink1, hlink⟩ (u0 := u0) (sen := sen) (self := a) hmsg (cell := freshCell P1.m.cls kX) (cellS := cellS)
    hcell (fun _ => by simp) (by simp) rfl rfl hsel0 hselF hcellS hneS hknownS (by rw [hkeep _ (hout' _)]; exact hu0) (by rw [hkeep _ (hout' _)]; exact hsen)
    (Takes.of_laid hk hord tyC (by rw [Y.causeType]; rfl)) (Takes.of_laid hk hord tyS (by rw [Y.stackType]; exact fits_refV_array _ u0)) (Takes.of_laid hk hord tyP (by rw [Y.suppType]; exact fits_refV_object _ sen))
    (Takes.of_laid hk hord tyM (by rw [Y.msgType]; exact fits_refV_object _ ⟨msg, hmsg⟩)) Y.objLocals hskip htr [] hd6
    (by simp only [List.length_cons, hlen]; omega) (by simp only [List.length_cons, hlen]; exact hRlocals)
  have hlt : a < ((W.setVm vm₁).setVm vm₂).heap.size := (Array.getElem?_eq_some_iff.mp hcell).1
  refine ⟨(W.setVm vm₁).setVm vm₂, _, _, X₂, fun y hy => ?_, hlt, rfl, rfl, fun target hwalk => st1 _ (fun acts => ?_)⟩
  · simp only [List.mem_cons, List.not_mem_nil, or_false] at hy
    rcases hy with rfl | rfl | rfl | rfl | rfl <;> rfl
  · rw [doInvoke_state]
    exact st2 _ hwalk
set_option maxHeartbeats 2000000 in
theorem nx_ctorThrow (X : Stand p l e R s m₀ args below meth c W locs cells slots) (hexec : p.tables.exec = Jvm.exec) (htr : e.platform.stackTraces = false) {own cls : String} {names : List String} {ic ix : Nat} {rx : ByteArray} (x0 : decode rx 0 = .ok (.aload_n 0, 1)) (x1 : decode rx 1 = .ok (.aload_n 1, 1)) (x2 : decode rx 2 = .ok (.invokespecial ix, 3)) (x5 : decode rx 5 = .ok (.return_, 1))
    (hown : s.vm.findClass own = some m₀.cls) (hcls : Bundle.fit cls = true) (hnames : ∀ n ∈ names, Bundle.fit n = true)
    (h : ∀ a ∈ nAtoms own ic cls ix rx names, a.before args s = true)
    (hlocs : ∀ x ∈ locs, ∀ cell, s.heap[x.base]? = some cell → cell.vm.isStatics = false)
    {a : Addr} {cX : ClassId} {kX : Class} (hfoundX : s.vm.findClass cls = some cX) (hkX : s.vm.classes[cX]? = some kX) (hcell : W.heap[a]? = some (freshCell cX kX)) (hnew : s.heap.size ≤ a)
    {msg : Value} (hmsg : msg.isRef = true)
    {g : JFrame} (hg : g.method = m₀) (hsize : g.locals.size = c.maxLocals) (hlocked : g.locked = none) (hentered : g.entered = []) {rest : List Value} (hstack : g.stack = msg :: .ref a :: .ref a :: rest)
    (hd6 : decode c.code g.pc = .ok (.invokespecial ic, 3)) (hd9 : decode c.code (g.pc + 3) = .ok (.athrow, 1)) (hout : ∀ x ∈ c.exceptionTable.toList, covers x (g.pc + 3) = false)
    (hRframes : names.length + 3 < R.frames) (hRlocals : 2 * g.monitorRoom + ((Value.ref a :: rest).map fun v => v.category).sum + (13 * (names.length + 1) + 42) ≤ R.locals) (hlocks : meth.locks = false) :
    ∃ U : State, Steps p.tables e below (W.setTop g) U ∧ U.status = .running ∧ Ended U below (.threw a) ∧ s.WarmedH U.vm ∧ s.sameButNew ({ U with vm := s.vm } : State) locs cells slots ∧
      ∃ ce, U.heap[a]? = some ce ∧ ce.cls = cX ∧ ce.vm = .none := by
  obtain ⟨V, ce, L, X₂, hL, hlt, hcc, hcv, st⟩ := nx_ctorMade X hexec htr x0 x1 x2 x5 hown hcls hnames h hlocs hfoundX hkX hcell hnew hmsg hg hsize hstack hd6 hRframes hRlocals
  obtain ⟨hwalk, hrun, hended, hWU, hsame⟩ := X₂.athrowLeaves hexec (g := { g with stack := .ref a :: rest, pc := g.pc + 3 }) hg hlocked hentered hout (a := a) (rest := rest) rfl hd9
  have hU := heapAt_setCell_self (s := V) ce hlt
  refine ⟨_, st _ hwalk, hrun, hended, hWU, hsame.weaken (fun y hy hlt' => ?_) (Nat.le_refl _) (Nat.le_refl _), ce, hU, hcc, hcv⟩
  rcases List.mem_append.mp hy with h1 | h1
  · exact h1
  · exfalso
    rw [hL y h1] at hlt'
    exact Nat.not_lt.mpr hnew hlt'
end NX
section NY
variable {p : Program} {l : Launch} {e : Env} {R : Room} {s : State} {m : MethodId} {args : Array Value} {below : List Frame} {meth : Method} {c : Code} {H : Heap} {locs : List Loc} {cells slots : Nat} {Q : State → Prop}
variable {mc ms : Nat} {free : Addr → Prop} {A0 A1 : Nat → Prop} {H0 : Heap} {a : Array Value} {ls : Array Slot} {st0 rest : List Value}
variable {Qc : Array Value → State → Outcome → State → Prop} {XC : String → State → State → Prop}
set_option maxHeartbeats 2000000 in
theorem nx_throw {cc : ByteArray} {pc : Nat} (hexec : p.tables.exec = Jvm.exec) (hb : c.code = cc) (hl : l.stackTraces = false) {own cls text : String} {names : List String} {ik is ic ix mc ms sa : Nat} {rx : ByteArray} (x0 : decode rx 0 = .ok (.aload_n 0, 1)) (x1 : decode rx 1 = .ok (.aload_n 1, 1)) (x2 : decode rx 2 = .ok (.invokespecial ix, 3)) (x5 : decode rx 5 = .ok (.return_, 1)) {A : Nat → Prop}
    (hown : s.vm.findClass own = some m.cls) (hcls : Bundle.fit cls = true) (hnames : ∀ n ∈ names, Bundle.fit n = true)
    (hk : (Cond.classLink own ik cls).before args s = true) (hini : (Cond.initialized cls).before args s = true) (hstr : vk_R own is text sa s) (hat : ∀ w ∈ (nAtoms own ic cls ix rx names).filter vx_no, w.before args s = true)
    (hgood : ∀ w ∈ Cond.classLink own ik cls :: Cond.initialized cls :: (nAtoms own ic cls ix rx names).filter vx_no, vx_ot w = true)
    (hU : vx_Zq Bundle.tN "UNASSIGNED_STACK" Bundle.steD A s s.heap) (hN : vx_Zq Bundle.tN "SUPPRESSED_SENTINEL" Bundle.listD A s s.heap) (hS : va_S A s.heap H locs) (hsize : ls.size = c.maxLocals)
    (d0 : decode cc pc = .ok (.new ik, 3)) (d3 : decode cc (pc + 3) = .ok (.dup, 1)) (d4 : decode cc (pc + 4) = .ok (.ldc_w is, 3)) (d7 : decode cc (pc + 7) = .ok (.invokespecial ic, 3)) (d10 : decode cc (pc + 10) = .ok (.athrow, 1))
    (hout : ∀ x ∈ c.exceptionTable.toList, covers x (pc + 10) = false)
    (hRframes : names.length + 3 < R.frames) (hRlocals : (rest.map fun v => v.category).sum + (13 * (names.length + 1) + 43) ≤ R.locals) (hRcells : cells + 1 ≤ R.cells) (hRslots : slots + 6 ≤ R.slots) (hlocks : meth.locks = false)
    (hx : ∀ t : State, s.vm.Alike t.vm → H.size ≤ t.heap.size → (∀ q : Nat, q < H.size → t.heap[q]? = H[q]?) → XC cls s t)
    (hf : ∀ z ∈ locs, free z.base) (hc : cells + 1 ≤ mc) (hs : slots + 6 ≤ ms) :
    W p l e R s m args below meth c H locs cells slots (vx_MQ below Qc XC args s mc ms free) (F0 m pc ls rest) := by
  intro T hT X
  have htr : e.platform.stackTraces = false := (show e.platform.stackTraces = l.stackTraces by rw [X.admits.platform]).trans hl
  have Y := vx_rebase X (R' := { frames := R.frames, locals := R.locals, cells := 1, slots := 6 }) (Nat.le_refl _) (Nat.le_refl _) hRcells hRslots
  obtain ⟨s', hA⟩ : ∃ z, z = (T.setVm s.vm).setFrames (.invoking m args :: below) := ⟨_, rfl⟩
  rw [← hA] at Y
  have hvm : s'.vm = s.vm := by rw [hA]; rfl
  have hhp : s'.heap = H := by rw [hA]; exact hT
  have hW0 : s.WarmedH s'.vm := by rw [hvm]; exact State.WarmedH.refl s
  have hat' : ∀ w ∈ (nAtoms own ic cls ix rx names).filter vx_no, w.before args s' = true := fun w hw => vx_ot_at hW0 hvm.symm (hgood w (List.mem_cons_of_mem _ (List.mem_cons_of_mem _ hw))) (hat w hw)
  have hk' : (Cond.classLink own ik cls).before args s' = true := vx_ot_at hW0 hvm.symm (hgood _ List.mem_cons_self) hk
  have hini' : (Cond.initialized cls).before args s' = true := vx_ot_at hW0 hvm.symm (hgood _ (List.mem_cons_of_mem _ List.mem_cons_self)) hini
  have hU' : vx_Zq Bundle.tN "UNASSIGNED_STACK" Bundle.steD A s' s'.heap := by rw [hhp]; exact vx_Zq.moved hW0.alike (hU.kept hS.2.1)
  have hN' : vx_Zq Bundle.tN "SUPPRESSED_SENTINEL" Bundle.listD A s' s'.heap := by rw [hhp]; exact vx_Zq.moved hW0.alike (hN.kept hS.2.1)
  have h : ∀ w ∈ nAtoms own ic cls ix rx names, w.before args s' = true := vx_own hat' (vx_isRefq hU'.1) (vx_isRefq hN'.1) hU'.2.word hN'.2.word
  have hown' : s'.vm.findClass own = some m.cls := by rw [hvm]; exact hown
  have hins : (Cond.instantiable cls 6).before args s' = true := h _ (by simp [nAtoms])
  obtain ⟨vm₁, cX, kX, hfX, hkX, -, -, X₁, st1⟩ := Y.newCold hexec (own := own) (C := cls) (index := ik) (n := 6) hown' hk' hins hini'
    (g := F0 m pc ls rest) rfl (by rw [hb]; exact d0) (Nat.le_refl _) (Nat.le_refl _)
  generalize hT1 : (T.setVm vm₁).pushCell { cls := cX, slots := kX.instanceTypes.map defaultValue, vm := .none } = T1 at X₁ st1
  have hcat : (Value.ref T.heap.size).category = 1 := rfl
  have hcellA : T1.heap[T.heap.size]? = some (freshCell cX kX) := by rw [← hT1]; exact State.heap_pushCell_size _ _
  have d3' : decode c.code (pc + 3) = .ok (.dup, 1) := by rw [hb]; exact d3
  have d4' : decode c.code (pc + 4) = .ok (.ldc_w is, 3) := by rw [hb]; exact d4
  have hstr' : vk_R own is text sa s' := vk_R.warm hW0 hstr
  obtain ⟨U, hsteps, hrun, hend, hW, hsame, ce, hce, hO, hOv⟩ := nx_ctorThrow X₁ hexec htr x0 x1 x2 x5 (own := own) (cls := cls) (names := names) (ic := ic) hown' hcls hnames h (fun x hx => nomatch hx) hfX hkX hcellA (by rw [hhp, hT]; exact Nat.le_refl _) (msg := .ref sa) rfl
    (g := { method := m, pc := pc + 7, locals := ls, stack := .ref sa :: .ref T.heap.size :: .ref T.heap.size :: rest, locked := none }) rfl hsize rfl rfl (rest := rest) rfl
    (by rw [hb]; exact d7) (by rw [hb]; exact d10) hout hRframes (by simp only [List.map_cons, List.sum_cons, hcat]; omega) hlocks
  obtain ⟨f1, f2⟩ := vx_frame hsame
  rw [hhp] at f1 f2
  have hWs : s.WarmedH U.vm := State.WarmedH.trans hW0 hW
  have hcl : s.vm.findClass cls = some ce.cls := by
    rw [hO, ← hvm]
    exact hfX
  have hall : s.sameButNew ({ U with vm := s.vm } : State) locs mc ms := by
    subst hA
    obtain ⟨e1, e2⟩ := hsame
    rw [State.setFrames_setFrames] at e1
    have h2 : (T.setVm s.vm).sameButNew ({ U with vm := s.vm } : State) [] (0 + 1) (0 + 6) := ⟨e1, e2⟩
    have h3 := X.same.trans h2
    rw [List.append_nil] at h3
    exact h3.mono hc hs
  refine ⟨U, ?_, .threw T.heap.size, hrun, hend, Or.inr ⟨T.heap.size, rfl, cls, ce, locs, hx U hWs.alike f1 (fun q hq => f2 q hq (fun z hz => nomatch hz)), hce, hOv, hcl, hWs, hall, hf⟩⟩
  refine st1 _ ?_
  show Steps p.tables e below (T1.setTop { method := m, pc := pc + 3, locals := ls, stack := .ref T.heap.size :: rest, locked := none }) _
  jvm_step X₁.here [X₁.here.top, hexec, d3', Value.category]
  exact X₁.ldcStringW hexec (own := own) (text := text) (index := is) (a := sa) hown' hstr'.1 hstr'.2
    (g := { method := m, pc := pc + 4, locals := ls, stack := .ref T.heap.size :: .ref T.heap.size :: rest, locked := none }) rfl d4' _ hsteps
end NY
end
section
def EXN : List String := ["java/lang/RuntimeException", "java/lang/Exception"]
def tchk (q : Nat × Nat × Nat × Nat × Bool × Nat × String) : Bool := match q with
  | (key, ik, is, ic, wide, si, E) =>
    [decide (key / 1000 < mT.length), decide (mC (key / 1000) = 8), decide (decode (mB (key / 1000)) (key % 1000) = .ok (.new ik, 3)), decide (decode (mB (key / 1000)) (key % 1000 + 3) = .ok (.dup, 1)),
     (if wide then decide (decode (mB (key / 1000)) (key % 1000 + 4) = .ok (.ldc_w is, 3)) && (decide (decode (mB (key / 1000)) (key % 1000 + 7) = .ok (.invokespecial ic, 3)) && decide (decode (mB (key / 1000)) (key % 1000 + 10) = .ok (.athrow, 1)))
      else decide (decode (mB (key / 1000)) (key % 1000 + 4) = .ok (.ldc is, 2)) && (decide (decode (mB (key / 1000)) (key % 1000 + 6) = .ok (.invokespecial ic, 3)) && decide (decode (mB (key / 1000)) (key % 1000 + 9) = .ok (.athrow, 1)))),
     sL.any (fun z => z.1 == 80000 + is && z.2.1 == si), decide (is < 10000), lw_tb2.contains (.classLink (cN 8) ik E), lw_tb2.contains (.initialized E), decide (6 ≤ mFr (key / 1000)), decide (88 ≤ mLo (key / 1000)),
     ((ic, E) == (74, "java/lang/IllegalStateException") || (ic, E) == (84, "java/lang/IllegalArgumentException")) || ((ic, E) == (288, "java/util/NoSuchElementException") && wide)].all id
theorem tX_ok : tX.all tchk = true := by decide +kernel
def tw_ok (ic : Nat) (E : String) : Bool := Bundle.fit E && ((vx_atS (cN 8) ic E EXN).all (fun w => vx_ot w && ((goodWord w && lw_tb2.contains w) || nW.contains w)) && (vx_ot (.initialized E)))
theorem tw_1 : tw_ok 74 "java/lang/IllegalStateException" = true := by decide +kernel
theorem tw_2 : tw_ok 84 "java/lang/IllegalArgumentException" = true := by decide +kernel
theorem tw_names : ∀ n ∈ EXN, Bundle.fit n = true := by decide +kernel
theorem tw_3 : ((nAtoms (cN 8) 288 "java/util/NoSuchElementException" 13 prog_46_method_4_code EXN).filter vx_no).all (fun w => vx_ot w && ((goodWord w && lw_tb2.contains w) || nW.contains w)) = true := by decide +kernel
theorem nW_tab : ∀ w ∈ nW, w.onTables = true := by decide +kernel
section SIM
variable {l : Launch} {K J : Nat → Nat} {mi pc n : Nat} {L : VL} {st : List Value} {sh : HS} {I : HI} {R : HR} {c : Nat × Nat} {F : VF} {ins : Instr}
theorem nse_throw {p : Program} {e : Env} {Rm : Room} {s : State} {m : MethodId} {args : Array Value} {below : List Frame} {meth : Method} {cd : Code} {H : Heap} {locs : List Loc} {cells slots : Nat} {ls : Array Slot} {rest : List Value} {Qc : Array Value → State → Outcome → State → Prop} {XC : String → State → State → Prop} {free : Addr → Prop} {cc : ByteArray}
    (hexec : p.tables.exec = Jvm.exec) (hb : cd.code = cc) (hl : l.stackTraces = false) {text : String} {ik is mc ms sa : Nat} {A : Nat → Prop}
    (hown : s.vm.findClass (cN 8) = some m.cls) (hk : (Cond.classLink (cN 8) ik "java/util/NoSuchElementException").before args s = true) (hini : (Cond.initialized "java/util/NoSuchElementException").before args s = true) (hstr : vk_R (cN 8) is text sa s) (hts : ∀ w ∈ wAll, w.before args s = true) (hnw : ∀ w ∈ nW, va_Nw w s)
    (hU : vx_Zq Bundle.tN "UNASSIGNED_STACK" Bundle.steD A s s.heap) (hN : vx_Zq Bundle.tN "SUPPRESSED_SENTINEL" Bundle.listD A s s.heap) (hS : va_S A s.heap H locs) (hsize : ls.size = cd.maxLocals)
    (d0 : decode cc pc = .ok (.new ik, 3)) (d3 : decode cc (pc + 3) = .ok (.dup, 1)) (d4 : decode cc (pc + 4) = .ok (.ldc_w is, 3)) (d7 : decode cc (pc + 7) = .ok (.invokespecial 288, 3)) (d10 : decode cc (pc + 10) = .ok (.athrow, 1))
    (hout : ∀ x ∈ cd.exceptionTable.toList, covers x (pc + 10) = false)
    (hRframes : EXN.length + 3 < Rm.frames) (hRlocals : (rest.map fun v => v.category).sum + (13 * (EXN.length + 1) + 43) ≤ Rm.locals) (hRcells : cells + 1 ≤ Rm.cells) (hRslots : slots + 6 ≤ Rm.slots) (hlocks : meth.locks = false)
    (hx : ∀ t : State, s.vm.Alike t.vm → H.size ≤ t.heap.size → (∀ q : Nat, q < H.size → t.heap[q]? = H[q]?) → XC "java/util/NoSuchElementException" s t)
    (hf : ∀ z ∈ locs, free z.base) (hc : cells + 1 ≤ mc) (hs : slots + 6 ≤ ms) :
    W p l e Rm s m args below meth cd H locs cells slots (vx_MQ below Qc XC args s mc ms free) (F0 m pc ls rest) := by
  have hat : ∀ w ∈ (nAtoms (cN 8) 288 "java/util/NoSuchElementException" 13 prog_46_method_4_code EXN).filter vx_no, w.before args s = true := by
    intro w hw
    have h0 := List.all_eq_true.mp tw_3 w hw
    simp only [Bool.and_eq_true, Bool.or_eq_true] at h0
    rcases h0.2 with ⟨q1, q2⟩ | q2
    · exact hts _ (mem_of_contains q2 q1)
    · have q3 : w ∈ nW := by simpa using q2
      exact va_Nw.use (nW_tab w q3) (hnw w q3)
  have hgood : ∀ w ∈ Cond.classLink (cN 8) ik "java/util/NoSuchElementException" :: Cond.initialized "java/util/NoSuchElementException" :: (nAtoms (cN 8) 288 "java/util/NoSuchElementException" 13 prog_46_method_4_code EXN).filter vx_no, vx_ot w = true := by
    intro w hw
    rcases List.mem_cons.mp hw with rfl | hw
    · rfl
    · rcases List.mem_cons.mp hw with rfl | hw
      · rfl
      · have h0 := List.all_eq_true.mp tw_3 w hw
        simp only [Bool.and_eq_true] at h0
        exact h0.1
  exact nx_throw (own := cN 8) (cls := "java/util/NoSuchElementException") (names := EXN) (ix := 13) (rx := prog_46_method_4_code) hexec hb hl (by decide +kernel) (by decide +kernel) (by decide +kernel) (by decide +kernel) hown (by decide +kernel) tw_names hk hini hstr hat hgood hU hN hS hsize d0 d3 d4 d7 d10 hout hRframes hRlocals hRcells hRslots hlocks hx hf hc hs
theorem sim_thr {E : String} (h : (if pc < 1000 then tL.lookup (mi * 1000 + pc) else none) = some E) (h1 : c.1 + 1 ≤ mCe mi) (h2 : c.2 + 6 ≤ mSl mi) (h3 : catS st ≤ 6) (hF : F (.inr E) sh I R) : MW l K J mi pc L st sh I R c F := by
  intro D p e s m args below meth cd A H locs ls C hP hl hS
  obtain ⟨hx, hb, hml, hr, hown, hts, hlk, hin, hex, hK, hB, hA, htr, hmi⟩ := C
  have hpc : pc < 1000 := by
    by_cases q : pc < 1000
    · exact q
    · rw [if_neg q] at h; cases h
  rw [if_pos hpc] at h
  have hm := lkm _ _ _ h
  unfold tL at hm
  obtain ⟨q, hq, he⟩ := List.mem_map.mp hm
  have ht := List.all_eq_true.mp tX_ok q hq
  obtain ⟨key, ik, is, ic, wide, si, E'⟩ := q
  obtain ⟨rfl, rfl⟩ := Prod.mk.inj he
  unfold tchk at ht
  have k1 : (mi * 1000 + pc) / 1000 = mi := by omega
  have k2 : (mi * 1000 + pc) % 1000 = pc := by omega
  simp only [k1, k2, List.all_cons, List.all_nil, id_eq, Bool.and_eq_true, decide_eq_true_eq] at ht
  obtain ⟨-, g1, g2, g3, g4, g5, g6, g7, g8, g9, g10, g11, -⟩ := ht
  have hown8 : s.vm.findClass (cN 8) = some m.cls := by rw [← g1]; exact hown
  obtain ⟨zz, hz1, hz2⟩ := List.any_eq_true.mp g5
  simp only [Bool.and_eq_true, beq_iff_eq] at hz2
  have hstr := hB.2.1 zz hz1
  rw [hz2.1, show (80000 + is) / 10000 = 8 by omega, show (80000 + is) % 10000 = is by omega] at hstr
  have hU := hB.2.2.2.2.1
  have hN := hB.2.2.2.2.2.1
  have hcl : (Cond.classLink (cN 8) ik E').before args s = true := hts _ (mem_of_contains g7 rfl)
  have hini : (Cond.initialized E').before args s = true := hts _ (mem_of_contains g8 rfl)
  have hout : ∀ z, ∀ x ∈ cd.exceptionTable.toList, covers x z = false := fun _ x hx0 => (hex x hx0).elim
  have fr : EXN.length + 3 < (mRm mi).frames := by show 5 < mFr mi; omega
  have lo1 : (st.map fun v => v.category).sum + (13 * (EXN.length + 1) + 43) ≤ (mRm mi).locals := by
    show (st.map fun v => v.category).sum + 82 ≤ mLo mi
    unfold catS at h3
    omega
  have hxx : ∀ t : State, s.vm.Alike t.vm → H.size ≤ t.heap.size → (∀ q : Nat, q < H.size → t.heap[q]? = H[q]?) → XF D A F E' s t := by
    intro t hv hsz ho
    refine ⟨sh, I, R, hF, ?_, ⟨Nat.le_trans hS.1 hsz, fun q q1 q2 => (ho q (Nat.lt_of_lt_of_le q1 hS.1)).trans (hS.2.1 q q1 q2)⟩⟩
    intro b t' n' hb0
    obtain ⟨r1, r2, r3⟩ := hP b t' n' hb0
    exact ⟨r1, Nat.lt_of_lt_of_le r2 hsz, rc_moved hv (rc_off r3 (ho b r2) (fun _ => rfl) (fun _ => rfl))⟩
  by_cases hE : (ic, E') = (288, "java/util/NoSuchElementException")
  · obtain ⟨rfl, rfl⟩ := Prod.mk.inj hE
    have hwd : wide = true := by
      simp only [Bool.or_eq_true, Bool.and_eq_true, beq_iff_eq, Prod.mk.injEq] at g11
      rcases g11 with (⟨z, -⟩ | ⟨z, -⟩) | ⟨-, z⟩
      · cases z
      · cases z
      · exact z
    subst hwd
    simp only [if_true, Bool.and_eq_true, decide_eq_true_eq] at g4
    exact nse_throw hx hb htr hown8 hcl hini hstr hts hB.2.2.1 hU hN hS (by rw [hl.1, hml]) g2 g3 g4.1 g4.2.1 g4.2.2 (hout _) fr lo1 h1 h2 hlk hxx hS.2.2 h1 h2
  have hw : tw_ok ic E' = true := by
    simp only [Bool.or_eq_true, Bool.and_eq_true, beq_iff_eq, Prod.mk.injEq] at g11
    rcases g11 with (⟨rfl, rfl⟩ | ⟨rfl, rfl⟩) | ⟨⟨rfl, rfl⟩, -⟩
    · exact tw_1
    · exact tw_2
    · exact absurd rfl hE
  unfold tw_ok at hw
  simp only [Bool.and_eq_true] at hw
  obtain ⟨w1, w2, w3⟩ := hw
  have hat : ∀ w ∈ vx_atS (cN 8) ic E' EXN, w.before args s = true := by
    intro w hw
    have := List.all_eq_true.mp w2 w hw
    simp only [Bool.and_eq_true, Bool.or_eq_true] at this
    rcases this.2 with ⟨q1, q2⟩ | q2
    · exact hts _ (mem_of_contains q2 q1)
    · have q3 : w ∈ nW := by simpa using q2
      exact va_Nw.use (nW_tab w q3) (hB.2.2.1 w q3)
  have hgood : ∀ w ∈ Cond.classLink (cN 8) ik E' :: Cond.initialized E' :: vx_atS (cN 8) ic E' EXN, vx_ot w = true := by
    intro w hw
    rcases List.mem_cons.mp hw with rfl | hw
    · rfl
    · rcases List.mem_cons.mp hw with rfl | hw
      · exact w3
      · have := List.all_eq_true.mp w2 w hw
        simp only [Bool.and_eq_true] at this
        exact this.1
  cases wide with
  | true =>
    simp only [if_true, Bool.and_eq_true, decide_eq_true_eq] at g4
    exact vx_throwSW (names := EXN) hx hb htr hown8 w1 tw_names hcl hini hstr hat hgood hU hN hS (by rw [hl.1, hml]) g2 g3 g4.1 g4.2.1 g4.2.2 (hout _) fr lo1 h1 h2 hlk hxx hS.2.2 h1 h2
  | false =>
    simp only [Bool.false_eq_true, if_false, Bool.and_eq_true, decide_eq_true_eq] at g4
    exact vx_throwS (names := EXN) hx hb htr hown8 w1 tw_names hcl hini hstr hat hgood hU hN hS (by rw [hl.1, hml]) g2 g3 g4.1 g4.2.1 g4.2.2 (hout _) fr lo1 h1 h2 hlk hxx hS.2.2 h1 h2
theorem qf_of {D : va_G} {s t : State} {A : Nat → Prop} {H : Heap} {locs : List Loc} {args : Array Value} {v : Option Value} (hP : RP D s A sh I R H) (hS : va_S A s.heap H locs) (hF : F (.inl v) sh I R) (ht : t.heap = H) (hw : s.vm.Alike t.vm) : QF D A F args s (.returned v) t := by
  refine ⟨v, sh, I, R, rfl, hF, ?_, hS.F ht⟩
  rw [ht]
  exact RP.moved hw hP
theorem sim_vret (hd : decode (mB mi) pc = .ok (.return_, n)) (hn : n = iln .return_ n) (hr0 : mRt mi = none) (h1 : c.1 ≤ mCe mi) (h2 : c.2 ≤ mSl mi) (hF : F (.inl none) sh I R) : MW l K J mi pc L [] sh I R c F := by
  intro D p e s m args below meth cd A H locs ls C hP hl hS
  obtain ⟨hx, hb, hml, hr, hown, hts, hlk, hin, hex, hK, hB, hA, htr, hmi⟩ := C
  simp only [iln] at hn
  subst hn
  exact W.widen h1 h2 (vx_ret (W.vret hx hb (by rw [hr, hr0]) (fun t ht hW => qf_of hP hS hF ht hW.alike) hS.2.2 hd hlk))
theorem sim_iret {x : Int32} (hd : decode (mB mi) pc = .ok (.ireturn, n)) (hn : n = iln .ireturn n) (hr0 : ∃ ty, mRt mi = some ty ∧ narrow ty (.int x) = .int x) (h1 : c.1 ≤ mCe mi) (h2 : c.2 ≤ mSl mi) (hF : F (.inl (some (.int x))) sh I R) : MW l K J mi pc L [.int x] sh I R c F := by
  intro D p e s m args below meth cd A H locs ls C hP hl hS
  obtain ⟨hx, hb, hml, hr, hown, hts, hlk, hin, hex, hK, hB, hA, htr, hmi⟩ := C
  simp only [iln] at hn
  subst hn
  obtain ⟨ty, hr1, hr2⟩ := hr0
  exact W.widen h1 h2 (vx_ret (W.zret hx hb (by rw [hr, hr1]) hr2 (fun t ht hW => qf_of hP hS hF ht hW.alike) hS.2.2 hd hlk))
theorem sim_aret {x : Nat} (hd : decode (mB mi) pc = .ok (.areturn, n)) (hn : n = iln .areturn n) (hr0 : ∃ d, mRt mi = some (.object d)) (h1 : c.1 ≤ mCe mi) (h2 : c.2 ≤ mSl mi) (hF : F (.inl (some (.ref x))) sh I R) : MW l K J mi pc L [.ref x] sh I R c F := by
  intro D p e s m args below meth cd A H locs ls C hP hl hS
  obtain ⟨hx, hb, hml, hr, hown, hts, hlk, hin, hex, hK, hB, hA, htr, hmi⟩ := C
  simp only [iln] at hn
  subst hn
  obtain ⟨d, hr1⟩ := hr0
  exact W.widen h1 h2 (vx_ret (W.aret hx hb (by rw [hr, hr1]) (Or.inl ⟨d, rfl⟩) (Or.inr ⟨x, rfl⟩) (fun t ht hW => qf_of hP hS hF ht hW.alike) hS.2.2 hd hlk))
theorem sim_dret {x : UInt64} (hd : decode (mB mi) pc = .ok (.dreturn, n)) (hn : n = iln .dreturn n) (hr0 : mRt mi = some .double) (h1 : c.1 ≤ mCe mi) (h2 : c.2 ≤ mSl mi) (hF : F (.inl (some (.double x))) sh I R) : MW l K J mi pc L [.double x] sh I R c F := by
  intro D p e s m args below meth cd A H locs ls C hP hl hS
  obtain ⟨hx, hb, hml, hr, hown, hts, hlk, hin, hex, hK, hB, hA, htr, hmi⟩ := C
  simp only [iln] at hn
  subst hn
  exact W.widen h1 h2 (vx_ret (W.dret hx hb (by rw [hr, hr0]) (fun t ht hW => qf_of hP hS hF ht hW.alike) hS.2.2 hd hlk))
theorem sim_mm {ix : Nat} {x y : Int32} {a b code : Nat} {z : Int32} (hd : decode (mB mi) pc = .ok (.invokestatic ix, n)) (hn : n = iln (.invokestatic ix) n) (hf : lk2 kL (mC mi) ix = some (code, a, b)) (hz : (code = 1000 ∧ z = if y < x then y else x) ∨ (code = 1001 ∧ z = if x < y then y else x)) (hg : VmG mi c st)
    (hk : MW l K J mi (pc + 3) L (.int z :: st) sh I R c F) : MW l K J mi pc L (.int y :: .int x :: st) sh I R c F := by
  intro D p e s m args below meth cd A H locs ls C hP hl hS
  have kk := hk D p e s m args below meth cd A H locs ls C hP hl hS
  obtain ⟨hx, hb, hml, hr, hown, hts, hlk, hin, hex, hK, hB, hA, htr, hmi⟩ := C
  simp only [iln] at hn
  subst hn
  obtain ⟨g1, g2, g3, g4, g5⟩ := hg
  unfold catS at g1
  have hlo : (st.map fun v => v.category).sum + 13 ≤ (mRm mi).locals := by show _ ≤ mLo mi; omega
  rcases hz with ⟨rfl, rfl⟩ | ⟨rfl, rfl⟩
  · exact va_mmin hx hb (by rw [hml, hl.1]) hown (hts _ (kl_sp hf (by decide))) (hts _ m_min.1) (hts _ m_min.2.2) (hts _ m_min.2.1) g2 hlo g4 g5 hd kk
  · exact va_mmax hx hb (by rw [hml, hl.1]) hown (hts _ (kl_sp hf (by decide))) (hts _ m_max.1) (hts _ m_max.2.2) (hts _ m_max.2.1) g2 hlo g4 g5 hd kk
theorem sim_abs {ix : Nat} {x : Int32} {a b : Nat} (hd : decode (mB mi) pc = .ok (.invokestatic ix, n)) (hn : n = iln (.invokestatic ix) n) (hf : lk2 kL (mC mi) ix = some (1002, a, b)) (hg : VmG mi c st)
    (hk : MW l K J mi (pc + 3) L (.int (if 0 ≤ x then x else 0 - x) :: st) sh I R c F) : MW l K J mi pc L (.int x :: st) sh I R c F := by
  intro D p e s m args below meth cd A H locs ls C hP hl hS
  have kk := hk D p e s m args below meth cd A H locs ls C hP hl hS
  obtain ⟨hx, hb, hml, hr, hown, hts, hlk, hin, hex, hK, hB, hA, htr, hmi⟩ := C
  simp only [iln] at hn
  subst hn
  obtain ⟨g1, g2, g3, g4, g5⟩ := hg
  unfold catS at g1
  exact va_mabs hx hb (by rw [hml, hl.1]) hown (hts _ (kl_sp hf (by decide))) (hts _ m_abs.1) (hts _ m_abs.2.2) (hts _ m_abs.2.1) g2 (by show _ ≤ mLo mi; omega) g4 g5 hd kk
theorem sim_oin {ix : Nat} {x a b : Nat} (hd : decode (mB mi) pc = .ok (.invokespecial ix, n)) (hn : n = iln (.invokespecial ix) n) (hf : lk2 kL (mC mi) ix = some (1004, a, b)) (hg : VmG mi c st)
    (hk : MW l K J mi (pc + 3) L st sh I R c F) : MW l K J mi pc L (.ref x :: st) sh I R c F := by
  intro D p e s m args below meth cd A H locs ls C hP hl hS
  have kk := hk D p e s m args below meth cd A H locs ls C hP hl hS
  obtain ⟨hx, hb, hml, hr, hown, hts, hlk, hin, hex, hK, hB, hA, htr, hmi⟩ := C
  simp only [iln] at hn
  subst hn
  obtain ⟨g1, g2, g3, g4, g5⟩ := hg
  unfold catS at g1
  exact W.objInit hx hb hown (hts _ (kl_sp hf (by decide))) (hts _ m_obj.1) (hts _ m_obj.2) rfl (by show ls.size = _; rw [hl.1, hml]) rfl hd g2 (by show 2 * 0 + _ + 12 ≤ mLo mi; omega) kk
end SIM
end
section
def mchkT : MTy → Bool
  | (y, b, ml, r, (c, kd, na), _, (p1, p2, p3, p4)) =>
  [(if kd = 0 then decide (lw_tb2[p2]? = some (.static y)) else decide (lw_tb2[p2]? = some (.instanceMethod y))),
   (if kd = 1 then decide (lw_tb2[p3]? = some (.selects (cN (rcN c)) y y)) else true),
   decide (lw_tb2[p4]? = some (.initialized y.cls)), decide (y.cls = cN c), plainName y.cls,
   decide (y.cls ≠ "java/lang/invoke/MethodHandle"), decide (y.cls ≠ "java/lang/invoke/VarHandle"),
   decide ((parseMethodDescriptor y.desc).map (fun d => d.parameters.length) = some (if kd = 0 then na else na - 1)),
   (if kd = 2 then decide (y.name = "<init>") && decide (r = none) else true), (if kd = 0 then true else decide (0 < na)),
   (if rcN c < 15 then decide ((vwCl[rcN c]?).map (fun r => r.1) = some (cN (rcN c))) else true), (if c = 14 then decide (cN c = "java/lang/String") else true), decide (kd < 6)].all id
theorem mT_ok0 : mT0.all mchkT = true := by decide +kernel
theorem mT_ok1 : mT1.all mchkT = true := by decide +kernel
theorem mT_ok2 : mT2.all mchkT = true := by decide +kernel
theorem mT_ok3 : mT3.all mchkT = true := by decide +kernel
theorem mT_ok4 : mT4.all mchkT = true := by decide +kernel
theorem mT_ok5 : mT5.all mchkT = true := by decide +kernel
theorem mT_ok : mT.all mchkT = true := by
  unfold mT
  simp only [List.all_append, mT_ok0, mT_ok1, mT_ok2, mT_ok3, mT_ok4, mT_ok5, Bool.and_self]
theorem mG_in {k : Nat} (hk : k < mT.length) : mG k ∈ mT := by
  unfold mG
  rw [List.getD_eq_getElem?_getD, List.getElem?_eq_getElem hk]
  exact List.getElem_mem hk
theorem mt_at {k : Nat} (hk : k < mT.length) : mchkT (mG k) = true := List.all_eq_true.mp mT_ok _ (mG_in hk)
end
section
def codeW (q : MTy) : Cond := .code q.1 q.2.1 q.2.2.1 q.2.2.2.1
set_option maxRecDepth 100000 in
theorem code_0 : mT0.map codeW = [232, 1086, 1341, 1049, 1355, 1272, 1423, 1427, 1387, 371, 1082, 983, 1005, 1032, 1037, 1045, 1061, 1065, 1077, 1040, 1069, 1024, 1020, 1028, 1016, 987, 994, 1001, 1010, 990, 997, 1275, 1519, 1566, 1284, 1287, 1290, 399, 1099, 1144].filterMap (fun i => lw_tb2[i]?) := rfl
set_option maxRecDepth 100000 in
theorem code_1 : mT1.map codeW = [488, 462, 241, 1053, 1073, 1090, 418, 1154, 1157, 1612, 1617, 272, 1360, 1095, 1166, 1293, 1301, 1177, 1527, 1160, 1278, 226, 927, 955, 959, 979, 1438, 1337, 1549, 1545, 1485, 1127, 1247, 1260, 1347, 1367, 1376, 1383, 1408, 1415].filterMap (fun i => lw_tb2[i]?) := rfl
set_option maxRecDepth 100000 in
theorem code_2 : mT2.map codeW = [1489, 1495, 1501, 1507, 1524, 1536, 1372, 1557, 1563, 1516, 1627, 1604, 1587, 1608, 1631, 1131, 1135, 1268, 1251, 1351, 1591, 1263, 1140, 1103, 1150, 1419, 1431, 1056, 1281, 1298, 1169, 1172, 81, 1214, 1217, 1207, 1211, 1203, 1324, 1332].filterMap (fun i => lw_tb2[i]?) := rfl
set_option maxRecDepth 100000 in
theorem code_3 : mT3.map codeW = [1512, 1198, 1320, 1316, 1312, 1183, 1595, 1600, 1622, 542, 89, 169, 165, 1107, 1122, 1114, 1243, 161, 157, 1400, 1391, 1395, 1404, 734, 739, 763, 772, 776, 693, 690, 1221, 1230, 1190, 1193, 1305, 1328, 547, 579, 709, 684].filterMap (fun i => lw_tb2[i]?) := rfl
set_option maxRecDepth 100000 in
theorem code_4 : mT4.map codeW = [847, 867, 852, 641, 912, 1474, 1448, 678, 855, 1459, 645, 916, 724, 623, 72, 76, 153, 150, 907, 221, 1110, 1363, 1379, 1411, 1434, 1481, 1530, 1541, 1553, 1580, 919, 715, 1453, 662, 727, 628, 1117, 550, 869, 590].filterMap (fun i => lw_tb2[i]?) := rfl
set_option maxRecDepth 100000 in
theorem code_5 : mT5.map codeW = [594, 582, 712, 687, 861, 611, 654, 650, 182, 207, 599, 879, 873, 876, 172, 1233, 92, 95].filterMap (fun i => lw_tb2[i]?) := rfl
theorem code_in {q : MTy} (h : q ∈ mT) : codeW q ∈ lw_tb2 := by
  have key : ∀ (l : List MTy) (ps : List Nat), l.map codeW = ps.filterMap (fun i => lw_tb2[i]?) → q ∈ l → codeW q ∈ lw_tb2 := by
    intro l ps e hq
    have h1 : codeW q ∈ l.map codeW := List.mem_map.mpr ⟨q, hq, rfl⟩
    rw [e] at h1
    obtain ⟨i, -, hi⟩ := List.mem_filterMap.mp h1
    exact List.mem_of_getElem? hi
  unfold mT at h
  simp only [List.mem_append] at h
  rcases h with ((((h | h) | h) | h) | h) | h
  · exact key _ _ code_0 h
  · exact key _ _ code_1 h
  · exact key _ _ code_2 h
  · exact key _ _ code_3 h
  · exact key _ _ code_4 h
  · exact key _ _ code_5 h
end
section
theorem mt_f {q : Nat} (hq : q < mT.length) : Cond.code (mY q) (mB q) (mL q) (mRt q) ∈ wAll ∧ (mK q = 0 → Cond.static (mY q) ∈ wAll) ∧ (¬ mK q = 0 → Cond.instanceMethod (mY q) ∈ wAll) ∧ (mK q = 1 → Cond.selects (cN (rcN (mC q))) (mY q) (mY q) ∈ wAll) ∧ Cond.initialized (mY q).cls ∈ wAll ∧ (mY q).cls = cN (mC q) ∧ plainName (mY q).cls = true ∧
    ((mY q).cls ≠ "java/lang/invoke/MethodHandle" ∧ (mY q).cls ≠ "java/lang/invoke/VarHandle") ∧ (parseMethodDescriptor (mY q).desc).map (fun d => d.parameters.length) = some (if mK q = 0 then mN q else mN q - 1) ∧ (mK q = 2 → (mY q).name = "<init>" ∧ mRt q = none) ∧ (¬ mK q = 0 → 0 < mN q) ∧ (rcN (mC q) < 15 → (vwCl[rcN (mC q)]?).map (fun r => r.1) = some (cN (rcN (mC q)))) ∧ (mC q = 14 → cN (mC q) = "java/lang/String") := by
  have hm := mt_at hq
  unfold mchkT at hm
  simp only [List.all_cons, List.all_nil, id_eq, Bool.and_eq_true, decide_eq_true_eq] at hm
  obtain ⟨m3, m4, m5, m6, m7, m8, m9, m10, m11, m12, m13, m14, m15, -⟩ := hm
  refine ⟨List.mem_filter.mpr ⟨code_in (mG_in hq), rfl⟩, fun z => ?_, fun z => ?_, fun z => ?_, wAll_at m5 rfl, m6, m7, ⟨m8, m9⟩, m10, fun z => ?_, fun z => ?_, fun z => ?_, fun z => ?_⟩
  · have z2 : (mG q).2.2.2.2.1.2.1 = 0 := z
    rw [if_pos z2, decide_eq_true_eq] at m3
    exact wAll_at m3 rfl
  · have z2 : ¬ (mG q).2.2.2.2.1.2.1 = 0 := z
    rw [if_neg z2, decide_eq_true_eq] at m3
    exact wAll_at m3 rfl
  · have z2 : (mG q).2.2.2.2.1.2.1 = 1 := z
    rw [if_pos z2, decide_eq_true_eq] at m4
    exact wAll_at m4 rfl
  · have z2 : (mG q).2.2.2.2.1.2.1 = 2 := z
    rw [if_pos z2, Bool.and_eq_true, decide_eq_true_eq, decide_eq_true_eq] at m11
    exact m11
  · have z2 : ¬ (mG q).2.2.2.2.1.2.1 = 0 := z
    rw [if_neg z2, decide_eq_true_eq] at m12
    exact m12
  · have z2 : rcN (mG q).2.2.2.2.1.1 < 15 := z
    rw [if_pos z2, decide_eq_true_eq] at m13
    exact m13
  · have z2 : (mG q).2.2.2.2.1.1 = 14 := z
    rw [if_pos z2, decide_eq_true_eq] at m14
    exact m14
def wsM (k : Nat) : List Cond := Cond.code (mY k) (mB k) (mL k) (mRt k) :: wAll
theorem lg_len : ∀ (vs : List Value), (lg_sl vs).length = (entA vs).length
  | [] => rfl
  | v :: vs => by
    have h := lg_len vs
    unfold lg_sl at h ⊢
    rw [List.flatMap_cons, entA, List.length_append, h]
    by_cases c : v.category = 2
    · simp only [if_pos c, List.length_cons, List.length_nil]
      omega
    · simp only [if_neg c, List.length_cons, List.length_nil]
      omega
theorem ent_args : ∀ (vs : List Value) (b i : Nat) (v : Value), (entA vs)[i]? = some (some v) → (b + i, v) ∈ lv_args b vs
  | [], b, i, v, h => by simp [entA] at h
  | w :: vs, b, i, v, h => by
    rw [entA] at h
    rw [lv_args]
    by_cases c : w.category = 2
    · rw [if_pos c] at h ⊢
      rcases i with _ | _ | i
      · simp only [List.getElem?_cons_zero, Option.some.injEq] at h
        rw [h]
        exact List.mem_cons_self
      · simp at h
      · simp only [List.getElem?_cons_succ] at h
        have := ent_args vs (b + 2) i v h
        rw [show b + (i + 1 + 1) = b + 2 + i by omega]
        exact List.mem_cons_of_mem _ this
    · rw [if_neg c] at h ⊢
      rcases i with _ | i
      · simp only [List.getElem?_cons_zero, Option.some.injEq] at h
        rw [h]
        exact List.mem_cons_self
      · simp only [List.getElem?_cons_succ] at h
        have := ent_args vs (b + 1) i v h
        rw [show b + (i + 1) = b + 1 + i by omega]
        exact List.mem_cons_of_mem _ this
theorem entA_in : ∀ (vs : List Value) (i : Nat) (v : Value), (entA vs)[i]? = some (some v) → v ∈ vs
  | [], i, v, h => by simp [entA] at h
  | w :: vs, i, v, h => by
    rw [entA] at h
    by_cases c : w.category = 2
    · rw [if_pos c] at h
      rcases i with _ | _ | i
      · simp only [List.getElem?_cons_zero, Option.some.injEq] at h
        rw [h]; exact List.mem_cons_self
      · simp at h
      · simp only [List.getElem?_cons_succ] at h
        exact List.mem_cons_of_mem _ (entA_in vs i v h)
    · rw [if_neg c] at h
      rcases i with _ | i
      · simp only [List.getElem?_cons_zero, Option.some.injEq] at h
        rw [h]; exact List.mem_cons_self
      · simp only [List.getElem?_cons_succ] at h
        exact List.mem_cons_of_mem _ (entA_in vs i v h)
theorem ent_at {n i : Nat} {vs : List Value} {v : Value} (h : (ent n vs)[i]? = some (some v)) : (entA vs)[i]? = some (some v) := by
  unfold ent at h
  by_cases q : i < (entA vs).length
  · rwa [List.getElem?_append_left q] at h
  · rw [List.getElem?_append_right (by omega)] at h
    have := List.eq_of_mem_replicate (List.mem_of_getElem? h)
    cases this
theorem ent_lok {q : Nat} {vs : List Value} (h : (entA vs).length ≤ mL q) (hc : vs.all (fun v => v.category == 1) = true ∨ mHl q = true) : lok q ((lg_sl vs ++ List.replicate (mL q - (lg_sl vs).length) Slot.unset).toArray) (ent (mL q) vs) := by
  have e := lv_entry vs (n := mL q) (by rw [lg_len]; exact h)
  refine ⟨e.1, ?_, e.2.1, fun i v hv => ⟨e.2.2 (i, v) (by have := ent_args vs 0 i v (ent_at hv); rwa [Nat.zero_add] at this), fun h2 => ?_⟩⟩
  · unfold ent
    rw [List.length_append, List.length_replicate]
    omega
  · rcases hc with hc | hc
    · have := List.all_eq_true.mp hc v (entA_in vs i v (ent_at hv))
      simp only [beq_iff_eq] at this
      omega
    · exact hc
theorem WB2.warm {K J : Nat → Nat} {A : Nat → Prop} {s U : State} {H : Heap} (hW : s.WarmedH U.vm) (h : WB2 K J A s H) : WB2 K J A U H := by
  obtain ⟨⟨h1, h2, h3, h4, h5⟩, h6, h7, h8, h9, h10, h11, h12, h13⟩ := h
  refine ⟨⟨va_Z.moved hW.alike h1, va_Z.moved hW.alike h2, va_Z.moved hW.alike h3, va_Z.moved hW.alike h4, va_Z.moved hW.alike h5⟩, fun q hq z => ?_, fun w hw => ?_, va_Mi.moved hW.alike h8, va_Dc.moved hW.alike h9, va_AO.moved hW.alike h10, va_AOA.moved hW.alike h11, va_Fw.moved ⟨by decide, by decide⟩ hW.alike h12, va_Fw.moved ⟨by decide, by decide⟩ hW.alike h13⟩
  · have g := h6 q hq z
    unfold fxN at g ⊢
    cases hr : vwCl[q.2.1]? with
    | none => rw [hr] at g; exact va_Nw.warmC hW g
    | some r => rw [hr] at g; exact va_Nw.warmF hW g
  · have g := h7 w hw
    unfold nW2 at hw
    simp only [List.mem_cons, List.not_mem_nil, or_false] at hw
    rcases hw with rfl | rfl | rfl | rfl <;> exact va_Nw.warmC hW g
theorem WB2.at {K J : Nat → Nat} {A B : Nat → Prop} {s : State} {H H1 : Heap} (h : WB2 K J A s H) (hq : ∀ a : Nat, a < H.size → ¬ A a → H1[a]? = H[a]?) (hB : ∀ q, B q → A q) : WB2 K J B s H1 := by
  obtain ⟨⟨h1, h2, h3, h4, h5⟩, h6⟩ := h
  exact ⟨⟨(h1.kept hq).narrow hB, (h2.kept hq).narrow hB, (h3.kept hq).narrow hB, (h4.kept hq).narrow hB, (h5.kept hq).narrow hB⟩, h6⟩
theorem WB.warm {K J : Nat → Nat} {A : Nat → Prop} {s U : State} {H : Heap} (hW : s.WarmedH U.vm) (h : WB K J A s H) : WB K J A U H := by
  obtain ⟨h1, h2, h3, h4, h5, h6, h7, h8, h9, h10⟩ := h
  refine ⟨vk_S.moved hW.alike h1, fun q hq => vk_R.warm hW (h2 q hq), fun w hw => ?_, fun q hq z => va_Nw.warmM hW (h4 q hq z), vx_Zq.moved hW.alike h5, vx_Zq.moved hW.alike h6, va_Z.moved hW.alike h7, va_Zq.moved hW.alike h8, fun C hC => va_AO.moved hW.alike (h9 C hC), h10.warm hW⟩
  have g := h3 w hw
  unfold nW at hw
  simp only [List.mem_cons, List.not_mem_nil, or_false] at hw
  rcases hw with rfl | rfl | rfl | rfl | rfl | rfl
  · exact va_Nw.warmC hW g
  · exact va_Nw.warmC hW g
  · exact va_Nw.warmC hW g
  · exact va_Nw.warmD hW g
  · exact va_Nw.warmD hW g
  · exact va_Nw.warmD hW g
theorem WB.at {K J : Nat → Nat} {A B : Nat → Prop} {s : State} {H H1 : Heap} (h : WB K J A s H) (hq : ∀ a : Nat, a < H.size → ¬ A a → H1[a]? = H[a]?) (hB : ∀ q, B q → A q) : WB K J B s H1 := by
  obtain ⟨h1, h2, h3, h4, h5, h6, h7, h8, h9, h10⟩ := h
  exact ⟨(h1.kept hq).narrow hB, h2, h3, h4, (h5.kept hq).narrow hB, (h6.kept hq).narrow hB, (h7.kept hq).narrow hB, (h8.kept hq).narrow hB, h9, h10.at hq hB⟩
theorem WB.same {K J : Nat → Nat} {A : Nat → Prop} {s U : State} {H : Heap} (hv : U.vm = s.vm) (h : WB K J A s H) : WB K J A U H := WB.warm (by rw [hv]; exact State.WarmedH.refl s) h
section SIM
variable {l : Launch} {K J : Nat → Nat} {mi pc n : Nat} {L : VL} {st : List Value} {sh : HS} {I : HI} {R : HR} {c : Nat × Nat} {F : VF} {ins : Instr}
def PcM (K J : Nat → Nat) (D : va_G) (A : Nat → Prop) (hz : Nat) (sh : HS) (I : HI) (R : HR) : State → Prop := fun U => U.heap.size = hz ∧ va_K D vwCl [] U ∧ WB K J A U U.heap ∧ RP D U A sh I R U.heap
theorem PcM_blind {D : va_G} {A : Nat → Prop} {hz : Nat} {As : List Value} : FrameBlind (va_Pc As (PcM K J D A hz sh I R)) := by
  intro a U g mk h
  obtain ⟨h1, h2, h3, h4, h5⟩ := h
  exact ⟨h1, h2, va_K.moved (u := U) (U := U.calling g mk a) (Vm.Alike.refl U.vm) h3, WB.same (s := U) (U := U.calling g mk a) rfl h4, RP.moved (s := U) (U := U.calling g mk a) (Vm.Alike.refl U.vm) h5⟩
/-- a method's contract out of its small machine -/
theorem met_of {q hz : Nat} {D : va_G} {A : Nat → Prop} {As : List Value} {G : VF} (hq : q < mT.length) (htr : l.stackTraces = false) (hl : (entA As).length ≤ mL q) (hc : As.all (fun v => v.category == 1) = true ∨ mHl q = true) (hA : ∀ x, hz ≤ x → A x)
    (h : MW l K J q 0 (ent (mL q) As) [] sh I R (0, 0) G) : vx_Met l (mY q) (wsM q) (mRm q) (va_Pc As (PcM K J D A hz sh I R)) (QF D A G) (XF D A G) (mCe q) (mSl q) A := by
  obtain ⟨-, -, -, -, -, m6, m7, -, -, m11, -⟩ := mt_f hq
  refine vx_ofW (cc := mB q) (maxL := mL q) (ret := mRt q) m7 rfl ?_
  intro p e s m args below meth cd s₁ B hml hex hv
  obtain ⟨rfl, hsz, hK, hB, hP⟩ := hv
  have hts := atoms_spec (ws := wsM q) B.pre
  have k := h D p e s m As.toArray below meth cd A s.heap [] _ ⟨B.exec, B.bytes, hml, B.returns, by rw [← m6]; exact findClass_of_methodNamed B.named, fun w hw => hts w (List.mem_cons_of_mem _ hw), B.notSynchronized, fun z => ?_, hex, hK, hB, fun x hx => hA x (by omega), htr, trivial⟩ hP (ent_lok hl hc) va_S.rf
  · rw [lg_entry_eq]
    exact k
  · exact (name_of_methodNamed B.named B.method).1.trans (m11 z).1
theorem run_go {p : Program} {e : Env} {s : State} {m : MethodId} {args : Array Value} {below : List Frame} {meth : Method} {cd : Code} {A A' : Nat → Prop} {H : Heap} {locs : List Loc} {ls : Array Slot} {D : va_G} {G : VF} {q : Nat} {a : Array Value} {rest : List Value}
    (C : CX l K J D mi p s m args meth cd A) (hl : lok mi ls L) (hS : va_S A s.heap H locs) (hA' : ∀ x, A' x → A x) (hc : c.1 + mCe q ≤ mCe mi ∧ c.2 + mSl q ≤ mSl mi)
    (hr : vx_Run p l e (mRm mi) s m args below meth cd H locs c.1 c.2 (mCe q) (mSl q) (F0 m pc ls st) rest (QF D A' G a) (XF D A' G) A')
    (k1 : ∀ sh' I' R', G (.inl none) sh' I' R' → MW l K J mi (pc + 3) L rest sh' I' R' (c.1 + mCe q, c.2 + mSl q) F) (k2 : ∀ v sh' I' R', G (.inl (some v)) sh' I' R' → MW l K J mi (pc + 3) L (v :: rest) sh' I' R' (c.1 + mCe q, c.2 + mSl q) F)
    (k3 : ∀ E sh' I' R', G (.inr E) sh' I' R' → F (.inr E) sh' I' R') :
    W p l e (mRm mi) s m args below meth cd H locs c.1 c.2 (vx_MQ below (QF D A F) (XF D A F) args s (mCe mi) (mSl mi) A) (F0 m pc ls st) := by
  intro T hT X
  have RPn : ∀ {t T' : State} {sh' : HS} {I' : HI} {R' : HR}, T'.heap = t.heap → T'.vm = t.vm → s.WarmedH T'.vm → RP D t A' sh' I' R' t.heap → RP D s A sh' I' R' T'.heap := by
    intro t T' sh' I' R' e1 e2 hw h
    have hv : t.vm.Alike s.vm := by rw [← e2]; exact hw.alike.symm
    rw [e1]
    intro b t' n' hb
    obtain ⟨r1, r2, r3⟩ := h b t' n' hb
    exact ⟨fun z => hA' _ (r1 z), r2, rc_moved hv r3⟩
  rcases hr T hT X with ⟨v, st₀, t, T', L', h0, X', hL, e1, e2, ⟨v', sh', I', R', hv, hG, hRP, hF⟩, go⟩ | ⟨x, st₀, t, T', L', E, ce, h0, X', hL, e1, e2, ⟨sh', I', R', hG, hRP, hF⟩, hce, hcv, hcl, go⟩
  · cases hv
    obtain ⟨-, -, g3⟩ := vx_keep h0 e1 hS (fun z _ => hA' z) hA' hL hF
    have hR2 := RPn e1 e2 X'.warmed hRP
    cases v with
    | none =>
      obtain ⟨t2, a1, b1⟩ := k1 _ _ _ hG D p e s m args below meth cd A T'.heap (locs ++ L') ls C hR2 hl g3 T' rfl X'
      exact ⟨t2, go t2 a1, b1⟩
    | some v =>
      obtain ⟨t2, a1, b1⟩ := k2 _ _ _ _ hG D p e s m args below meth cd A T'.heap (locs ++ L') ls C hR2 hl g3 T' rfl X'
      exact ⟨t2, go t2 a1, b1⟩
  · obtain ⟨-, -, g3⟩ := vx_keep h0 e1 hS (fun z _ => hA' z) hA' hL hF
    have hR2 := RPn e1 e2 X'.warmed hRP
    obtain ⟨hx, hb, hml, hr, hown, hts, hlk, hin, hex, hK, hB, hA, htr, hmi⟩ := C
    have kx : vx_W p l e (mRm mi) s m args below meth cd T'.heap (locs ++ L') (c.1 + mCe q) (c.2 + mSl q) (vx_MQ below (QF D A F) (XF D A F) args s (mCe mi) (mSl mi) A) (F0 m pc ls rest) x := by
      refine vx_out (E := E) (ce := ce) (fun y hy => (hex y hy).elim) hlk (by rw [e1]; exact hce) hcv hcl ?_ g3.2.2 hc.1 hc.2
      intro t2 ht2 hw2
      refine ⟨sh', I', R', k3 _ _ _ _ hG, ?_, g3.F ht2⟩
      rw [ht2]
      exact RP.moved hw2 hR2
    obtain ⟨t2, a1, b1⟩ := kx T' rfl X'
    exact ⟨t2, go.trans a1, b1⟩
theorem kl_own {k ix code b pos : Nat} (h : lk2 kL k ix = some (code, b, pos)) (hc : code < 1000) : code < mT.length ∧ ((b = 0 ∧ Cond.methodLink (cN k) ix (mY code) ∈ wAll) ∨ (b = 1 ∧ ((k * 10000 + ix, code, b, pos) ∈ kL ∧ (k * 10000 + ix) / 10000 = k ∧ (k * 10000 + ix) % 10000 = ix))) := by
  obtain ⟨h1, h2, h3⟩ := lk2m h
  have h4 := List.all_eq_true.mp kL_ok _ h1
  unfold kchk at h4
  rw [if_pos hc] at h4
  simp only [h2, h3, Bool.and_eq_true, decide_eq_true_eq] at h4
  refine ⟨h4.1, ?_⟩
  have h5 := h4.2
  split at h5
  · rename_i z
    exact Or.inl ⟨z, wAll_at (by simpa using h5) rfl⟩
  · exact Or.inr ⟨by simpa using h5, h1, h2, h3⟩
end SIM
end
section
section SIM
variable {l : Launch} {K J : Nat → Nat} {mi pc n : Nat} {L : VL} {st : List Value} {sh : HS} {I : HI} {R : HR} {c : Nat × Nat} {F : VF} {ins : Instr}
theorem sim_call {ix q b pos kd : Nat} (hd : (kd = 0 ∧ decode (mB mi) pc = .ok (.invokestatic ix, 3)) ∨ (kd = 1 ∧ decode (mB mi) pc = .ok (.invokevirtual ix, 3)) ∨ (kd = 2 ∧ decode (mB mi) pc = .ok (.invokespecial ix, 3)))
    (hf : lk2 kL (mC mi) ix = some (q, b, pos)) (hq : q < 1000) (hv : Vc K (MW l K J) kd q mi pc L st sh I R c F) : MW l K J mi pc L st sh I R c F := by
  intro D p e s m args below meth cd A H locs ls C hP hl hS
  obtain ⟨a1, a2, a3, a4, a5, a6, ⟨a7, a7'⟩, ⟨a8, a9⟩, G, b1, b2, b3, b4⟩ := hv
  have C' := C
  obtain ⟨hx, hb, hml, hr, hown, hts, hlk, hin, hex, hK, hB, hA, htr, hmi⟩ := C
  obtain ⟨f1, f2, f3, f4, f5, f6, f7, f8, f9, f10, f11, f12, f13⟩ := mt_f a1
  obtain ⟨-, hlink⟩ := kl_own hf hq
  obtain ⟨A', hA'⟩ : ∃ A' : Nat → Prop, A' = fun x => (∃ y, sh x = some y ∧ (y.1 < 22 ∨ 30 ≤ y.1)) ∨ H.size ≤ x := ⟨_, rfl⟩
  have hsub : ∀ x, A' x → A x := by
    intro x hx0
    rw [hA'] at hx0
    rcases hx0 with ⟨y, hy, hw⟩ | h
    · exact (hP x y.1 y.2 hy).1 hw
    · exact hA x (Nat.le_trans hS.1 h)
  have hc9 : (st.take (mN q)).reverse.all (fun v => v.category == 1) = true ∨ mHl q = true := by
    rcases a9 with h | h
    · left; rw [List.all_reverse]; exact h
    · exact Or.inr h
  have hM : vx_Met l (mY q) (wsM q) (mRm q) (va_Pc (st.take (mN q)).reverse (PcM K J D A' H.size sh I R)) (QF D A' G) (XF D A' G) (mCe q) (mSl q) A' :=
    met_of a1 htr a8 hc9 (fun x hx0 => by rw [hA']; exact Or.inr hx0) b1
  have hPc : ∀ U : State, U.heap = H → s.WarmedH U.vm → va_Pc (st.take (mN q)).reverse (PcM K J D A' H.size sh I R) (st.take (mN q)).reverse.toArray U := by
    intro U hU hW
    refine ⟨rfl, by rw [hU], va_K.moved hW.alike hK, ?_, ?_⟩
    · rw [hU]; exact WB.warm hW (WB.at hB hS.2.1 hsub)
    · rw [hU]
      refine RP.moved hW.alike (fun x t n' hx0 => ?_)
      obtain ⟨r1, r2, r3⟩ := hP x t n' hx0
      exact ⟨fun z => by rw [hA']; exact Or.inl ⟨_, hx0, z⟩, r2, r3⟩
  have hcode := hts _ f1
  have hini := hts _ f5
  have hgood : ∀ w ∈ wsM q, ∀ (a' : Array Value) (U : State), s.WarmedH U.vm → w.before a' U = true := by
    refine pay_in hts (fun w hw => ?_)
    rcases List.mem_cons.mp hw with rfl | hw
    · exact wAll_self _ f1
    · exact wAll_self w hw
  have hpar : ∀ n', mK q ≠ 0 ∧ n' + 1 = mN q ∨ mK q = 0 ∧ n' = mN q → ∀ sig, parseMethodDescriptor (mY q).desc = some sig → n' = sig.parameters.length := by
    intro n' hn' sig hsig
    rw [hsig] at f9
    have f9' := Option.some.inj f9
    rcases hn' with ⟨z, hn'⟩ | ⟨z, hn'⟩
    · rw [if_neg z] at f9'; show n' = _; have : sig.parameters.length = mN q - 1 := f9'; omega
    · rw [if_pos z] at f9'; show n' = _; have : sig.parameters.length = mN q := f9'; omega
  have hroom : (mRm q).frames + 1 ≤ (mRm mi).frames ∧ 8 + (mL q + 11) + (mRm q).locals ≤ (mRm mi).locals := a5
  have hsize : (F0 m pc ls st).locals.size = mL mi := hl.1
  have hrm : 2 * (F0 m pc ls st).monitorRoom + ((st.drop (mN q)).map fun v => v.category).sum ≤ 8 := lv_room a4
  have hlen : (st.take (mN q)).length = mN q := by rw [List.length_take]; omega
  refine run_go (a := (st.take (mN q)).reverse.toArray) C' hl hS hsub a6 ?_ b2 b3 b4
  have S : CallFix p m cd (mB mi) (mL mi) s args wAll (cN (mC mi)) := ⟨hx, hb, hml, hown, hts⟩
  rcases hd with ⟨rfl, hd⟩ | ⟨rfl, hd⟩ | ⟨rfl, hd⟩
  · have hst : (F0 m pc ls st).stack = (st.take (mN q)).reverse.reverse ++ st.drop (mN q) := by
      rw [List.reverse_reverse, List.take_append_drop]
    have hn : (st.take (mN q)).reverse.length = mN q := by rw [List.length_reverse]; exact hlen
    rcases hlink with ⟨-, hlink⟩ | ⟨hb1, hk1, hk2, hk3⟩
    · exact vx_runS (bytes := mB q) (maxL := mL q) (ret := mRt q) (ws := wsM q) (n := mN q) S hM ⟨⟨rfl, rfl, hroom.1, hroom.2, hgood, List.mem_cons_self, hcode, hini, f8, hpar _ (Or.inr ⟨a3, rfl⟩), hts _ hlink⟩, hts _ (f2 a3)⟩ ⟨PcM_blind, hPc⟩ rfl hn hsize hst hrm hd a6
    · have hnest := hB.2.2.2.1 _ hk1 hb1
      rw [hk2, hk3] at hnest
      exact vx_runSN (bytes := mB q) (maxL := mL q) (ret := mRt q) (ws := wsM q) (n := mN q) S hM ⟨⟨⟨rfl, rfl, hroom.1, hroom.2, hgood, List.mem_cons_self⟩, hcode, hini, f8, hpar _ (Or.inr ⟨a3, rfl⟩), va_Nw.use rfl hnest⟩, hts _ (f2 a3), trivial⟩ ⟨PcM_blind, hPc⟩ rfl hn hsize hst hrm hd a6
  · have hrv := a7 rfl
    have h0 : ¬ mK q = 0 := by omega
    cases hgl : (st.take (mN q)).getLast? with
    | none => rw [hgl] at hrv; exact hrv.elim
    | some w =>
      rw [hgl] at hrv
      cases w with
      | ref br =>
        obtain ⟨ys, hys⟩ := List.getLast?_eq_some_iff.mp hgl
        have hre : (st.take (mN q)).reverse = .ref br :: ys.reverse := by rw [hys, List.reverse_append]; rfl
        have hst : (F0 m pc ls st).stack = ys.reverse.reverse ++ .ref br :: st.drop (mN q) := by
          rw [List.reverse_reverse]
          show st = ys ++ ([.ref br] ++ st.drop (mN q))
          rw [← List.append_assoc, ← hys, List.take_append_drop]
        have hn : ys.reverse.length + 1 = mN q := by rw [List.length_reverse, ← hlen, hys, List.length_append]; rfl
        have hcell : ∃ cellB : Cell, H[br]? = some cellB ∧ cellB.vm.isStatics = false ∧ s.vm.findClass (cN (rcN (mC q))) = some cellB.cls := by
          rcases hrv with (⟨q1, n', q2⟩ | ⟨q1, i, q2, q3⟩) | ⟨q1, n', q2⟩
          · obtain ⟨r, hr0, cell, g1, g2, g3, -⟩ := (hP br (rcN (mC q)) n' q2).2.2.1 q1
            refine ⟨cell, g1, by rw [g3]; rfl, ?_⟩
            have f12' := f12 q1
            rw [hr0] at f12'
            rw [g2, ← Option.some.inj f12']
            exact (hK.1 _ r hr0).2.1
          · have e14 : rcN (mC q) = mC q := by rw [q1]; rfl
            rw [e14, f13 q1, q3]
            exact vk_recv hB.1 q2 hS
          · rcases q1 with q1 | q1
            · obtain ⟨cell, g1, g2⟩ := (hP br _ n' q2).2.2.2.2.2.2 (by omega) (by omega)
              exact ⟨cell, g1, (g2.1 (by omega)).1.1, by rw [q1]; exact (g2.1 (by omega)).1.2⟩
            · obtain ⟨cell, g1, g2⟩ := (hP br _ n' q2).2.2.2.2.2.2 (by omega) (by omega)
              exact ⟨cell, g1, (g2.2.1 (by omega)).1.1, by rw [q1]; exact (g2.2.1 (by omega)).1.2⟩
        rw [hre] at hM hPc ⊢
        rcases hlink with ⟨-, hlink⟩ | ⟨hb1, hk1, hk2, hk3⟩
        · exact vx_runV (C := cN (rcN (mC q))) (bytes := mB q) (maxL := mL q) (ret := mRt q) (ws := wsM q) (n := ys.reverse.length) S hM ⟨⟨rfl, rfl, hroom.1, hroom.2, hgood, List.mem_cons_self, hcode, hini, f8, hpar _ (Or.inl ⟨h0, hn⟩), hts _ hlink⟩, hts _ (f3 h0), hts _ (f4 a3)⟩ ⟨PcM_blind, hcell, hPc⟩ rfl rfl hsize hst hrm hd a6
        · have hnest := hB.2.2.2.1 _ hk1 hb1
          rw [hk2, hk3] at hnest
          exact vx_runVN (C := cN (rcN (mC q))) (bytes := mB q) (maxL := mL q) (ret := mRt q) (ws := wsM q) (n := ys.reverse.length) S hM ⟨⟨⟨rfl, rfl, hroom.1, hroom.2, hgood, List.mem_cons_self⟩, hcode, hini, f8, hpar _ (Or.inl ⟨h0, hn⟩), va_Nw.use rfl hnest⟩, hts _ (f3 h0), hts _ (f4 a3)⟩ ⟨PcM_blind, hcell, hPc⟩ rfl rfl hsize hst hrm hd a6
      | _ => exact hrv.elim
  · obtain ⟨br, hgl⟩ := a7' rfl
    have h0 : ¬ mK q = 0 := by omega
    obtain ⟨hnm, hrt⟩ := f10 a3
    obtain ⟨ys, hys⟩ := List.getLast?_eq_some_iff.mp hgl
    have hre : (st.take (mN q)).reverse = .ref br :: ys.reverse := by rw [hys, List.reverse_append]; rfl
    have hst : (F0 m pc ls st).stack = ys.reverse.reverse ++ .ref br :: st.drop (mN q) := by
      rw [List.reverse_reverse]
      show st = ys ++ ([.ref br] ++ st.drop (mN q))
      rw [← List.append_assoc, ← hys, List.take_append_drop]
    have hn : ys.reverse.length + 1 = mN q := by rw [List.length_reverse, ← hlen, hys, List.length_append]; rfl
    rw [hrt] at hcode
    have hcw : Cond.code (mY q) (mB q) (mL q) none ∈ wsM q := by rw [← hrt]; exact List.mem_cons_self
    rw [hre] at hM hPc ⊢
    rcases hlink with ⟨-, hlink⟩ | ⟨hb1, hk1, hk2, hk3⟩
    · exact vx_runI (bytes := mB q) (maxL := mL q) (ws := wsM q) (n := ys.reverse.length) S hM ⟨⟨rfl, rfl, hroom.1, hroom.2, hgood, hcw, hcode, hini, f8, hpar _ (Or.inl ⟨h0, hn⟩), hts _ hlink⟩, hnm, hts _ (f3 h0)⟩ ⟨PcM_blind, hPc⟩ rfl rfl hsize hst hrm hd a6
    · have hnest := hB.2.2.2.1 _ hk1 hb1
      rw [hk2, hk3] at hnest
      exact vx_runIN (bytes := mB q) (maxL := mL q) (ws := wsM q) (n := ys.reverse.length) S hM ⟨⟨⟨rfl, rfl, hroom.1, hroom.2, hgood, hcw⟩, hcode, hini, f8, hpar _ (Or.inl ⟨h0, hn⟩), va_Nw.use rfl hnest⟩, hnm, hts _ (f3 h0)⟩ ⟨PcM_blind, hPc⟩ rfl rfl hsize hst hrm hd a6
theorem nn_of {z : Int32} (h : ¬ z < 0) : z.toInt = (z.toNatClampNeg : Int) := by
  have h0 : (0 : Int) ≤ z.toInt := by
    have := Int32.le_iff_toInt_le.mp (Int32.not_lt.mp h)
    simpa using this
  show z.toInt = ((z.toInt.toNat : Nat) : Int)
  omega
theorem sim_cpy {ix a b x y n0 n1 : Nat} {sp dp z : Int32} (hd : decode (mB mi) pc = .ok (.invokestatic ix, n)) (hn : n = iln (.invokestatic ix) n) (hf : lk2 kL (mC mi) ix = some (1003, x, y)) (hg : VmG mi c st)
    (ha : sh a = some (20, n0)) (hb0 : sh b = some (20, n1)) (h1 : ¬ sp < 0) (h2 : ¬ dp < 0) (h3 : ¬ z < 0) (h4 : sp.toNatClampNeg + z.toNatClampNeg ≤ n0) (h5 : dp.toNatClampNeg + z.toNatClampNeg ≤ n1)
    (hk : MW l K J mi (pc + 3) L st sh (cp2 I a sp.toNatClampNeg b dp.toNatClampNeg z.toNatClampNeg) R c F) : MW l K J mi pc L (.int z :: .int dp :: .ref b :: .int sp :: .ref a :: st) sh I R c F := by
  intro D p e s m args below meth cd A H locs ls C hP hl hS
  have kk := fun H1 locs1 => hk D p e s m args below meth cd A H1 locs1 ls C
  obtain ⟨hx, hb, hml, hr, hown, hts, hlk, hin, hex, hK, hB, hA, htr, hmi⟩ := C
  simp only [iln] at hn
  subst hn
  obtain ⟨g1, g2, g3, g4, g5⟩ := hg
  unfold catS at g1
  obtain ⟨cA, u1, u2, u3⟩ := (hP a 20 n0 ha).2.2.2.1 rfl
  obtain ⟨hbA, hbz, hbc⟩ := hP b 20 n1 hb0
  have hbA := hbA (by omega)
  obtain ⟨cB, v1, v2, v3⟩ := hbc.2.1 rfl
  obtain ⟨-, k0, hk0, cm0, hkk0⟩ := u2 n0 (fun j => .int (I a j))
  obtain ⟨-, k1, hk1, cm1, hkk1⟩ := v2 n1 (fun j => .int (I b j))
  intro T hT X
  obtain ⟨vm', X', step⟩ := X.arraycopy hx hown (hts _ (kl_sp hf (by decide))) (hts _ m_cpy.1) (hts _ m_cpy.2.1) (hts _ m_cpy.2.2) (src := a) (dst := b) (cs := arrV cA n0 (fun j => .int (I a j))) (cd := arrV cB n1 (fun j => .int (I b j))) (srcPos := sp) (destPos := dp) (n := z) (by rw [hT]; exact u1) (by rw [hT]; exact v1)
    (fun _ h => by cases h) (fun _ h => by cases h) (fun h => by cases h) (fun h => by cases h) hk0 hk1 hkk0 hkk1 (by rfl) h1 h2 h3
    (by rw [nn_of h1, nn_of h3, arrV_size]; omega)
    (by rw [nn_of h2, nn_of h3, arrV_size]; omega)
    (fun vm₁ _ i hi => by
      have e9 : (arrV cA n0 (fun j => .int (I a j))).slots.getD (sp.toNatClampNeg + i) .null = .int (I a (sp.toNatClampNeg + i)) := by
        rw [Array.getD_eq_getD_getElem?, arrV_read _ _ (by omega)]
        rfl
      exact ⟨by rw [e9]; rfl, by rw [e9]; exact trivial⟩)
    (g := F0 m pc ls (.int z :: .int dp :: .ref b :: .int sp :: .ref a :: st)) rfl (by rw [hml]; exact hl.1) (rest := st) rfl (by rw [hb]; exact hd) g2 (by
      show 2 * 0 + _ + _ ≤ mLo mi
      rw [show nativeFrameWords "java/lang/System" "arraycopy" 5 = 7 by decide +kernel]
      omega)
  have e1 : copied (arrV cA n0 (fun j => .int (I a j))) (arrV cB n1 (fun j => .int (I b j))) sp dp z = arrV cB n1 (fun j => .int (va_cpy (I a) (I b) sp.toNatClampNeg dp.toNatClampNeg z.toNatClampNeg j)) := va_copied (fun w => .int w) cA cB (I a) (I b) h4
  rw [e1] at X' step
  have oq : ∀ q : Nat, q ≠ b → (H.setIfInBounds b (arrV cB n1 (fun j => .int (va_cpy (I a) (I b) sp.toNatClampNeg dp.toNatClampNeg z.toNatClampNeg j))))[q]? = H[q]? := fun q hq => by simp [Array.getElem?_setIfInBounds, Ne.symm hq]
  have hcp : ∀ j, cp2 I a sp.toNatClampNeg b dp.toNatClampNeg z.toNatClampNeg b j = va_cpy (I a) (I b) sp.toNatClampNeg dp.toNatClampNeg z.toNatClampNeg j := fun j => by simp [cp2, va_cpy]
  have hsz : (H.setIfInBounds b (arrV cB n1 (fun j => .int (va_cpy (I a) (I b) sp.toNatClampNeg dp.toNatClampNeg z.toNatClampNeg j)))).size = H.size := by simp
  obtain ⟨t, a1, b1⟩ := kk _ _ (hP.put (I' := cp2 I a sp.toNatClampNeg b dp.toNatClampNeg z.toNatClampNeg) hb0 hsz oq (fun d j hd0 => by simp [cp2, hd0]) (fun _ _ _ => rfl) ⟨fun w => by omega, fun _ => ⟨cB, by
      rw [Array.getElem?_setIfInBounds_self_of_lt hbz]
      simp only [hcp], v2, v3⟩, fun u w => by omega, fun w => by omega, fun w => by omega⟩) hl ⟨by rw [hsz]; exact hS.1, fun q q1 q2 => by
      rw [oq q (fun e9 => q2 (by rw [e9]; exact hbA))]
      exact hS.2.1 q q1 q2, fun q hq => by
      rcases List.mem_append.mp hq with h | h
      · exact hS.2.2 q h
      · obtain ⟨w, -, hw⟩ := List.mem_map.mp h
        rw [← hw]
        exact hbA⟩ _ (by rw [← hT]; rfl) X'
  exact ⟨t, step t a1, b1⟩
end SIM
end
section
/-! the simulation is whole: what V says, W says -/
theorem fL_ty : fL.all (fun q => decide (q.2.2.2.1 < 3)) = true := by decide +kernel
theorem kL_cd : kL.all (fun q => decide (q.2.1 < 1009)) = true := by decide +kernel
section SIM
variable {l : Launch} {K J : Nat → Nat} {mi pc n : Nat} {L : VL} {st : List Value} {sh : HS} {I : HI} {R : HR} {c : Nat × Nat} {F : VF} {ins : Instr}
theorem sim_Vm0 {ix code b pos : Nat} (hd : decode (mB mi) pc = .ok (.invokestatic ix, n)) (hn : n = iln (.invokestatic ix) n) (hf : lk2 kL (mC mi) ix = some (code, b, pos)) (h4 : code < 1004) (h : Vm (MW l K J) code mi pc L st sh I R c F) : MW l K J mi pc L st sh I R c F := by
  unfold Vm at h
  split at h
  · split at h
    · exact sim_mm hd hn hf (Or.inl ⟨rfl, rfl⟩) h.1 h.2
    · exact h.elim
  · split at h
    · exact sim_mm hd hn hf (Or.inr ⟨rfl, rfl⟩) h.1 h.2
    · exact h.elim
  · split at h
    · exact sim_abs hd hn hf h.1 h.2
    · exact h.elim
  · split at h
    · obtain ⟨g, ⟨n0, n1, e1, e2, e3, e4, e5, e6, e7⟩, k⟩ := h
      exact sim_cpy hd hn hf g e1 e2 e3 e4 e5 e6 e7 k
    · exact h.elim
  · omega
  · exact h.elim
theorem sim_Vm2 {ix code b pos : Nat} (hd : decode (mB mi) pc = .ok (.invokespecial ix, n)) (hn : n = iln (.invokespecial ix) n) (hf : lk2 kL (mC mi) ix = some (code, b, pos)) (h4 : code = 1004) (h : Vm (MW l K J) code mi pc L st sh I R c F) : MW l K J mi pc L st sh I R c F := by
  subst h4
  unfold Vm at h
  simp only at h
  split at h
  · exact sim_oin hd hn hf h.1 h.2
  · exact h.elim
end SIM
section SIM
variable {l : Launch} {K J : Nat → Nat} {mi pc n : Nat} {L : VL} {st : List Value} {sh : HS} {I : HI} {R : HR} {c : Nat × Nat} {F : VF} {ins : Instr}
theorem sim_Vi (hd : decode (mB mi) pc = .ok (ins, n)) (hn : n = iln ins n) (h : Vi K J (MW l K J) ins n mi pc L st sh I R c F) : MW l K J mi pc L st sh I R c F := by
  unfold Vi at h
  cases e1 : ldI ins with
  | some ti =>
    obtain ⟨t, i⟩ := ti
    simp only [e1] at h
    rcases e2 : L[i]? with _ | (_ | v) <;> simp only [e2] at h
    exact sim_ld hd hn e1 e2 h.1 h.2
  | none =>
  simp only [e1] at h
  cases e2 : stI ins with
  | some ti =>
    obtain ⟨t, i⟩ := ti
    simp only [e2] at h
    cases st with
    | nil => exact h.elim
    | cons v r => exact sim_st hd hn e2 h.1 h.2.1 h.2.2.1 h.2.2.2.1 h.2.2.2.2
  | none =>
  simp only [e2] at h
  cases e3 : cst mi ins with
  | some v => simp only [e3] at h; exact sim_cst hd hn e3 h
  | none =>
  simp only [e3] at h
  cases e4 : cstS mi ins with
  | some v => simp only [e4] at h; exact sim_cstS hd hn e4 h.2
  | none =>
  simp only [e4] at h
  cases e5 : cstJ mi ins with
  | some v => simp only [e5] at h; exact sim_cstJ hd hn e5 h
  | none =>
  simp only [e5] at h
  cases e6 : ari ins st with
  | some v => simp only [e6] at h; exact sim_ari hd hn e6 h
  | none =>
  simp only [e6] at h
  cases e7 : bra ins st with
  | some v =>
    obtain ⟨b, o, r⟩ := v
    simp only [e7] at h
    exact sim_bra hd hn e7 h.1 h.2.1 h.2.2
  | none =>
  simp only [e7] at h
  clear e1 e2 e3 e4 e5 e6 e7
  cases ins with
  | goto o => exact sim_goto hd hn h.1 h.2
  | tableswitch a b d e =>
    simp only at h
    split at h
    · split at h
      · rename_i e9; exact sim_tab hd e9 h.1 h.2
      · exact h.elim
    · exact h.elim
  | lookupswitch a b =>
    simp only at h
    split at h
    · split at h
      · rename_i e9; exact sim_lkp hd e9 h.1 h.2
      · exact h.elim
    · exact h.elim
  | iinc i z =>
    simp only at h
    split at h
    · rename_i e9; exact sim_iinc hd hn e9 h.1 h.2.1 h.2.2
    · exact h.elim
  | idiv => simp only at h; split at h <;> first | exact h.elim | exact sim_idiv hd hn h.1 h.2
  | irem => simp only at h; split at h <;> first | exact h.elim | exact sim_irem hd hn h.1 h.2
  | ddiv => simp only at h; split at h <;> first | exact h.elim | exact sim_ddiv hd hn h.1 h.2
  | getfield ix =>
    simp only at h
    split at h
    · rename_i t k ty pos e9
      have hty : ty < 3 := by
        have := List.all_eq_true.mp fL_ty _ (lk2m e9).1
        simpa using this
      split at h
      · split at h
        · obtain ⟨i, q1, rfl, q3⟩ := h
          exact sim_getS hd hn e9 q1 q3
        · obtain ⟨i, q1, rfl, q3⟩ := h
          exact sim_getC hd hn e9 q1 q3
        · exact sim_get hd hn e9 h.1 h.2.1 hty h.2.2
      · exact h.elim
    · exact h.elim
  | putfield ix =>
    simp only at h
    split at h
    · rename_i e9
      split at h
      · exact sim_put hd hn e9 h.1.1 h.1.2.1 h.1.2.2 (Or.inl ⟨_, rfl, h.2.1, h.2.2.1, rfl, rfl⟩) h.2.2.2
      · exact sim_put hd hn e9 h.1.1 h.1.2.1 h.1.2.2 (Or.inr ⟨_, rfl, h.2.1, rfl, rfl⟩) h.2.2
      · exact h.elim
    · exact h.elim
  | getstatic ix =>
    simp only at h
    split at h
    · rename_i e9; exact sim_gets hd hn e9 (fun v z _ => by rw [z rfl]; exact h)
    · rename_i e8 e9; exact sim_gets hd hn e9 (fun v _ z => h v (z (fun w => e8 w)))
    · exact h.elim
  | iaload => simp only at h; split at h <;> first | exact h.elim | exact sim_iald hd hn h.1 h.2
  | aaload =>
    simp only at h
    split at h
    · obtain ⟨⟨t, m, q1, q2⟩, k⟩ := h
      exact sim_aald hd hn ⟨m, q1, q2⟩ k
    · exact h.elim
  | iastore => simp only at h; split at h <;> first | exact h.elim | exact sim_iast hd hn h.1 h.2
  | aastore =>
    simp only at h
    split at h
    · obtain ⟨⟨t, m, m2, q1, q2, q3, q4⟩, k⟩ := h
      exact sim_aast hd hn ⟨m, m2, q1, q2, q3, q4⟩ k
    · exact h.elim
  | baload =>
    simp only at h
    split at h
    · obtain ⟨k, q1, rfl, q3, q4⟩ := h
      exact sim_bald hd hn q1 q3 q4
    · exact h.elim
  | arraylength =>
    simp only at h
    split at h
    · obtain ⟨k, q1, rfl, q3⟩ := h
      exact sim_alen hd hn q1 q3
    · exact h.elim
  | new ix =>
    simp only at h
    split at h
    · rename_i e9; exact sim_new hd hn e9 h.1 h.2.1 h.2.2
    · exact h.elim
  | newarray ty =>
    cases ty <;> simp only at h
    split at h
    · exact sim_newa hd hn h.1 h.2.1 h.2.2.1 h.2.2.2.1 h.2.2.2.2
    · exact h.elim
  | anewarray ix =>
    simp only at h
    split at h
    · rename_i e9
      split at h
      · exact sim_anew hd hn e9 h.1.2 h.1.1 h.2.1 h.2.2.1 h.2.2.2.1 h.2.2.2.2
      · exact h.elim
    · exact h.elim
  | invokestatic ix =>
    simp only at h
    split at h
    · rename_i code w e9
      obtain ⟨w1, w2⟩ := w
      have hn3 : n = 3 := hn
      by_cases q : code < 1000
      · exact sim_call (kd := 0) (Or.inl ⟨rfl, by rw [← hn3]; exact hd⟩) e9 q (h.1 q)
      · exact sim_Vm0 hd hn e9 (h.2 q).1 (h.2 q).2
    · exact h.elim
  | invokevirtual ix =>
    simp only at h
    split at h
    · rename_i code w e9
      obtain ⟨w1, w2⟩ := w
      have hn3 : n = 3 := hn
      exact sim_call (kd := 1) (Or.inr (Or.inl ⟨rfl, by rw [← hn3]; exact hd⟩)) e9 h.1 h.2
    · exact h.elim
  | invokespecial ix =>
    simp only at h
    split at h
    · rename_i code w e9
      obtain ⟨w1, w2⟩ := w
      have hn3 : n = 3 := hn
      by_cases q : code < 1000
      · exact sim_call (kd := 2) (Or.inr (Or.inr ⟨rfl, by rw [← hn3]; exact hd⟩)) e9 q (h.1 q)
      · exact sim_Vm2 hd hn e9 (h.2 q).1 (h.2 q).2
    · exact h.elim
  | return_ =>
    obtain ⟨h1, rfl, h3, h4, h5⟩ := h
    exact sim_vret hd hn h1 h3 h4 h5
  | ireturn => simp only at h; split at h <;> first | exact h.elim | exact sim_iret hd hn h.1 h.2.1 h.2.2.1 h.2.2.2
  | areturn => simp only at h; split at h <;> first | exact h.elim | exact sim_aret hd hn h.1 h.2.1 h.2.2.1 h.2.2.2
  | dreturn => simp only at h; split at h <;> first | exact h.elim | exact sim_dret hd hn h.1 h.2.1 h.2.2.1 h.2.2.2
  | _ => exact h.elim
theorem sim_Vs (h : Vs K J (MW l K J) mi pc L st sh I R c F) : MW l K J mi pc L st sh I R c F := by
  unfold Vs at h
  split at h
  · rename_i e9; exact sim_thr e9 h.1 h.2.1 h.2.2.1 h.2.2.2
  · split at h
    · rename_i e9; exact sim_Vi e9 h.1 h.2
    · exact h.elim
/-- the small machine is the machine's -/
theorem V_MW (h : V K J mi pc L st sh I R c F) : MW l K J mi pc L st sh I R c F := h (MW l K J) (fun _ _ _ _ _ _ _ _ _ g => sim_Vs g)
end SIM
end
section
/-! WHAT THE LAW AND THE JDK NEED BEYOND THE SMALL MACHINE: steps told over MW itself -/
theorem cx_at {c ix v pos : Nat} (h : lk2 cX c ix = some (v, pos)) : Cond.classLink (cN c) ix (cXn.getD v "") ∈ wAll := by
  obtain ⟨h1, h2, h3⟩ := lk2m h
  have h4 : cX.all (fun q => decide (lw_tb2[q.2.2]? = some (.classLink (cN (q.1 / 10000)) (q.1 % 10000) (cXn.getD q.2.1 "")))) = true := by decide +kernel
  have h5 := List.all_eq_true.mp h4 _ h1
  simp only [h2, h3, decide_eq_true_eq] at h5
  exact wAll_at h5 rfl
/-- what may lie in a list -/
def okE (sh : HS) (y : Nat) : Prop := ∃ t m, sh y = some (t, m) ∧ (t = 20 ∨ t = 12 ∨ t = 26)
theorem any_of {K J : Nat → Nat} {D : va_G} {s : State} {A : Nat → Prop} {sh : HS} {I : HI} {R : HR} {H : Heap} {y : Nat} (hK : va_K D vwCl [] s) (hB : WB K J A s s.heap) (hP : RP D s A sh I R H) (h : okE sh y) : va_Any "java/lang/Object" s H y := by
  obtain ⟨t, m, hy, ht⟩ := h
  obtain ⟨-, -, r1, r2, r3, r4, r5⟩ := hP y t m hy
  have hw := hB.2.2.2.2.2.2.2.2.2.2.2.1
  have fin : ∀ (C : String) (cell : Cell), Cond.castable C "java/lang/Object" ∈ nW2 → H[y]? = some cell → cell.vm.isStatics = false → s.vm.findClass C = some cell.cls → va_Any "java/lang/Object" s H y := by
    intro C cell hc h1 h2 h3
    obtain ⟨kC, hkC, -⟩ := Vm.findClass_spec h3
    refine ⟨cell, h1, h2, ⟨kC, hkC⟩, fun comp hcomp => ?_⟩
    obtain ⟨x, t1, f1, f2, f3⟩ := Cond.castable_spec (va_Nw.use (A := #[]) rfl (hw _ hc))
    cases h3.symm.trans f1
    cases hcomp.symm.trans f2
    exact f3
  rcases ht with rfl | rfl | rfl
  · obtain ⟨cA, g1, g2, g3⟩ := r2 rfl
    exact fin "[I" _ (by decide) g1 rfl g3
  · obtain ⟨r, hr, cell, g1, g2, g3, -⟩ := r1 (by decide)
    refine fin "java/lang/Integer" cell (by decide) g1 (by rw [g3]; rfl) ?_
    have e := (hK.1 12 r hr).2.1
    rw [g2, ← e, ← cN_cls hr]
    rfl
  · obtain ⟨cell, g1, g2⟩ := r5 (by decide) (by decide)
    exact fin "java/lang/Integer" cell (by decide) g1 (g2.1 rfl).1.1 (g2.1 rfl).1.2
section SIM
variable {l : Launch} {K J : Nat → Nat} {mi pc n : Nat} {L : VL} {st : List Value} {sh : HS} {I : HI} {R : HR} {c : Nat × Nat} {F : VF} {ins : Instr}
theorem sim_null (hd : decode (mB mi) pc = .ok (.aconst_null, 1)) (hk : MW l K J mi (pc + 1) L (.null :: st) sh I R c F) : MW l K J mi pc L st sh I R c F := by
  intro D p e s m args below meth cd A H locs ls C hP hl hS
  have k := hk D p e s m args below meth cd A H locs ls C hP hl hS
  obtain ⟨hx, hb, -⟩ := C
  exact lv_null hx hb hd k
theorem sim_ifnull {o : Int} {x : Option Nat} (hd : decode (mB mi) pc = .ok (.ifnull o, 3)) (h0 : 0 ≤ (pc : Int) + o) (hk1 : x = none → MW l K J mi ((pc : Int) + o).toNat L st sh I R c F) (hk2 : ¬ x = none → MW l K J mi (pc + 3) L st sh I R c F) : MW l K J mi pc L (va_rf x :: st) sh I R c F := by
  intro D p e s m args below meth cd A H locs ls C hP hl hS
  have k1 := fun z => hk1 z D p e s m args below meth cd A H locs ls C hP hl hS
  have k2 := fun z => hk2 z D p e s m args below meth cd A H locs ls C hP hl hS
  obtain ⟨hx, hb, -⟩ := C
  cases x with
  | none => exact lv_ifnullN hx hb hd (Int.toNat_of_nonneg h0).symm (k1 rfl)
  | some y => exact lv_ifnull hx hb hd (k2 (fun z => nomatch z))
theorem sim_ifnonnull {o : Int} {x : Option Nat} (hd : decode (mB mi) pc = .ok (.ifnonnull o, 3)) (h0 : 0 ≤ (pc : Int) + o) (hk1 : ¬ x = none → MW l K J mi ((pc : Int) + o).toNat L st sh I R c F) (hk2 : x = none → MW l K J mi (pc + 3) L st sh I R c F) : MW l K J mi pc L (va_rf x :: st) sh I R c F := by
  intro D p e s m args below meth cd A H locs ls C hP hl hS
  have k1 := fun z => hk1 z D p e s m args below meth cd A H locs ls C hP hl hS
  have k2 := fun z => hk2 z D p e s m args below meth cd A H locs ls C hP hl hS
  obtain ⟨hx, hb, -⟩ := C
  cases x with
  | none => exact lv_ifnonnullN hx hb hd (k2 rfl)
  | some y => exact lv_ifnonnull hx hb hd (Int.toNat_of_nonneg h0).symm (k1 (fun z => nomatch z))
theorem sim_acmp {o : Int} {x y : Option Nat} {ne : Bool} (hd : decode (mB mi) pc = .ok (.if_acmp (if ne then .ne else .eq) o, 3)) (h0 : 0 ≤ (pc : Int) + o) (hk1 : (x = y ↔ ne = false) → MW l K J mi ((pc : Int) + o).toNat L st sh I R c F) (hk2 : ¬ (x = y ↔ ne = false) → MW l K J mi (pc + 3) L st sh I R c F) : MW l K J mi pc L (va_rf y :: va_rf x :: st) sh I R c F := by
  intro D p e s m args below meth cd A H locs ls C hP hl hS
  have k1 := fun z => hk1 z D p e s m args below meth cd A H locs ls C hP hl hS
  have k2 := fun z => hk2 z D p e s m args below meth cd A H locs ls C hP hl hS
  obtain ⟨hx, hb, -⟩ := C
  cases ne with
  | false => exact lv_acmp_eq hx hb hd (Int.toNat_of_nonneg h0).symm (fun z => k1 ⟨fun _ => rfl, fun _ => z⟩) (fun z => k2 (fun w => z (w.mpr rfl)))
  | true => exact lv_acmp_ne hx hb hd (Int.toNat_of_nonneg h0).symm (fun z => k1 ⟨fun w => absurd w z, fun w => nomatch w⟩) (fun z => k2 (fun w => nomatch w.mp z))
theorem sim_dupx1 {u v : Value} (hd : decode (mB mi) pc = .ok (.dup_x1, 1)) (hu : u.category = 1) (hv : v.category = 1) (hk : MW l K J mi (pc + 1) L (u :: v :: u :: st) sh I R c F) : MW l K J mi pc L (u :: v :: st) sh I R c F := by
  intro D p e s m args below meth cd A H locs ls C hP hl hS
  have k := hk D p e s m args below meth cd A H locs ls C hP hl hS
  obtain ⟨hx, hb, -⟩ := C
  exact lv_dup_x1 hx hb hd hu hv k
theorem sim_popG {u : Value} (hd : decode (mB mi) pc = .ok (.pop, 1)) (hu : u.category = 1) (hk : MW l K J mi (pc + 1) L st sh I R c F) : MW l K J mi pc L (u :: st) sh I R c F := by
  intro D p e s m args below meth cd A H locs ls C hP hl hS
  have k := hk D p e s m args below meth cd A H locs ls C hP hl hS
  obtain ⟨hx, hb, -⟩ := C
  exact lv_pop hx hb hd hu k
theorem sim_i2b {x : Int32} (hd : decode (mB mi) pc = .ok (.i2b, 1)) (hk : MW l K J mi (pc + 1) L (.int x.toInt8.toInt32 :: st) sh I R c F) : MW l K J mi pc L (.int x :: st) sh I R c F := by
  intro D p e s m args below meth cd A H locs ls C hP hl hS
  have k := hk D p e s m args below meth cd A H locs ls C hP hl hS
  obtain ⟨hx, hb, -⟩ := C
  exact lv_i2b hx hb hd rfl k
theorem sim_ldcM {ix pos : Nat} (hd : decode (mB mi) pc = .ok (.ldc ix, 2)) (hf : lk2 cX (mC mi) ix = some (5, pos)) (hk : MW l K J mi (pc + 2) L (.ref (J nS) :: st) sh I R c F) : MW l K J mi pc L st sh I R c F := by
  intro D p e s m args below meth cd A H locs ls C hP hl hS
  have k := hk D p e s m args below meth cd A H locs ls C hP hl hS
  obtain ⟨hx, hb, hml, hr, hown, hts, hlk, hin, hex, hK, hB, hA, htr, hmi⟩ := C
  exact va_ldcM hx hb hown (hts _ (cx_at hf)) hB.2.2.2.2.2.2.2.2.2.2.2.2.1 hd k
theorem sim_areN {v : Option Nat} (hd : decode (mB mi) pc = .ok (.areturn, 1)) (hr0 : (∃ d, mRt mi = some (.object d)) ∨ ∃ d, mRt mi = some (.array d)) (h1 : c.1 ≤ mCe mi) (h2 : c.2 ≤ mSl mi) (hF : F (.inl (some (va_rf v))) sh I R) : MW l K J mi pc L [va_rf v] sh I R c F := by
  intro D p e s m args below meth cd A H locs ls C hP hl hS
  obtain ⟨hx, hb, hml, hr, hown, hts, hlk, hin, hex, hK, hB, hA, htr, hmi⟩ := C
  have hv : va_rf v = .null ∨ ∃ a, va_rf v = .ref a := by
    cases v with
    | none => exact Or.inl rfl
    | some a => exact Or.inr ⟨a, rfl⟩
  rcases hr0 with ⟨d, hr1⟩ | ⟨d, hr1⟩
  · exact W.widen h1 h2 (vx_ret (W.aret hx hb (by rw [hr, hr1]) (Or.inl ⟨d, rfl⟩) hv (fun t ht hW => qf_of hP hS hF ht hW.alike) hS.2.2 hd hlk))
  · exact W.widen h1 h2 (vx_ret (W.aret hx hb (by rw [hr, hr1]) (Or.inr ⟨d, rfl⟩) hv (fun t ht hW => qf_of hP hS hF ht hW.alike) hS.2.2 hd hlk))
/-- a field of an old Integer or String -/
theorem sim_getO {ix t k ty pos a : Nat} (hd : decode (mB mi) pc = .ok (.getfield ix, 3)) (hf : lk2 fX (mC mi) ix = some (t, k, ty, pos, 0)) (ho : (t = 12 ∧ k = 0 ∧ ty = 0 ∧ ∃ m, sh a = some (26, m)) ∨ (t = 14 ∧ ((k = 0 ∧ ty = 2) ∨ (k = 1 ∧ ty = 3)) ∧ ∃ m, sh a = some (28, m)))
    (hk : MW l K J mi (pc + 3) L ((if ty = 0 ∨ ty = 1 ∨ ty = 3 then .int (I a k) else va_rf (R a k)) :: st) sh I R c F) : MW l K J mi pc L (.ref a :: st) sh I R c F := by
  intro D p e s m args below meth cd A H locs ls C hP hl hS
  have kk := hk D p e s m args below meth cd A H locs ls C hP hl hS
  obtain ⟨hx, hb, hml, hr, hown, hts, hlk, hin, hex, hK, hB, hA, htr, hmi⟩ := C
  obtain ⟨r, hr0, hk0, hD, hfin, -, hl0⟩ := fx_at (args := args) hts hB hf
  have hl1 := hl0 rfl
  rcases ho with ⟨rfl, rfl, rfl, m0, hm0⟩ | ⟨rfl, hkt, m0, hm0⟩
  · cases hr0
    obtain ⟨cell, g1, g2⟩ := (hP a 26 m0 hm0).2.2.2.2.2.2 (by decide) (by decide)
    obtain ⟨-, cf, k9, i9, f9, e1, e2, e3, e4⟩ := g2.1 rfl
    exact W.getf hx hb hown hl1 e1 e2 g1 e3 e4 rfl rfl hd kk
  · cases hr0
    obtain ⟨cell, g1, g2⟩ := (hP a 28 m0 hm0).2.2.2.2.2.2 (by decide) (by decide)
    obtain ⟨-, ⟨cf, k9, i9, f9, e1, e2, e3, e4⟩, ⟨cf', k9', i9', f9', e1', e2', e3', e4'⟩⟩ := g2.2.1 rfl
    rcases hkt with ⟨rfl, rfl⟩ | ⟨rfl, rfl⟩
    · exact W.getf hx hb hown hl1 e1' e2' g1 e3' e4' rfl rfl hd kk
    · exact W.getf hx hb hown hl1 e1 e2 g1 e3 e4 rfl rfl hd kk
/-- the JDK's statics -/
def gxV (K : Nat → Nat) (q : Nat) : Value := if q = 2 then .ref (K nS) else if q = 3 then .int 127 else if q = 4 then .ref (K (nS + 1)) else if q = 5 then .ref (K (nS + 2)) else .ref (K (nS + 3))
theorem gX_ok : gX.all (fun q => match q.2.1 with
  | 2 => decide (lw_tb2[q.2.2]? = some (.fieldLink (cN (q.1 / 10000)) (q.1 % 10000) "java/util/ArrayList" "DEFAULTCAPACITY_EMPTY_ELEMENTDATA" "[Ljava/lang/Object;"))
  | 3 => decide (lw_tb2[q.2.2]? = some (.fieldLink (cN (q.1 / 10000)) (q.1 % 10000) "java/lang/Integer$IntegerCache" "high" "I"))
  | 4 => decide (lw_tb2[q.2.2]? = some (.fieldLink (cN (q.1 / 10000)) (q.1 % 10000) "java/lang/Integer$IntegerCache" "cache" "[Ljava/lang/Integer;"))
  | 5 => decide (lw_tb2[q.2.2]? = some (.fieldLink (cN (q.1 / 10000)) (q.1 % 10000) "java/lang/Integer" "DigitOnes" "[B"))
  | 6 => decide (lw_tb2[q.2.2]? = some (.fieldLink (cN (q.1 / 10000)) (q.1 % 10000) "java/lang/Integer" "DigitTens" "[B"))
  | _ => false) = true := by decide +kernel
theorem sim_getsX {ix q pos : Nat} (hd : decode (mB mi) pc = .ok (.getstatic ix, 3)) (hf : lk2 gX (mC mi) ix = some (q, pos)) (hk : MW l K J mi (pc + 3) L (gxV K q :: st) sh I R c F) : MW l K J mi pc L st sh I R c F := by
  intro D p e s m args below meth cd A H locs ls C hP hl hS
  have kk := hk D p e s m args below meth cd A H locs ls C hP hl hS
  obtain ⟨hx, hb, hml, hr, hown, hts, hlk, hin, hex, hK, hB, hA, htr, hmi⟩ := C
  obtain ⟨h1, h2, h3⟩ := lk2m hf
  have h4 := List.all_eq_true.mp gX_ok _ h1
  simp only [h2, h3] at h4
  obtain ⟨z2, z3, z4, z5, z6⟩ := hB.2.2.2.2.2.2.2.2.2.1
  split at h4
  · rw [decide_eq_true_eq] at h4
    exact va_gets hx hb z2 hS hown (hts _ (wAll_at h4 rfl)) (fun _ z => z) hd kk
  · rw [decide_eq_true_eq] at h4
    exact va_gets hx hb z3 hS hown (hts _ (wAll_at h4 rfl)) (fun _ z => z) hd kk
  · rw [decide_eq_true_eq] at h4
    exact va_gets hx hb z4 hS hown (hts _ (wAll_at h4 rfl)) (fun _ z => z) hd kk
  · rw [decide_eq_true_eq] at h4
    exact va_gets hx hb z5 hS hown (hts _ (wAll_at h4 rfl)) (fun _ z => z) hd kk
  · rw [decide_eq_true_eq] at h4
    exact va_gets hx hb z6 hS hown (hts _ (wAll_at h4 rfl)) (fun _ z => z) hd kk
  · cases h4
end SIM
/-- the cell of an array of ints or bytes or references, old or not, as far as reading goes -/
theorem ia_cell {D : va_G} {s : State} {A : Nat → Prop} {sh : HS} {I : HI} {R : HR} {H : Heap} {a t m : Nat} (hP : RP D s A sh I R H) (h : sh a = some (t, m)) (ht : t = 20 ∨ t = 22) : ∃ cell, H[a]? = some cell ∧ oT s .int m (fun j => .int (I a j)) cell := by
  obtain ⟨-, -, r1, r2, r3, r4, r5⟩ := hP a t m h
  rcases ht with rfl | rfl
  · obtain ⟨cA, g1, g2, g3⟩ := r2 rfl
    exact ⟨_, g1, g2 m _, fun z => (nomatch z), Nat.le_of_eq (arrV_size _ _ _).symm, (by first | (rw [arrV_size]; done) | (rw [arrV_size]; rfl)), fun j hj => arrV_read _ _ hj⟩
  · obtain ⟨cell, g1, g2⟩ := r5 (by decide) (by decide)
    exact ⟨cell, g1, g2.2.2.1 rfl⟩
theorem ba_cell {D : va_G} {s : State} {A : Nat → Prop} {sh : HS} {I : HI} {R : HR} {H : Heap} {a t m : Nat} (hP : RP D s A sh I R H) (h : sh a = some (t, m)) (ht : t = 21 ∨ t = 23) : ∃ cell, H[a]? = some cell ∧ oT s .byte m (fun j => .int (I a j)) cell := by
  obtain ⟨-, -, r1, r2, r3, r4, r5⟩ := hP a t m h
  rcases ht with rfl | rfl
  · obtain ⟨cA, g1, g2, g3, g4⟩ := r4 rfl
    exact ⟨_, g1, g2 m _, fun z => (nomatch z), Nat.le_of_eq (arrV_size _ _ _).symm, (by first | (rw [arrV_size]; done) | (rw [arrV_size]; rfl)), fun j hj => arrV_read _ _ hj⟩
  · obtain ⟨cell, g1, g2⟩ := r5 (by decide) (by decide)
    exact ⟨cell, g1, g2.2.2.2.1 rfl⟩
theorem ra_cell {D : va_G} {s : State} {A : Nat → Prop} {sh : HS} {I : HI} {R : HR} {H : Heap} {a t m : Nat} (hP : RP D s A sh I R H) (h : sh a = some (t, m)) (ht : 30 ≤ t ∨ t = 24 ∨ t = 25) : ∃ ty cell, H[a]? = some cell ∧ ty.isReference = true ∧ oT s ty m (fun j => va_rf (R a j)) cell := by
  obtain ⟨-, -, r1, r2, r3, r4, r5⟩ := hP a t m h
  rcases ht with ht | rfl | rfl
  · obtain ⟨cA, g1, g2, g3⟩ := r3 (t - 30) (by omega)
    exact ⟨_, _, g1, eTy_ref _, g2 m _, fun z => (nomatch z), Nat.le_of_eq (arrV_size _ _ _).symm, (by first | (rw [arrV_size]; done) | (rw [arrV_size]; rfl)), fun j hj => arrV_read _ _ hj⟩
  · obtain ⟨cell, g1, g2⟩ := r5 (by decide) (by decide)
    exact ⟨_, cell, g1, rfl, g2.2.2.2.2.1 rfl⟩
  · obtain ⟨cell, g1, g2⟩ := r5 (by decide) (by decide)
    exact ⟨_, cell, g1, rfl, g2.2.2.2.2.2 rfl⟩
def arK (t : Nat) : Prop := t = 20 ∨ t = 22 ∨ t = 21 ∨ t = 23 ∨ 30 ≤ t ∨ t = 24 ∨ t = 25
section SIM
variable {l : Launch} {K J : Nat → Nat} {mi pc n : Nat} {L : VL} {st : List Value} {sh : HS} {I : HI} {R : HR} {c : Nat × Nat} {F : VF} {ins : Instr}
theorem sim_alenG {a t m : Nat} (hd : decode (mB mi) pc = .ok (.arraylength, 1)) (h : sh a = some (t, m)) (ht : arK t) (hk : MW l K J mi (pc + 1) L (.int (nI m) :: st) sh I R c F) : MW l K J mi pc L (.ref a :: st) sh I R c F := by
  intro D p e s m0 args below meth cd A H locs ls C hP hl hS
  have kk := hk D p e s m0 args below meth cd A H locs ls C hP hl hS
  obtain ⟨hx, hb, hml, hr, hown, hts, hlk, hin, hex, hK, hB, hA, htr, hmi⟩ := C
  have hc : ∃ ty cell, H[a]? = some cell ∧ s.isArrayOf cell ty ∧ cell.slots.size.toInt32 = nI m := by
    rcases ht with ht | ht | ht | ht | ht | ht | ht
    · obtain ⟨cell, g1, g2, -, -, g3, -⟩ := ia_cell hP h (Or.inl ht); exact ⟨_, cell, g1, g2, g3⟩
    · obtain ⟨cell, g1, g2, -, -, g3, -⟩ := ia_cell hP h (Or.inr ht); exact ⟨_, cell, g1, g2, g3⟩
    · obtain ⟨cell, g1, g2, -, -, g3, -⟩ := ba_cell hP h (Or.inl ht); exact ⟨_, cell, g1, g2, g3⟩
    · obtain ⟨cell, g1, g2, -, -, g3, -⟩ := ba_cell hP h (Or.inr ht); exact ⟨_, cell, g1, g2, g3⟩
    · obtain ⟨ty, cell, g1, -, g2, -, -, g3, -⟩ := ra_cell hP h (Or.inl ht); exact ⟨_, cell, g1, g2, g3⟩
    · obtain ⟨ty, cell, g1, -, g2, -, -, g3, -⟩ := ra_cell hP h (Or.inr (Or.inl ht)); exact ⟨_, cell, g1, g2, g3⟩
    · obtain ⟨ty, cell, g1, -, g2, -, -, g3, -⟩ := ra_cell hP h (Or.inr (Or.inr ht)); exact ⟨_, cell, g1, g2, g3⟩
  obtain ⟨ty, cell, g1, g2, g3⟩ := hc
  exact W.alen hx hb g1 g2 g3 rfl rfl hd kk
theorem nin_of {i : Int32} {m z : Nat} (h : vp_in i m) (hz : m ≤ z) : ¬ (i < 0 ∨ z ≤ i.toNatClampNeg) := by
  have := vp_lt h
  intro q
  rcases q with q | q
  · exact h (Or.inl q)
  · omega
theorem sim_ialdG {a t m : Nat} {i : Int32} (hd : decode (mB mi) pc = .ok (.iaload, 1)) (h : sh a = some (t, m)) (ht : t = 20 ∨ t = 22) (hi : vp_in i m) (hk : MW l K J mi (pc + 1) L (.int (I a i.toNatClampNeg) :: st) sh I R c F) : MW l K J mi pc L (.int i :: .ref a :: st) sh I R c F := by
  intro D p e s m0 args below meth cd A H locs ls C hP hl hS
  have kk := hk D p e s m0 args below meth cd A H locs ls C hP hl hS
  obtain ⟨hx, hb, hml, hr, hown, hts, hlk, hin, hex, hK, hB, hA, htr, hmi⟩ := C
  obtain ⟨cell, g1, g2, g3, g4, g5, g6⟩ := ia_cell hP h ht
  exact W.iald (v := .int (I a i.toNatClampNeg)) hx hb g1 g2 g3 (nin_of hi g4) (g6 _ (vp_lt hi)) rfl rfl hd kk
theorem sim_baldG {a t m : Nat} {i : Int32} (hd : decode (mB mi) pc = .ok (.baload, 1)) (h : sh a = some (t, m)) (ht : t = 21 ∨ t = 23) (hi : vp_in i m) (hk : MW l K J mi (pc + 1) L (.int (I a i.toNatClampNeg) :: st) sh I R c F) : MW l K J mi pc L (.int i :: .ref a :: st) sh I R c F := by
  intro D p e s m0 args below meth cd A H locs ls C hP hl hS
  have kk := hk D p e s m0 args below meth cd A H locs ls C hP hl hS
  obtain ⟨hx, hb, hml, hr, hown, hts, hlk, hin, hex, hK, hB, hA, htr, hmi⟩ := C
  obtain ⟨cell, g1, g2, g3, g4, g5, g6⟩ := ba_cell hP h ht
  exact W.bald (v := .int (I a i.toNatClampNeg)) hx hb g1 g2 g3 (nin_of hi g4) (g6 _ (vp_lt hi)) rfl rfl hd kk
theorem sim_aaldG {a t m : Nat} {i : Int32} (hd : decode (mB mi) pc = .ok (.aaload, 1)) (h : sh a = some (t, m)) (ht : 30 ≤ t ∨ t = 24 ∨ t = 25) (hi : vp_in i m) (hk : MW l K J mi (pc + 1) L (va_rf (R a i.toNatClampNeg) :: st) sh I R c F) : MW l K J mi pc L (.int i :: .ref a :: st) sh I R c F := by
  intro D p e s m0 args below meth cd A H locs ls C hP hl hS
  have kk := hk D p e s m0 args below meth cd A H locs ls C hP hl hS
  obtain ⟨hx, hb, hml, hr, hown, hts, hlk, hin, hex, hK, hB, hA, htr, hmi⟩ := C
  obtain ⟨ty, cell, g1, g0, g2, g3, g4, g5, g6⟩ := ra_cell hP h ht
  exact W.aald (v := va_rf (R a i.toNatClampNeg)) (ty := ty) hx hb g1 g2 g0 g3 (nin_of hi g4) (g6 _ (vp_lt hi)) rfl rfl hd kk
theorem sim_bast {a m : Nat} {i x : Int32} (hd : decode (mB mi) pc = .ok (.bastore, 1)) (h : sh a = some (21, m)) (hi : vp_in i m) (hk : MW l K J mi (pc + 1) L st sh (u2 I a i.toNatClampNeg x.toInt8.toInt32) R c F) : MW l K J mi pc L (.int x :: .int i :: .ref a :: st) sh I R c F := by
  intro D p e s m0 args below meth cd A H locs ls C hP hl hS
  have kk := fun H1 locs1 => hk D p e s m0 args below meth cd A H1 locs1 ls C
  obtain ⟨hx, hb, hml, hr, hown, hts, hlk, hin, hex, hK, hB, hA, htr, hmi⟩ := C
  obtain ⟨haA, hasz, hrc⟩ := hP a 21 m h
  have haA := haA (by omega)
  obtain ⟨cA, g1, g2, g3, g4⟩ := hrc.2.2.2.1 rfl
  refine W.bast hx hb g1 (g2 m (fun j => .int (I a j))) (fun q => by cases q) (by rw [arrV_size]; exact hi) rfl rfl hd fun H' e1 e2 e3 => ?_
  refine kk H' _ (hP.put h e2 e3 (fun b j hb0 => u2_off hb0 j) (fun _ _ _ => rfl) ⟨fun z => by omega, fun z => by omega, fun u z => by omega, fun _ => ⟨cA, ?_, g2, g3, fun j hj => ?_⟩, fun z => by omega⟩) hl (hS.put e2 e3 haA)
  · rw [e1, arrV_store]
    congr 2
    funext q
    rw [u2_on]
    unfold updV
    by_cases hq : q = i.toNatClampNeg
    · rw [if_pos hq, if_pos hq, narrow_byte]
    · rw [if_neg hq, if_neg hq]
  · rw [u2_on]
    by_cases hq : j = i.toNatClampNeg
    · rw [if_pos hq, ← narrow_byte]
      exact fits_narrow_byte x
    · rw [if_neg hq]
      exact g4 j hj
theorem sim_aastO {a m : Nat} {v : Nat} {i : Int32} (hd : decode (mB mi) pc = .ok (.aastore, 1)) (h : sh a = some (46, m)) (hi : vp_in i m) (hv : okE sh v) (hk : MW l K J mi (pc + 1) L st sh I (u2 R a i.toNatClampNeg (some v)) c F) : MW l K J mi pc L (.ref v :: .int i :: .ref a :: st) sh I R c F := by
  intro D p e s m0 args below meth cd A H locs ls C hP hl hS
  have kk := fun H1 locs1 => hk D p e s m0 args below meth cd A H1 locs1 ls C
  obtain ⟨hx, hb, hml, hr, hown, hts, hlk, hin, hex, hK, hB, hA, htr, hmi⟩ := C
  obtain ⟨haA, hasz, hrc⟩ := hP a 46 m h
  have haA := haA (by omega)
  obtain ⟨cA, g1, g2, g3⟩ := hrc.2.2.1 16 rfl
  obtain ⟨cellV, q1, q2, ⟨kC, hkC⟩, q3⟩ := any_of hK hB hP hv
  have g4 := g3
  obtain ⟨kA, comp, k1, k2, k3, -⟩ := g3
  obtain ⟨kE, hkE, -⟩ := Vm.findClass_spec k3
  refine W.aast hx hb g1 (fun q h => by cases h) (fun h => by cases h) k1 k2 rfl hkE ⟨fun q => hi (Or.inl q), by rw [arrV_size]; exact vp_lt hi⟩ q1 (fun q h => by rw [h] at q2; cases q2) hkC (q3 _ k3) rfl rfl hd fun H' e1 e2 e3 => ?_
  refine kk H' _ (hP.put h e2 e3 (fun _ _ _ => rfl) (fun b j hb0 => u2_off hb0 j) ⟨fun z => by omega, fun z => by omega, fun u z => ⟨cA, ?_, by rw [show u = 16 by omega]; exact g2, by rw [show u = 16 by omega]; exact g4⟩, fun z => by omega, fun z => by omega⟩) hl (hS.put e2 e3 haA)
  rw [e1, arrV_store]
  congr 2
  funext q
  rw [u2_on]
  unfold updV
  by_cases hq : q = i.toNatClampNeg
  · rw [if_pos hq, if_pos hq]; rfl
  · rw [if_neg hq, if_neg hq]
end SIM
end
section
section SIM
variable {l : Launch} {K J : Nat → Nat} {mi pc n : Nat} {L : VL} {st : List Value} {sh : HS} {I : HI} {R : HR} {c : Nat × Nat} {F : VF} {ins : Instr}
theorem ac_byte : Cond.arrayClass .byte ∈ wAll := by
  refine List.mem_filter.mpr ⟨?_, rfl⟩
  have h : lw_tb2.contains (Cond.arrayClass .byte) = true := by decide +kernel
  simpa using h
theorem sim_newb {x : Int32} (hd : decode (mB mi) pc = .ok (.newarray .byte, 2)) (h0 : ¬ x < 0) (h3 : x.toNatClampNeg < 100000) (h1 : c.1 + 1 ≤ mCe mi) (h2 : c.2 + x.toNatClampNeg ≤ mSl mi)
    (hk : ∀ a, sh a = none → MW l K J mi (pc + 2) L (.ref a :: st) (u1 sh a (some (21, x.toNatClampNeg))) (u1 I a (fun _ => 0)) R (c.1 + 1, c.2 + x.toNatClampNeg) F) : MW l K J mi pc L (.int x :: st) sh I R c F := by
  intro D p e s m args below meth cd A H locs ls C hP hl hS
  have kk := fun H1 => hk H.size hP.fresh D p e s m args below meth cd A H1 locs ls C
  obtain ⟨hx, hb, hml, hr, hown, hts, hlk, hin, hex, hK, hB, hA, htr, hmi⟩ := C
  have hsz := hS.1
  refine va_newaK (atype := .byte) hx hb (hts _ ac_byte) rfl hd rfl h0 rfl (by show _ * 1 ≤ _; omega) h1 h2 rfl fun H1 cA e1 z1 o1 hAr hNm => ?_
  exact kk H1 (hP.push z1 o1 (fun b j hb0 => by rw [u1_off hb0]) (fun _ _ _ => rfl) (hA _ hsz) ⟨fun z => by omega, fun z => by omega, fun u z => by omega, fun _ => ⟨cA, by rw [e1, u1_on]; rfl, hAr, hNm, fun j _ => by rw [u1_on]; exact fits_narrow_byte 0⟩, fun z => by omega⟩) hl ⟨by omega, fun q g1 g2 => (o1 q (by omega)).trans (hS.2.1 q g1 g2), hS.2.2⟩
/-- new Object[x] (code 0 of the table), new int[x][] (code 1) -/
theorem sim_anewX {x : Int32} {ix v pos : Nat} (hd : decode (mB mi) pc = .ok (.anewarray ix, 3)) (hf : lk2 cX (mC mi) ix = some (v, pos)) (hv : v = 0 ∨ v = 1) (h0 : ¬ x < 0) (h3 : x.toNatClampNeg < 100000) (h1 : c.1 + 1 ≤ mCe mi) (h2 : c.2 + x.toNatClampNeg ≤ mSl mi)
    (hk : ∀ a, sh a = none → MW l K J mi (pc + 3) L (.ref a :: st) (u1 sh a (some (46 - v, x.toNatClampNeg))) I (u1 R a (fun _ => none)) (c.1 + 1, c.2 + x.toNatClampNeg) F) : MW l K J mi pc L (.int x :: st) sh I R c F := by
  intro D p e s m args below meth cd A H locs ls C hP hl hS
  have kk := fun H1 => hk H.size hP.fresh D p e s m args below meth cd A H1 locs ls C
  obtain ⟨hx, hb, hml, hr, hown, hts, hlk, hin, hex, hK, hB, hA, htr, hmi⟩ := C
  have hsz := hS.1
  have hl1 := hts _ (cx_at hf)
  rcases hv with rfl | rfl
  · refine W.anew (C := "java/lang/Object") hx hb hown hl1 (va_AO.use hB.2.2.2.2.2.2.2.2.2.2.2.2.2.2.1) rfl hd rfl h0 (by omega) h1 h2 fun cA kA comp f1 f2 f3 f4 => ?_
    generalize hH1 : H.push ({ cls := cA, slots := Array.replicate x.toNatClampNeg .null, vm := .none } : Cell) = H1
    have z1 : H1.size = H.size + 1 := by rw [← hH1, Array.size_push]
    have e1 : H1[H.size]? = some (arrV cA x.toNatClampNeg (fun _ => .null)) := by rw [← hH1, Array.getElem?_push_size, ← arrV_new]
    have o1 : ∀ q : Nat, q < H.size → H1[q]? = H[q]? := fun q hq => by rw [← hH1, Array.getElem?_push, if_neg (Nat.ne_of_lt hq)]
    have hAr : ArrOfT s cA (.object "java/lang/Object") := fun N z => ⟨(fun k h => by cases h), kA, f2, comp, f3⟩
    exact kk H1 (hP.push z1 o1 (fun _ _ _ => rfl) (fun b j hb0 => by rw [u1_off hb0]) (hA _ hsz) ⟨fun z => by omega, fun z => by omega, fun u z => ⟨cA, by rw [e1, u1_on]; rfl, by rw [show u = 16 by omega]; exact hAr, by rw [show u = 16 by omega]; exact ⟨kA, comp, f2, f3, f4, f1⟩⟩, fun z => by omega, fun z => by omega⟩) hl ⟨by omega, fun q g1 g2 => (o1 q (by omega)).trans (hS.2.1 q g1 g2), hS.2.2⟩
  · refine W.anewA (t := .int) hx hb hown hl1 (va_AOA.use hB.2.2.2.2.2.2.2.2.2.2.2.2.2.2.2.1) rfl hd rfl h0 (by omega) h1 h2 fun cA kA comp f1 f2 f3 f4 => ?_
    generalize hH1 : H.push ({ cls := cA, slots := Array.replicate x.toNatClampNeg .null, vm := .none } : Cell) = H1
    have z1 : H1.size = H.size + 1 := by rw [← hH1, Array.size_push]
    have e1 : H1[H.size]? = some (arrV cA x.toNatClampNeg (fun _ => .null)) := by rw [← hH1, Array.getElem?_push_size, ← arrV_new]
    have o1 : ∀ q : Nat, q < H.size → H1[q]? = H[q]? := fun q hq => by rw [← hH1, Array.getElem?_push, if_neg (Nat.ne_of_lt hq)]
    have hAr : ArrOfT s cA (.array .int) := fun N z => ⟨(fun k h => by cases h), kA, f2, comp, f3⟩
    exact kk H1 (hP.push z1 o1 (fun _ _ _ => rfl) (fun b j hb0 => by rw [u1_off hb0]) (hA _ hsz) ⟨fun z => by omega, fun z => by omega, fun u z => ⟨cA, by rw [e1, u1_on]; rfl, by rw [show u = 15 by omega]; exact hAr, by rw [show u = 15 by omega]; exact f1⟩, fun z => by omega, fun z => by omega⟩) hl ⟨by omega, fun q g1 g2 => (o1 q (by omega)).trans (hS.2.1 q g1 g2), hS.2.2⟩
/-- checkcast to int[] (1), Integer (3), byte[] (4) of what is one -/
theorem sim_cast {ix v pos a t m : Nat} (hd : decode (mB mi) pc = .ok (.checkcast ix, 3)) (hf : lk2 cX (mC mi) ix = some (v, pos)) (h : sh a = some (t, m)) (ht : (v = 1 ∧ t = 20) ∨ (v = 3 ∧ (t = 12 ∨ t = 26)) ∨ (v = 4 ∧ t = 21))
    (hk : MW l K J mi (pc + 3) L (.ref a :: st) sh I R c F) : MW l K J mi pc L (.ref a :: st) sh I R c F := by
  intro D p e s m0 args below meth cd A H locs ls C hP hl hS
  have kk := hk D p e s m0 args below meth cd A H locs ls C hP hl hS
  obtain ⟨hx, hb, hml, hr, hown, hts, hlk, hin, hex, hK, hB, hA, htr, hmi⟩ := C
  have hl1 := hts _ (cx_at hf)
  have hc : ∃ cell : Cell, H[a]? = some cell ∧ cell.vm.isStatics = false ∧ s.vm.findClass (cXn.getD v "") = some cell.cls := by
    obtain ⟨-, -, r1, r2, r3, r4, r5⟩ := hP a t m h
    rcases ht with ⟨rfl, rfl⟩ | ⟨rfl, ht⟩ | ⟨rfl, rfl⟩
    · obtain ⟨cA, g1, g2, g3⟩ := r2 rfl
      exact ⟨_, g1, rfl, g3⟩
    · rcases ht with rfl | rfl
      · obtain ⟨r, hr, cell, g1, g2, g3, -⟩ := r1 (by decide)
        refine ⟨cell, g1, by rw [g3]; rfl, ?_⟩
        have e := (hK.1 12 r hr).2.1
        rw [g2, ← e, ← cN_cls hr]
        rfl
      · obtain ⟨cell, g1, g2⟩ := r5 (by decide) (by decide)
        exact ⟨cell, g1, (g2.1 rfl).1.1, (g2.1 rfl).1.2⟩
    · obtain ⟨cA, g1, g2, g3, -⟩ := r4 rfl
      exact ⟨_, g1, rfl, g3⟩
  obtain ⟨cell, h1, h2, h3⟩ := hc
  intro T hT X
  obtain ⟨vm', X', st'⟩ := X.checkcastYes hx hown hl1 (by rw [hT]; exact h1) h2 h3 (va_asg _ _) (g := F0 m0 pc ls (.ref a :: st)) rfl rfl (by rw [hb]; exact hd)
  obtain ⟨t2, a1, b1⟩ := kk (T.setVm vm') hT X'
  exact ⟨t2, st' t2 a1, b1⟩
theorem m_cln : Cond.sameMethod "[B" "java/lang/Object" "clone" "()Ljava/lang/Object;" ∈ wAll ∧ Cond.native ⟨"java/lang/Object", "clone", "()Ljava/lang/Object;"⟩ ∈ wAll ∧ Cond.instanceMethod ⟨"java/lang/Object", "clone", "()Ljava/lang/Object;"⟩ ∈ wAll ∧ Cond.selects "[B" ⟨"[B", "clone", "()Ljava/lang/Object;"⟩ ⟨"java/lang/Object", "clone", "()Ljava/lang/Object;"⟩ ∈ wAll :=
  ⟨mem_of_contains (by decide +kernel) rfl, mem_of_contains (by decide +kernel) rfl, mem_of_contains (by decide +kernel) rfl, mem_of_contains (by decide +kernel) rfl⟩
theorem sim_clone {ix a m x y : Nat} (hd : decode (mB mi) pc = .ok (.invokevirtual ix, 3)) (hf : lk2 kL (mC mi) ix = some (1005, x, y)) (h : sh a = some (21, m)) (hg : VmG mi c st) (h1 : c.1 + 1 ≤ mCe mi) (h2 : c.2 + m ≤ mSl mi)
    (hk : ∀ b, sh b = none → MW l K J mi (pc + 3) L (.ref b :: st) (u1 sh b (some (21, m))) (u1 I b (I a)) R (c.1 + 1, c.2 + m) F) : MW l K J mi pc L (.ref a :: st) sh I R c F := by
  intro D p e s m0 args below meth cd A H locs ls C hP hl hS
  have kk := fun H1 => hk H.size hP.fresh D p e s m0 args below meth cd A H1 locs ls C
  obtain ⟨hx, hb, hml, hr, hown, hts, hlk, hin, hex, hK, hB, hA, htr, hmi⟩ := C
  obtain ⟨w1, w2, w3, w4, w5⟩ := hg
  unfold catS at w1
  obtain ⟨haA, hasz, hrc⟩ := hP a 21 m h
  obtain ⟨cA, g1, g2, g3, g4⟩ := hrc.2.2.2.1 rfl
  have hcl := hB.2.2.2.2.2.2.2.2.2.2.2.1 (.castable "[B" "java/lang/Cloneable") (by decide)
  obtain ⟨c0, t0', f1, f2, f3⟩ := Cond.castable_spec (va_Nw.use (A := args) rfl hcl)
  have hnm : s.vm.findClass "[B" = some cA := g3
  cases hnm.symm.trans f1
  have hsz := hS.1
  intro T hT X
  have hcellT : T.heap[a]? = some (arrV cA m (fun j => .int (I a j))) := by rw [hT]; exact g1
  obtain ⟨-, kA, hkA, comp, hkind⟩ := State.isArrayOf_alike X.warmed.alike (g2 0 (fun _ => .null))
  obtain ⟨-, kS, hkS, compS, hkindS⟩ := g2 0 (fun _ => .null)
  obtain ⟨vm', X', st'⟩ := X.cloneArray hx hown (hts _ (kl_sp hf (by decide))) (hts _ m_cln.1) (hts _ m_cln.2.1) (hts _ m_cln.2.2.1) (hts _ m_cln.2.2.2) (a := a) (cell := arrV cA m (fun j => .int (I a j))) hcellT (fun k h => by cases h) (fun h => by cases h) hnm f2 f3
    (fun i v hv => by
      have hi : i < m := by
        have := (Array.getElem?_eq_some_iff.mp hv).1
        rw [arrV_size] at this
        exact this
      have e2 := (arrV_read cA (fun j => .int (I a j)) hi).symm.trans hv
      cases e2
      have hk' : T.vm.classes[cA]? = some kA := hkA
      have h9 := g4 i hi
      show T.fitsSlot cA .none i _ = true
      simpa [State.fitsSlot, State.slotType?, hk', hkind] using h9)
    (g := F0 m0 pc ls (.ref a :: st)) rfl (by show ls.size = _; rw [hl.1, hml]) rfl (by rw [hb]; exact hd) w2 (by show 2 * 0 + _ + 14 ≤ mLo mi; omega) h1 (by rw [arrV_size]; exact h2) (hloader := Vm.clonesLoader_of_array hkS hkindS)
  have hcellE : ({ cls := (arrV cA m (fun j => .int (I a j))).cls, slots := (arrV cA m (fun j => .int (I a j))).slots } : Cell) = arrV cA m (fun j => .int (I a j)) := rfl
  rw [hcellE, arrV_size] at X'
  generalize hH1 : H.push (arrV cA m (fun j => .int (I a j))) = H1
  have z1 : H1.size = H.size + 1 := by rw [← hH1, Array.size_push]
  have e1 : H1[H.size]? = some (arrV cA m (fun j => .int (I a j))) := by rw [← hH1, Array.getElem?_push_size]
  have o1 : ∀ q : Nat, q < H.size → H1[q]? = H[q]? := fun q hq => by rw [← hH1, Array.getElem?_push, if_neg (Nat.ne_of_lt hq)]
  obtain ⟨t, b1, b2⟩ := kk H1 (hP.push z1 o1 (fun b j hb0 => by rw [u1_off hb0]) (fun _ _ _ => rfl) (hA _ hsz) ⟨fun z => by omega, fun z => by omega, fun u z => by omega, fun _ => ⟨cA, by rw [e1, u1_on], g2, g3, fun j hj => by rw [u1_on]; exact g4 j hj⟩, fun z => by omega⟩) hl ⟨by omega, fun q q1 q2 => (o1 q (by omega)).trans (hS.2.1 q q1 q2), hS.2.2⟩ _ (by rw [← hH1, ← hT]; rfl) X'
  refine ⟨t, st' t ?_, b2⟩
  rw [hcellE, hT]
  exact b1
end SIM
end
section
/-! ===== BEGIN a method of a class above, found by the receiver, that may throw (follows va_callVU, va_runU of this kit) ===== -/
section
variable {p : Program} {l : Launch} {e : Env} {R : Room} {s : State} {m : MethodId} {args : Array Value} {below : List Frame} {meth : Method} {c : Code} {H : Heap} {locs : List Loc} {cells slots : Nat}
theorem vx_callVU {T : State} {locs : List Loc} {cells slots : Nat} (X : Stand p l e R s m args below meth c T locs cells slots) (hexec : p.tables.exec = Jvm.exec) {own C owner : String} {index : Nat} {x y : MethodName} {bytes : ByteArray} {maxL : Nat} {ret : Option FieldType}
    (hown : s.vm.findClass own = some m.cls) (hlink : (Cond.methodLink own index x).before args s = true) (hsame : (Cond.sameMethod x.cls owner x.name x.desc).before args s = true)
    (hd0 : va_Decl s ⟨owner, x.name, x.desc⟩) (howner : owner ≠ "java/lang/invoke/MethodHandle" ∧ owner ≠ "java/lang/invoke/VarHandle")
    (hsel : (Cond.selects C x y).before args s = true) (hinst : (Cond.instanceMethod y).before args s = true) (hcode : (Cond.code y bytes maxL ret).before args s = true)
    {W : Nat} {Pre : Pt → Array Value → Prop} {Post : Pt → Array Value → Option Value → Pt → Prop} {PostX : Pt → Array Value → Addr → Pt → Prop} (hK : vx_Back l R p e below s args y 3 W Pre Post PostX)
    {b : Addr} {cellB : Cell} (hcell : T.heap[b]? = some cellB) (hobj : cellB.vm.isStatics = false) (hcls : s.vm.findClass C = some cellB.cls)
    {g : JFrame} (hg : g.method = m) (hsize : g.locals.size = c.maxLocals) {argsL rest : List Value} (hlen : ∀ sig, parseMethodDescriptor x.desc = some sig → argsL.length = sig.parameters.length)
    (hstack : g.stack = argsL.reverse ++ .ref b :: rest) (hW : 2 * g.monitorRoom + (rest.map fun v => v.category).sum ≤ W) (hdg : decode c.code g.pc = .ok (.invokevirtual index, 3))
    (hpre : ∀ vm₁, s.WarmedH vm₁ → Pre ⟨T.setVm vm₁, locs, cells, slots⟩ (Value.ref b :: argsL).toArray) :
    (∃ (v : Option Value) (vm₁ : Jvm.Vm) (B : Pt), s.WarmedH vm₁ ∧ Stand p l e R s m args below meth c B.U B.locs B.cells B.slots ∧ Post ⟨T.setVm vm₁, locs, cells, slots⟩ (Value.ref b :: argsL).toArray v B ∧
      ∀ target, Steps p.tables e below (B.U.setTop { g with pc := g.pc + 3, stack := v.toList ++ rest }) target → Steps p.tables e below (T.setTop g) target) ∨
    (∃ (q : Addr) (vm₁ : Jvm.Vm) (B : Pt), s.WarmedH vm₁ ∧ Stand p l e R s m args below meth c B.U B.locs B.cells B.slots ∧ PostX ⟨T.setVm vm₁, locs, cells, slots⟩ (Value.ref b :: argsL).toArray q B ∧
      Steps p.tables e below (T.setTop g) ((B.U.setTop { g with stack := rest }).pushFrame (.throwing q))) := by
  obtain ⟨r0, r, hn, hrm, hstR, hsigR⟩ := hd0
  obtain ⟨cn, ck, r1, hcn, hck, hni, hf, hn1⟩ := Cond.sameMethod_found hsame
  cases hn.symm.trans hn1
  obtain ⟨mk, methM, hnamed, hmethM, -, habM⟩ := Cond.instanceMethod_spec hinst
  obtain ⟨c2, r2, m2, q1, q2, q3, q4, kP, hkP, hkPi⟩ := Cond.selects_spec hsel
  cases hcls.symm.trans q1
  cases hf.symm.trans q2
  cases hnamed.symm.trans q3
  have hselP : selectMethod e.platform s.vm cellB.cls r0 = .method mk := by rw [Launch.admits_selectMethod X.admits]; exact q4
  obtain ⟨vm₁, X₁, hstep₁⟩ := X.invokevirtualUp hexec hown hlink hsame howner hn hrm hstR (a := b) (cell := cellB) hcell
    (fun z h => by rw [h] at hobj; cases hobj) hselP hmethM habM hkP hkPi (g := g) hg (argsL := argsL) (rest := rest) (hlen _ hsigR) hstack hdg
  rcases hK m meth c ⟨T.setVm vm₁, locs, cells, slots⟩ { g with stack := rest } (.invokevirtual index) mk (Value.ref b :: argsL).toArray X₁ hg hsize hdg hW (X₁.named hnamed) (hpre vm₁ X₁.warmed) with ⟨v, B, X', hpost, hsteps⟩ | ⟨q, B, X', hpost, hsteps⟩
  · exact Or.inl ⟨v, vm₁, B, X₁.warmed, X', hpost, fun target h => hstep₁ _ fun acts => by rw [doInvoke_state]; exact hsteps.trans h⟩
  · exact Or.inr ⟨q, vm₁, B, X₁.warmed, X', hpost, hstep₁ _ fun acts => by rw [doInvoke_state]; exact hsteps⟩
theorem vx_runU {x y : MethodName} {bytes cc : ByteArray} {maxL nL mc ms n index : Nat} {ret : Option FieldType} {ws : List Cond} {rm : Room} {Pc : Array Value → State → Prop} {Qc : Array Value → State → Outcome → State → Prop} {XC : String → State → State → Prop} {free : Addr → Prop} {Ts : List Cond} {own C owner : String} {b : Addr} {As rest : List Value} {g : JFrame}
    (S : CallFix p m c cc nL s args Ts own) (hM : vx_Met l y ws rm Pc Qc XC mc ms free) (cw : va_CU R s args own C owner index x y bytes maxL ret ws rm mc ms n) (hp : PreV s H C b Pc As)
    (hg : g.method = m) (hn : As.length = n) (hsize : g.locals.size = nL) (hstack : g.stack = As.reverse ++ .ref b :: rest) (hW : 2 * g.monitorRoom + (rest.map fun v => v.category).sum ≤ 8) (hdg : decode cc g.pc = .ok (.invokevirtual index, 3)) (hf : cells + mc ≤ R.cells ∧ slots + ms ≤ R.slots) :
    vx_Run p l e R s m args below meth c H locs cells slots mc ms g rest (Qc (Value.ref b :: As).toArray) XC free := by
  obtain ⟨hrc, hrs, hfr, hlo, hws, hcw⟩ := cw.back
  have hini := cw.init
  have hK : vx_Back l R p e below s args y 3 8 (PreOf R mc ms Pc) (PostOf Qc mc ms free) (vx_Post XC mc ms free) := vx_back (bytes := bytes) (maxL := maxL) (ret := ret) hM hp.1 hrc hrs hfr hlo hws hcw (fun a' U hW => word_at hW (Or.inl (by first | rfl | simp [Cond.onTables, Cond.keeps, Cond.steady])) hini)
  obtain ⟨hx, hb, hml, ho, -⟩ := S
  obtain ⟨-, ⟨cellB, hcB, hoB, hclB⟩, hPc⟩ := hp
  intro T hT X
  rcases vx_callVU X hx (C := C) (owner := owner) (bytes := bytes) (maxL := maxL) (ret := ret) ho cw.link cw.same cw.decl cw.notMH cw.sel cw.inst cw.code hK (by rw [hT]; exact hcB) hoB hclB hg (hsize.trans hml.symm) (argsL := As) (rest := rest) (fun sig h => hn.trans (cw.len sig h)) hstack hW (by rw [hb]; exact hdg)
    (fun vm₁ hW₁ => ⟨hf.1, hf.2, hPc (T.setVm vm₁) hT hW₁⟩) with ⟨v, vm₁, ⟨U', l2, c2, s2⟩, hW₁, X', ⟨g', mk, t, L, e1, e2, hq, h1, hL, h2, h3⟩, st⟩ | ⟨q, vm₁, ⟨U', l2, c2, s2⟩, hW₁, X', ⟨g', mk, t, L, E, ce, e1, e2, hq, hce, hcv, hcl, h1, hL, h2, h3⟩, st⟩
  · dsimp only [Pt.U, Pt.locs, Pt.cells, Pt.slots] at X' e1 e2 h1 h2 h3 st
    subst h1; subst h2; subst h3
    exact Or.inl ⟨v, (T.setVm vm₁).calling g' mk (Value.ref b :: As).toArray, t, U', L, hT, X', hL, e1, e2, hq, st⟩
  · dsimp only [Pt.U, Pt.locs, Pt.cells, Pt.slots] at X' e1 e2 h1 h2 h3 st hcl
    subst h1; subst h2; subst h3
    exact Or.inr ⟨q, (T.setVm vm₁).calling g' mk (Value.ref b :: As).toArray, t, U', L, E, ce, hT, X', hL, e1, e2, hq, hce, hcv, vx_cls hW₁ hcl, st⟩
end
/-! ===== END ===== -/
/-! ===== BEGIN super.m(..) that may throw (follows va_callSU, va_runSU) ===== -/
section
variable {p : Program} {l : Launch} {e : Env} {R : Room} {s : State} {m : MethodId} {args : Array Value} {below : List Frame} {meth : Method} {c : Code} {H : Heap} {locs : List Loc} {cells slots : Nat}
theorem vx_callSU {T : State} {locs : List Loc} {cells slots : Nat} (X : Stand p l e R s m args below meth c T locs cells slots) (hexec : p.tables.exec = Jvm.exec) {own : String} {index : Nat} {y : MethodName} {bytes : ByteArray} {maxL : Nat} {ret : Option FieldType}
    (hown : s.vm.findClass own = some m.cls) (hlink : (Cond.methodLink own index y).before args s = true) (hsame : (Cond.sameMethod y.cls y.cls y.name y.desc).before args s = true) (hsup : (Cond.superclass own y.cls).before args s = true)
    (hinst : (Cond.instanceMethod y).before args s = true) (hcode : (Cond.code y bytes maxL ret).before args s = true) (hno : y.name ≠ "<init>")
    {W : Nat} {Pre : Pt → Array Value → Prop} {Post : Pt → Array Value → Option Value → Pt → Prop} {PostX : Pt → Array Value → Addr → Pt → Prop} (hK : vx_Back l R p e below s args y 3 W Pre Post PostX)
    {b : Addr} {cellB : Cell} {kB : Class} (hcell : T.heap[b]? = some cellB) (hobj : cellB.vm.isStatics = false) (hkB : s.vm.classes[cellB.cls]? = some kB)
    {g : JFrame} (hg : g.method = m) (hsize : g.locals.size = c.maxLocals) {argsL rest : List Value} (hlen : ∀ sig, parseMethodDescriptor y.desc = some sig → argsL.length = sig.parameters.length)
    (hstack : g.stack = argsL.reverse ++ .ref b :: rest) (hW : 2 * g.monitorRoom + (rest.map fun v => v.category).sum ≤ W) (hdg : decode c.code g.pc = .ok (.invokespecial index, 3))
    (hpre : ∀ vm₁, s.WarmedH vm₁ → Pre ⟨T.setVm vm₁, locs, cells, slots⟩ (Value.ref b :: argsL).toArray) :
    (∃ (v : Option Value) (vm₁ : Jvm.Vm) (B : Pt), s.WarmedH vm₁ ∧ Stand p l e R s m args below meth c B.U B.locs B.cells B.slots ∧ Post ⟨T.setVm vm₁, locs, cells, slots⟩ (Value.ref b :: argsL).toArray v B ∧
      ∀ target, Steps p.tables e below (B.U.setTop { g with pc := g.pc + 3, stack := v.toList ++ rest }) target → Steps p.tables e below (T.setTop g) target) ∨
    (∃ (q : Addr) (vm₁ : Jvm.Vm) (B : Pt), s.WarmedH vm₁ ∧ Stand p l e R s m args below meth c B.U B.locs B.cells B.slots ∧ PostX ⟨T.setVm vm₁, locs, cells, slots⟩ (Value.ref b :: argsL).toArray q B ∧
      Steps p.tables e below (T.setTop g) ((B.U.setTop { g with stack := rest }).pushFrame (.throwing q))) := by
  obtain ⟨mk, methM, hnamed, hmethM, hstM, habM⟩ := Cond.instanceMethod_spec hinst
  obtain ⟨methM', cM, hmethM', -, -, -, -, -, -, hsigM⟩ := Cond.code_spec hnamed hcode
  cases hmethM.symm.trans hmethM'
  obtain ⟨ps, dk, kp, hps, hdk, hkp, hsuper, -, -, hnid⟩ := Cond.superclass_spec hown hsup
  have hn : s.methodNamed? ⟨y.cls, y.name, y.desc⟩ = some mk := hnamed
  have hpm : ps = mk.cls := Option.some.inj (hps.symm.trans (findClass_of_methodNamed hnamed))
  have hsub : s.vm.isSubclass ps mk.cls = true := by rw [hpm]; simp [Vm.isSubclass, Vm.isSubclassAux]
  obtain ⟨vm₁, X₁, hstep₁⟩ := X.invokespecialUp hexec hown hlink hsame hn hmethM hstM habM hno hdk hnid hps hsuper hsub (a := b) (cell := cellB) hcell
    (fun z h => by rw [h] at hobj; cases hobj) hkB (g := g) hg (argsL := argsL) (rest := rest) (hlen _ hsigM) hstack hdg
  rcases hK m meth c ⟨T.setVm vm₁, locs, cells, slots⟩ { g with stack := rest } (.invokespecial index) mk (Value.ref b :: argsL).toArray X₁ hg hsize hdg hW (X₁.named hnamed) (hpre vm₁ X₁.warmed) with ⟨v, B, X', hpost, hsteps⟩ | ⟨q, B, X', hpost, hsteps⟩
  · exact Or.inl ⟨v, vm₁, B, X₁.warmed, X', hpost, fun target h => hstep₁ _ (by rw [doInvoke_state]; exact hsteps.trans h)⟩
  · exact Or.inr ⟨q, vm₁, B, X₁.warmed, X', hpost, hstep₁ _ (by rw [doInvoke_state]; exact hsteps)⟩
theorem vx_runSU {y : MethodName} {bytes cc : ByteArray} {maxL nL mc ms n index : Nat} {ret : Option FieldType} {ws : List Cond} {rm : Room} {Pc : Array Value → State → Prop} {Qc : Array Value → State → Outcome → State → Prop} {XC : String → State → State → Prop} {free : Addr → Prop} {Ts : List Cond} {own C : String} {cC : ClassId} {b : Addr} {As rest : List Value} {g : JFrame}
    (hat : ClassAt s C cC) (S : CallFix p m c cc nL s args Ts own) (hM : vx_Met l y ws rm Pc Qc XC mc ms free) (cw : va_CS R s args own index y bytes maxL ret ws rm mc ms n) (hp : PreV s H C b Pc As)
    (hg : g.method = m) (hn : As.length = n) (hsize : g.locals.size = nL) (hstack : g.stack = As.reverse ++ .ref b :: rest) (hW : 2 * g.monitorRoom + (rest.map fun v => v.category).sum ≤ 8) (hdg : decode cc g.pc = .ok (.invokespecial index, 3)) (hf : cells + mc ≤ R.cells ∧ slots + ms ≤ R.slots) :
    vx_Run p l e R s m args below meth c H locs cells slots mc ms g rest (Qc (Value.ref b :: As).toArray) XC free := by
  obtain ⟨⟨hrc, hrs, hfr, hlo, hws, hcw⟩, hl1, hl2, hl3, hl4, hini, hcode, hno, hlen⟩ := cw
  have hK : vx_Back l R p e below s args y 3 8 (PreOf R mc ms Pc) (PostOf Qc mc ms free) (vx_Post XC mc ms free) := vx_back (bytes := bytes) (maxL := maxL) (ret := ret) hM hp.1 hrc hrs hfr hlo hws hcw (fun a' U hW => word_at hW (Or.inl (by first | rfl | simp [Cond.onTables, Cond.keeps, Cond.steady])) hini)
  obtain ⟨hx, hb, hml, ho, -⟩ := S
  obtain ⟨-, ⟨cellB, hcB, hoB, hclB⟩, hPc⟩ := hp
  obtain ⟨hfc, kB, hkB, -⟩ := hat
  cases hfc.symm.trans hclB
  intro T hT X
  rcases vx_callSU X hx (bytes := bytes) (maxL := maxL) (ret := ret) ho hl1 hl2 hl3 hl4 hcode hno hK (by rw [hT]; exact hcB) hoB hkB hg (hsize.trans hml.symm) (argsL := As) (rest := rest) (fun sig h => hn.trans (hlen sig h)) hstack hW (by rw [hb]; exact hdg)
    (fun vm₁ hW₁ => ⟨hf.1, hf.2, hPc (T.setVm vm₁) hT hW₁⟩) with ⟨v, vm₁, ⟨U', l2, c2, s2⟩, hW₁, X', ⟨g', mk, t, L, e1, e2, hq, h1, hL, h2, h3⟩, st⟩ | ⟨q, vm₁, ⟨U', l2, c2, s2⟩, hW₁, X', ⟨g', mk, t, L, E, ce, e1, e2, hq, hce, hcv, hcl, h1, hL, h2, h3⟩, st⟩
  · dsimp only [Pt.U, Pt.locs, Pt.cells, Pt.slots] at X' e1 e2 h1 h2 h3 st
    subst h1; subst h2; subst h3
    exact Or.inl ⟨v, (T.setVm vm₁).calling g' mk (Value.ref b :: As).toArray, t, U', L, hT, X', hL, e1, e2, hq, st⟩
  · dsimp only [Pt.U, Pt.locs, Pt.cells, Pt.slots] at X' e1 e2 h1 h2 h3 st hcl
    subst h1; subst h2; subst h3
    exact Or.inr ⟨q, (T.setVm vm₁).calling g' mk (Value.ref b :: As).toArray, t, U', L, E, ce, hT, X', hL, e1, e2, hq, hce, hcv, vx_cls hW₁ hcl, st⟩
end
/-! ===== END ===== -/
/-! ===== BEGIN calls by an interface of methods that may throw (vx_callIF, vx_runF follow va_callIF, va_runF of this kit) ===== -/
section
variable {p : Program} {l : Launch} {e : Env} {R : Room} {s : State} {m : MethodId} {args : Array Value} {below : List Frame} {meth : Method} {c : Code} {H : Heap} {locs : List Loc} {cells slots : Nat} {Q : State → Prop}
variable {mc ms : Nat} {free : Addr → Prop} {A0 A1 : Nat → Prop} {H0 : Heap} {a : Array Value} {pc : Nat} {ls : Array Slot} {st0 rest : List Value}
def vx_Run5 (p : Program) (l : Launch) (e : Env) (R : Room) (s : State) (m : MethodId) (args : Array Value) (below : List Frame) (meth : Method) (c : Code) (H : Heap) (locs : List Loc) (cells slots mc ms : Nat) (g : JFrame) (rest : List Value) (Qa : State → Outcome → State → Prop) (XC : String → State → State → Prop) (free : Addr → Prop) : Prop :=
  ∀ T : State, T.heap = H → Stand p l e R s m args below meth c T locs cells slots →
    (∃ (v : Option Value) (st₀ t T' : State) (L : List Loc), st₀.heap = H ∧ Stand p l e R s m args below meth c T' (locs ++ L) (cells + mc) (slots + ms) ∧ (∀ q ∈ L, free q.base) ∧ T'.heap = t.heap ∧ T'.vm = t.vm ∧ Qa st₀ (.returned v) t ∧
      Goes p e below T g T' { g with pc := g.pc + 5, stack := v.toList ++ rest }) ∨
    (∃ (q : Addr) (st₀ t T' : State) (L : List Loc) (E : String) (ce : Cell), st₀.heap = H ∧ Stand p l e R s m args below meth c T' (locs ++ L) (cells + mc) (slots + ms) ∧ (∀ z ∈ L, free z.base) ∧ T'.heap = t.heap ∧ T'.vm = t.vm ∧ XC E st₀ t ∧ t.heap[q]? = some ce ∧ ce.vm = .none ∧ s.vm.findClass E = some ce.cls ∧
      Steps p.tables e below (T.setTop g) ((T'.setTop { g with stack := rest }).pushFrame (.throwing q)))
theorem vx_callIF {T : State} (X : Stand p l e R s m args below meth c T locs cells slots) (hexec : p.tables.exec = Jvm.exec) {own C : String} {index count : Nat} {x y : MethodName} {bytes : ByteArray} {maxL : Nat} {ret : Option FieldType}
    (hown : s.vm.findClass own = some m.cls) (hlink : (Cond.methodLink own index x).before args s = true) (hdecl : (Cond.declares x).before args s = true) (hface : (Cond.interfaceMethod x.cls x.cls x.name x.desc).before args s = true)
    (hsel : (Cond.selects C x y).before args s = true) (hinst : (Cond.instanceMethod y).before args s = true) (hpub : (Cond.publicMethod y).before args s = true) (hunh : (Cond.unhidden C x.name x.desc).before args s = true)
    (hcast : (Cond.castable C x.cls).before args s = true) (hcode : (Cond.code y bytes maxL ret).before args s = true) (hx : x.cls ≠ "java/lang/invoke/MethodHandle" ∧ x.cls ≠ "java/lang/invoke/VarHandle")
    {W9 : Nat} {Pre : Pt → Array Value → Prop} {Post : Pt → Array Value → Option Value → Pt → Prop} {PostX : Pt → Array Value → Addr → Pt → Prop} (hK : vx_Back l R p e below s args y 5 W9 Pre Post PostX)
    {b : Addr} {cellB : Cell} {kB : Class} (hcell : T.heap[b]? = some cellB) (hobj : cellB.vm.isStatics = false) (hcls : s.vm.findClass C = some cellB.cls) (hkB : s.vm.classes[cellB.cls]? = some kB)
    {g : JFrame} (hg : g.method = m) (hsize : g.locals.size = c.maxLocals) {argsL rest : List Value} (hlen : ∀ sig, parseMethodDescriptor x.desc = some sig → argsL.length = sig.parameters.length)
    (hstack : g.stack = argsL.reverse ++ .ref b :: rest) (hW : 2 * g.monitorRoom + (rest.map fun v => v.category).sum ≤ W9) (hdg : decode c.code g.pc = .ok (.invokeinterface index count, 5))
    (hpre : ∀ vm₁, s.WarmedH vm₁ → Pre ⟨T.setVm vm₁, locs, cells, slots⟩ (Value.ref b :: argsL).toArray) :
    (∃ (v : Option Value) (vm₁ : Jvm.Vm) (B : Pt), s.WarmedH vm₁ ∧ Stand p l e R s m args below meth c B.U B.locs B.cells B.slots ∧ Post ⟨T.setVm vm₁, locs, cells, slots⟩ (Value.ref b :: argsL).toArray v B ∧
      ∀ target, Steps p.tables e below (B.U.setTop { g with pc := g.pc + 5, stack := v.toList ++ rest }) target → Steps p.tables e below (T.setTop g) target) ∨
    (∃ (q : Addr) (vm₁ : Jvm.Vm) (B : Pt), s.WarmedH vm₁ ∧ Stand p l e R s m args below meth c B.U B.locs B.cells B.slots ∧ PostX ⟨T.setVm vm₁, locs, cells, slots⟩ (Value.ref b :: argsL).toArray q B ∧
      Steps p.tables e below (T.setTop g) ((B.U.setTop { g with stack := rest }).pushFrame (.throwing q))) := by
  obtain ⟨r0, r, hn, hrm, hstR, hsigR⟩ := Cond.declares_spec hdecl
  obtain ⟨cL, kL, r1, hcL, hkL, hiL, hfoundL, hn1⟩ := Cond.interfaceMethod_spec hface
  cases hn.symm.trans hn1
  have hr0cls : r0.cls = cL := Option.some.inj ((findClass_of_methodNamed hn).symm.trans hcL)
  obtain ⟨hnameR, hdescR⟩ := name_of_methodNamed hn hrm
  obtain ⟨mk, methM, hnamed, hmethM, -, habM⟩ := Cond.instanceMethod_spec hinst
  obtain ⟨c2, r2, m2, q1, q2, q3, q4, -⟩ := Cond.selects_spec hsel
  cases hcls.symm.trans q1
  cases hfoundL.symm.trans q2
  cases hnamed.symm.trans q3
  have hselP : selectMethod e.platform s.vm cellB.cls r0 = .method mk := by rw [Launch.admits_selectMethod X.admits]; exact q4
  have hpubM : hasFlag methM.accessFlags Acc.public_ = true := Cond.publicMethod_spec hnamed hmethM hpub
  have hway : ((cellB.cls :: s.vm.superclasses cellB.cls).any fun k => (declaredIn s.vm r.name r.desc k).any fun (_, z) => z.isPrivate || z.isStatic) = false := by
    rw [hnameR, hdescR]; exact Cond.unhidden_spec hcls hunh
  obtain ⟨c3, t3, w1, w2, w3⟩ := Cond.castable_spec hcast
  cases hcls.symm.trans w1
  cases hcL.symm.trans w2
  obtain ⟨vm₁, X₁, hstep₁⟩ := X.invokeinterface hexec hown hlink hn hrm hstR (by rw [hr0cls]; exact hkL) hiL hx (a := b) (cell := cellB) (kcell := kB) hcell
    (fun z h => by rw [h] at hobj; cases hobj) hkB (by rw [hr0cls]; exact w3) hselP hmethM hway hpubM habM (g := g) hg (argsL := argsL) (rest := rest) (hlen _ hsigR) hstack hdg
  rcases hK m meth c ⟨T.setVm vm₁, locs, cells, slots⟩ { g with stack := rest } (.invokeinterface index count) mk (Value.ref b :: argsL).toArray X₁ hg hsize hdg hW (X₁.named hnamed) (hpre vm₁ X₁.warmed) with ⟨v, B, X', hpost, hsteps⟩ | ⟨q, B, X', hpost, hsteps⟩
  · exact Or.inl ⟨v, vm₁, B, X₁.warmed, X', hpost, fun target h => hstep₁ _ fun acts => by rw [doInvoke_state]; exact hsteps.trans h⟩
  · exact Or.inr ⟨q, vm₁, B, X₁.warmed, X', hpost, hstep₁ _ fun acts => by rw [doInvoke_state]; exact hsteps⟩
theorem vx_runF {x y : MethodName} {bytes cc : ByteArray} {maxL nL mc ms n index count : Nat} {ret : Option FieldType} {ws : List Cond} {rm : Room} {Pc : Array Value → State → Prop} {Qc : Array Value → State → Outcome → State → Prop} {XC : String → State → State → Prop} {free : Addr → Prop} {Ts : List Cond} {own C : String} {cC : ClassId} {b : Addr} {As rest : List Value} {g : JFrame}
    (hat : ClassAt s C cC) (S : CallFix p m c cc nL s args Ts own) (hM : vx_Met l y ws rm Pc Qc XC mc ms free) (cw : va_CI R s args own C index x y bytes maxL ret ws rm mc ms n) (hp : PreV s H C b Pc As)
    (hg : g.method = m) (hn : As.length = n) (hsize : g.locals.size = nL) (hstack : g.stack = As.reverse ++ .ref b :: rest) (hW : 2 * g.monitorRoom + (rest.map fun v => v.category).sum ≤ 8) (hdg : decode cc g.pc = .ok (.invokeinterface index count, 5)) (hf : cells + mc ≤ R.cells ∧ slots + ms ≤ R.slots) :
    vx_Run5 p l e R s m args below meth c H locs cells slots mc ms g rest (Qc (Value.ref b :: As).toArray) XC free := by
  obtain ⟨hrc, hrs, hfr, hlo, hws, hcw⟩ := cw.back
  have hini := cw.init
  have hK : vx_Back l R p e below s args y 5 8 (PreOf R mc ms Pc) (PostOf Qc mc ms free) (vx_Post XC mc ms free) := vx_back (bytes := bytes) (maxL := maxL) (ret := ret) hM hp.1 hrc hrs hfr hlo hws hcw (fun a' U hW => word_at hW (Or.inl (by first | rfl | simp [Cond.onTables, Cond.keeps, Cond.steady])) hini)
  obtain ⟨hx, hb, hml, ho, -⟩ := S
  obtain ⟨-, ⟨cellB, hcB, hoB, hclB⟩, hPc⟩ := hp
  obtain ⟨hfc, kB, hkB, -⟩ := hat
  cases hfc.symm.trans hclB
  intro T hT X
  rcases vx_callIF X hx (C := C) (bytes := bytes) (maxL := maxL) (ret := ret) ho cw.link cw.decl cw.face cw.sel cw.inst cw.pub cw.unh cw.cast cw.code cw.notMH hK (by rw [hT]; exact hcB) hoB hclB hkB hg (hsize.trans hml.symm) (argsL := As) (rest := rest) (fun sig h => hn.trans (cw.len sig h)) hstack hW (by rw [hb]; exact hdg)
    (fun vm₁ hW₁ => ⟨hf.1, hf.2, hPc (T.setVm vm₁) hT hW₁⟩) with ⟨v, vm₁, ⟨U', l2, c2, s2⟩, hW₁, X', ⟨g', mk, t, L, e1, e2, hq, h1, hL, h2, h3⟩, st⟩ | ⟨q, vm₁, ⟨U', l2, c2, s2⟩, hW₁, X', ⟨g', mk, t, L, E, ce, e1, e2, hq, hce, hcv, hcl, h1, hL, h2, h3⟩, st⟩
  · dsimp only [Pt.U, Pt.locs, Pt.cells, Pt.slots] at X' e1 e2 h1 h2 h3 st
    subst h1; subst h2; subst h3
    exact Or.inl ⟨v, (T.setVm vm₁).calling g' mk (Value.ref b :: As).toArray, t, U', L, hT, X', hL, e1, e2, hq, st⟩
  · dsimp only [Pt.U, Pt.locs, Pt.cells, Pt.slots] at X' e1 e2 h1 h2 h3 st hcl
    subst h1; subst h2; subst h3
    exact Or.inr ⟨q, (T.setVm vm₁).calling g' mk (Value.ref b :: As).toArray, t, U', L, E, ce, hT, X', hL, e1, e2, hq, hce, hcv, vx_cls hW₁ hcl, st⟩
end
/-! ===== END ===== -/
end
section
/-! arrays copied; methods called by the superclass's name, by an interface, by another name -/
def MI_hasNext : Nat := 145
def MI_next : Nat := 146
def MI_asbLength : Nat := 198
def MI_sbLength : Nat := 161
section SIM
variable {l : Launch} {K J : Nat → Nat} {mi pc n : Nat} {L : VL} {st : List Value} {sh : HS} {I : HI} {R : HR} {c : Nat × Nat} {F : VF} {ins : Instr}
theorem fits_cell {D : va_G} {s : State} {A : Nat → Prop} {H : Heap} {a t m : Nat} (hP : RP D s A sh I R H) (h : sh a = some (t, m)) (ht : t = 21 ∨ t = 23) (hf : ∀ j, j < m → fits .byte (.int (I a j)) = true) : ∀ j, j < m → fits .byte (.int (I a j)) = true := hf
/-- System.arraycopy over bytes -/
theorem sim_cpyB {ix a b x y n0 n1 t0 : Nat} {sp dp z : Int32} (hd : decode (mB mi) pc = .ok (.invokestatic ix, 3)) (hf : lk2 kL (mC mi) ix = some (1003, x, y)) (hg : VmG mi c st)
    (ha : sh a = some (t0, n0)) (ht : t0 = 21 ∨ t0 = 23) (hb0 : sh b = some (21, n1)) (h1 : ¬ sp < 0) (h2 : ¬ dp < 0) (h3 : ¬ z < 0) (h4 : sp.toNatClampNeg + z.toNatClampNeg ≤ n0) (h5 : dp.toNatClampNeg + z.toNatClampNeg ≤ n1) (hfit : ∀ j, j < z.toNatClampNeg → fits .byte (.int (I a (sp.toNatClampNeg + j))) = true)
    (hk : MW l K J mi (pc + 3) L st sh (cp2 I a sp.toNatClampNeg b dp.toNatClampNeg z.toNatClampNeg) R c F) : MW l K J mi pc L (.int z :: .int dp :: .ref b :: .int sp :: .ref a :: st) sh I R c F := by
  intro D p e s m args below meth cd A H locs ls C hP hl hS
  have kk := fun H1 locs1 => hk D p e s m args below meth cd A H1 locs1 ls C
  obtain ⟨hx, hb, hml, hr, hown, hts, hlk, hin, hex, hK, hB, hA, htr, hmi⟩ := C
  obtain ⟨g1, g2, g3, g4, g5⟩ := hg
  unfold catS at g1
  obtain ⟨scr, u1, u2, u3, u4, u5, u6⟩ := ba_cell hP ha ht
  obtain ⟨hbA, hbz, hbc⟩ := hP b 21 n1 hb0
  have hbA := hbA (by omega)
  obtain ⟨cB, v1, v2, v3, v4⟩ := hbc.2.2.2.1 rfl
  obtain ⟨hs6, k0, hk0, cm0, hkk0⟩ := u2
  obtain ⟨-, k1, hk1, cm1, hkk1⟩ := v2 n1 (fun j => .int (I b j))
  intro T hT X
  obtain ⟨vm', X', step⟩ := X.arraycopy hx hown (hts _ (kl_sp hf (by decide))) (hts _ m_cpy.1) (hts _ m_cpy.2.1) (hts _ m_cpy.2.2) (src := a) (dst := b) (cs := scr) (cd := arrV cB n1 (fun j => .int (I b j))) (srcPos := sp) (destPos := dp) (n := z) (by rw [hT]; exact u1) (by rw [hT]; exact v1)
    hs6 (fun _ h => by cases h) u3 (fun h => by cases h) hk0 hk1 hkk0 hkk1 (by simp [refKind]) h1 h2 h3
    (by rw [nn_of h1, nn_of h3]; omega)
    (by rw [nn_of h2, nn_of h3, arrV_size]; omega)
    (fun vm₁ _ i hi => by
      have e9 : scr.slots.getD (sp.toNatClampNeg + i) .null = .int (I a (sp.toNatClampNeg + i)) := by
        rw [Array.getD_eq_getD_getElem?, u6 _ (by omega)]
        rfl
      exact ⟨by rw [e9]; exact hfit i hi, by rw [e9]; exact trivial⟩)
    (g := F0 m pc ls (.int z :: .int dp :: .ref b :: .int sp :: .ref a :: st)) rfl (by rw [hml]; exact hl.1) (rest := st) rfl (by rw [hb]; exact hd) g2 (by
      show 2 * 0 + _ + _ ≤ mLo mi
      rw [show nativeFrameWords "java/lang/System" "arraycopy" 5 = 7 by decide +kernel]
      omega)
  have e1 : copied scr (arrV cB n1 (fun j => .int (I b j))) sp dp z = arrV cB n1 (fun j => .int (va_cpy (I a) (I b) sp.toNatClampNeg dp.toNatClampNeg z.toNatClampNeg j)) := va_copiedX (fun w => .int w) scr cB (I a) (I b) u6 h4
  rw [e1] at X' step
  have oq : ∀ q : Nat, q ≠ b → (H.setIfInBounds b (arrV cB n1 (fun j => .int (va_cpy (I a) (I b) sp.toNatClampNeg dp.toNatClampNeg z.toNatClampNeg j))))[q]? = H[q]? := fun q hq => by simp [Array.getElem?_setIfInBounds, Ne.symm hq]
  have hcp : ∀ j, cp2 I a sp.toNatClampNeg b dp.toNatClampNeg z.toNatClampNeg b j = va_cpy (I a) (I b) sp.toNatClampNeg dp.toNatClampNeg z.toNatClampNeg j := fun j => by simp [cp2, va_cpy]
  have hsz : (H.setIfInBounds b (arrV cB n1 (fun j => .int (va_cpy (I a) (I b) sp.toNatClampNeg dp.toNatClampNeg z.toNatClampNeg j)))).size = H.size := by simp
  obtain ⟨t, a1, b1⟩ := kk _ _ (hP.put (I' := cp2 I a sp.toNatClampNeg b dp.toNatClampNeg z.toNatClampNeg) hb0 hsz oq (fun d j hd0 => by simp [cp2, hd0]) (fun _ _ _ => rfl) ⟨fun w => by omega, fun w => by omega, fun u w => by omega, fun _ => ⟨cB, by
      rw [Array.getElem?_setIfInBounds_self_of_lt hbz]
      simp only [hcp], v2, v3, fun j hj => by
      rw [hcp]
      unfold va_cpy
      split
      · rename_i hh
        have := hfit (j - dp.toNatClampNeg) (by omega)
        exact this
      · exact v4 j hj⟩, fun w => by omega⟩) hl ⟨by rw [hsz]; exact hS.1, fun q q1 q2 => by
      rw [oq q (fun e9 => q2 (by rw [e9]; exact hbA))]
      exact hS.2.1 q q1 q2, fun q hq => by
      rcases List.mem_append.mp hq with h | h
      · exact hS.2.2 q h
      · obtain ⟨w, -, hw⟩ := List.mem_map.mp h
        rw [← hw]
        exact hbA⟩ _ (by rw [← hT]; rfl) X'
  exact ⟨t, step t a1, b1⟩
def cpR (f : HR) (src sp dst dp n : Nat) : HR := fun b j => if b = dst ∧ dp ≤ j ∧ j < dp + n then f src (sp + (j - dp)) else f b j
/-- System.arraycopy over Object[] -/
theorem sim_cpyR {ix a b x y n0 n1 : Nat} {sp dp z : Int32} (hd : decode (mB mi) pc = .ok (.invokestatic ix, 3)) (hf : lk2 kL (mC mi) ix = some (1003, x, y)) (hg : VmG mi c st)
    (ha : sh a = some (46, n0)) (hb0 : sh b = some (46, n1)) (h1 : ¬ sp < 0) (h2 : ¬ dp < 0) (h3 : ¬ z < 0) (h4 : sp.toNatClampNeg + z.toNatClampNeg ≤ n0) (h5 : dp.toNatClampNeg + z.toNatClampNeg ≤ n1) (hel : ∀ j, j < z.toNatClampNeg → ∀ y, R a (sp.toNatClampNeg + j) = some y → okE sh y)
    (hk : MW l K J mi (pc + 3) L st sh I (cpR R a sp.toNatClampNeg b dp.toNatClampNeg z.toNatClampNeg) c F) : MW l K J mi pc L (.int z :: .int dp :: .ref b :: .int sp :: .ref a :: st) sh I R c F := by
  intro D p e s m args below meth cd A H locs ls C hP hl hS
  have kk := fun H1 locs1 => hk D p e s m args below meth cd A H1 locs1 ls C
  obtain ⟨hx, hb, hml, hr, hown, hts, hlk, hin, hex, hK, hB, hA, htr, hmi⟩ := C
  obtain ⟨g1, g2, g3, g4, g5⟩ := hg
  unfold catS at g1
  obtain ⟨cA, u1, u2, u3⟩ := (hP a 46 n0 ha).2.2.2.2.1 16 rfl
  obtain ⟨hbA, hbz, hbc⟩ := hP b 46 n1 hb0
  have hbA := hbA (by omega)
  obtain ⟨cB, v1, v2, v3⟩ := hbc.2.2.1 16 rfl
  obtain ⟨-, k0, hk0, cm0, hkk0⟩ := u2 n0 (fun j => va_rf (R a j))
  obtain ⟨-, k1, hk1, cm1, hkk1⟩ := v2 n1 (fun j => va_rf (R b j))
  have v9 := v3
  obtain ⟨kA, comp, r1, r2, r3, -⟩ := v3
  intro T hT X
  obtain ⟨vm', X', step⟩ := X.arraycopy hx hown (hts _ (kl_sp hf (by decide))) (hts _ m_cpy.1) (hts _ m_cpy.2.1) (hts _ m_cpy.2.2) (src := a) (dst := b) (cs := arrV cA n0 (fun j => va_rf (R a j))) (cd := arrV cB n1 (fun j => va_rf (R b j))) (srcPos := sp) (destPos := dp) (n := z) (by rw [hT]; exact u1) (by rw [hT]; exact v1)
    (fun _ h => by cases h) (fun _ h => by cases h) (fun h => by cases h) (fun h => by cases h) hk0 hk1 hkk0 hkk1 rfl h1 h2 h3
    (by rw [nn_of h1, nn_of h3, arrV_size]; omega)
    (by rw [nn_of h2, nn_of h3, arrV_size]; omega)
    (fun vm₁ hal i hi => by
      have e9 : (arrV cA n0 (fun j => va_rf (R a j))).slots.getD (sp.toNatClampNeg + i) .null = va_rf (R a (sp.toNatClampNeg + i)) := by
        rw [Array.getD_eq_getD_getElem?, arrV_read _ _ (by omega)]
        rfl
      rw [e9]
      cases hy : R a (sp.toNatClampNeg + i) with
      | none => exact ⟨rfl, trivial⟩
      | some y =>
        obtain ⟨cellV, q1, q2, ⟨kC, hkC⟩, q3⟩ := any_of hK hB hP (hel i hi y hy)
        cases hk1.symm.trans r1
        cases hkk1.symm.trans r2
        obtain ⟨kE, hkE, -⟩ := Vm.findClass_spec r3
        obtain ⟨kC', hkC', -⟩ := hal.2.2 _ _ hkC
        obtain ⟨kE', hkE', -⟩ := hal.2.2 _ _ hkE
        refine ⟨rfl, cellV, (show T.heap[y]? = some cellV by rw [hT]; exact q1), (fun q h => by rw [h] at q2; cases q2), ⟨kC', hkC'⟩, ⟨kE', hkE'⟩, ?_⟩
        show vm₁.assignable _ _ = true
        rw [hal.assignable]
        exact q3 _ r3)
    (g := F0 m pc ls (.int z :: .int dp :: .ref b :: .int sp :: .ref a :: st)) rfl (by rw [hml]; exact hl.1) (rest := st) rfl (by rw [hb]; exact hd) g2 (by
      show 2 * 0 + _ + _ ≤ mLo mi
      rw [show nativeFrameWords "java/lang/System" "arraycopy" 5 = 7 by decide +kernel]
      omega)
  have e1 : copied (arrV cA n0 (fun j => va_rf (R a j))) (arrV cB n1 (fun j => va_rf (R b j))) sp dp z = arrV cB n1 (fun j => va_rf (va_cpy (R a) (R b) sp.toNatClampNeg dp.toNatClampNeg z.toNatClampNeg j)) := va_copied va_rf cA cB (R a) (R b) h4
  rw [e1] at X' step
  have oq : ∀ q : Nat, q ≠ b → (H.setIfInBounds b (arrV cB n1 (fun j => va_rf (va_cpy (R a) (R b) sp.toNatClampNeg dp.toNatClampNeg z.toNatClampNeg j))))[q]? = H[q]? := fun q hq => by simp [Array.getElem?_setIfInBounds, Ne.symm hq]
  have hcp : ∀ j, cpR R a sp.toNatClampNeg b dp.toNatClampNeg z.toNatClampNeg b j = va_cpy (R a) (R b) sp.toNatClampNeg dp.toNatClampNeg z.toNatClampNeg j := fun j => by simp [cpR, va_cpy]
  have hsz : (H.setIfInBounds b (arrV cB n1 (fun j => va_rf (va_cpy (R a) (R b) sp.toNatClampNeg dp.toNatClampNeg z.toNatClampNeg j)))).size = H.size := by simp
  obtain ⟨t, a1, b1⟩ := kk _ _ (hP.put (R' := cpR R a sp.toNatClampNeg b dp.toNatClampNeg z.toNatClampNeg) hb0 hsz oq (fun _ _ _ => rfl) (fun d j hd0 => by simp [cpR, hd0]) ⟨fun w => by omega, fun w => by omega, fun u w => ⟨cB, by
      rw [Array.getElem?_setIfInBounds_self_of_lt hbz]
      simp only [hcp], by rw [show u = 16 by omega]; exact v2, by rw [show u = 16 by omega]; exact v9⟩, fun w => by omega, fun w => by omega⟩) hl ⟨by rw [hsz]; exact hS.1, fun q q1 q2 => by
      rw [oq q (fun e9 => q2 (by rw [e9]; exact hbA))]
      exact hS.2.1 q q1 q2, fun q hq => by
      rcases List.mem_append.mp hq with h | h
      · exact hS.2.2 q h
      · obtain ⟨w, -, hw⟩ := List.mem_map.mp h
        rw [← hw]
        exact hbA⟩ _ (by rw [← hT]; rfl) X'
  exact ⟨t, step t a1, b1⟩
/-- getClass() of an Object[] -/
theorem m_gcl : Cond.selects "[Ljava/lang/Object;" ⟨"java/lang/Object", "getClass", "()Ljava/lang/Class;"⟩ ⟨"java/lang/Object", "getClass", "()Ljava/lang/Class;"⟩ ∈ wAll ∧ Cond.instanceMethod ⟨"java/lang/Object", "getClass", "()Ljava/lang/Class;"⟩ ∈ wAll ∧ Cond.native ⟨"java/lang/Object", "getClass", "()Ljava/lang/Class;"⟩ ∈ wAll := ⟨mem_of_contains (by decide +kernel) rfl, mem_of_contains (by decide +kernel) rfl, mem_of_contains (by decide +kernel) rfl⟩
theorem sim_gcl {ix a x y n0 : Nat} (hd : decode (mB mi) pc = .ok (.invokevirtual ix, 3)) (hf : lk2 kL (mC mi) ix = some (1006, x, y)) (hg : VmG mi c st) (ha : sh a = some (46, n0)) (hk : MW l K J mi (pc + 3) L (.ref (J nS) :: st) sh I R c F) : MW l K J mi pc L (.ref a :: st) sh I R c F := by
  intro D p e s m args below meth cd A H locs ls C hP hl hS
  have kk := hk D p e s m args below meth cd A H locs ls C hP hl hS
  obtain ⟨hx, hb, hml, hr, hown, hts, hlk, hin, hex, hK, hB, hA, htr, hmi⟩ := C
  obtain ⟨g1, g2, g3, g4, g5⟩ := hg
  unfold catS at g1
  obtain ⟨cA, u1, u2, kA, comp, u3, u4, u5, u6⟩ := (hP a 46 n0 ha).2.2.2.2.1 16 rfl
  exact va_getC hx hb (by rw [hml, hl.1]) hown (hts _ (kl_sp hf (by decide))) (va_Dc.use hB.2.2.2.2.2.2.2.2.2.2.2.2.2.1) (hts _ m_gcl.1) (hts _ m_gcl.2.1) (hts _ m_gcl.2.2) hB.2.2.2.2.2.2.2.2.2.2.2.2.1 ⟨_, u1, rfl, u6⟩ g2 (by show _ ≤ mLo mi; omega) hd kk
/-- what every call of a method of the tables rests on -/
theorem call_ctx {q : Nat} {D : va_G} {p : Program} {s : State} {m : MethodId} {args : Array Value} {meth : Method} {cd : Code} {A : Nat → Prop} {H : Heap} {locs : List Loc} {As : List Value} {G : VF} (C : CX l K J D mi p s m args meth cd A) (hP : RP D s A sh I R H) (hS : va_S A s.heap H locs) (hq : q < mT.length)
    (h8 : (entA As).length ≤ mL q) (hc : As.all (fun v => v.category == 1) = true) (hV : MW l K J q 0 (ent (mL q) As) [] sh I R (0, 0) G) :
    ∃ A' : Nat → Prop, (∀ x, A' x → A x) ∧ vx_Met l (mY q) (wsM q) (mRm q) (va_Pc As (PcM K J D A' H.size sh I R)) (QF D A' G) (XF D A' G) (mCe q) (mSl q) A' ∧ (∀ U : State, U.heap = H → s.WarmedH U.vm → va_Pc As (PcM K J D A' H.size sh I R) As.toArray U) ∧ (∀ w ∈ wsM q, ∀ (a' : Array Value) (U : State), s.WarmedH U.vm → w.before a' U = true) := by
  obtain ⟨hx, hb, hml, hr, hown, hts, hlk, hin, hex, hK, hB, hA, htr, hmi⟩ := C
  obtain ⟨f1, f2⟩ := mt_f hq
  obtain ⟨A', hA'⟩ : ∃ A' : Nat → Prop, A' = fun x => (∃ y, sh x = some y ∧ (y.1 < 22 ∨ 30 ≤ y.1)) ∨ H.size ≤ x := ⟨_, rfl⟩
  have hsub : ∀ x, A' x → A x := by
    intro x hx0
    rw [hA'] at hx0
    rcases hx0 with ⟨y, hy, hw⟩ | h
    · exact (hP x y.1 y.2 hy).1 hw
    · exact hA x (Nat.le_trans hS.1 h)
  refine ⟨A', hsub, met_of hq htr h8 (Or.inl hc) (fun x hx0 => by rw [hA']; exact Or.inr hx0) hV, ?_, ?_⟩
  · intro U hU hW
    refine ⟨rfl, by rw [hU], va_K.moved hW.alike hK, ?_, ?_⟩
    · rw [hU]; exact WB.warm hW (WB.at hB hS.2.1 hsub)
    · rw [hU]
      refine RP.moved hW.alike (fun x t n' hx0 => ?_)
      obtain ⟨r1, r2, r3⟩ := hP x t n' hx0
      exact ⟨fun z => by rw [hA']; exact Or.inl ⟨_, hx0, z⟩, r2, r3⟩
  · refine pay_in hts (fun w hw => ?_)
    rcases List.mem_cons.mp hw with rfl | hw
    · exact wAll_self _ f1
    · exact wAll_self w hw
theorem run_go5 {p : Program} {e : Env} {s : State} {m : MethodId} {args : Array Value} {below : List Frame} {meth : Method} {cd : Code} {A A' : Nat → Prop} {H : Heap} {locs : List Loc} {ls : Array Slot} {D : va_G} {G : VF} {q : Nat} {a : Array Value} {rest : List Value}
    (C : CX l K J D mi p s m args meth cd A) (hl : lok mi ls L) (hS : va_S A s.heap H locs) (hA' : ∀ x, A' x → A x) (hc : c.1 + mCe q ≤ mCe mi ∧ c.2 + mSl q ≤ mSl mi)
    (hr : vx_Run5 p l e (mRm mi) s m args below meth cd H locs c.1 c.2 (mCe q) (mSl q) (F0 m pc ls st) rest (QF D A' G a) (XF D A' G) A')
    (k1 : ∀ sh' I' R', G (.inl none) sh' I' R' → MW l K J mi (pc + 5) L rest sh' I' R' (c.1 + mCe q, c.2 + mSl q) F) (k2 : ∀ v sh' I' R', G (.inl (some v)) sh' I' R' → MW l K J mi (pc + 5) L (v :: rest) sh' I' R' (c.1 + mCe q, c.2 + mSl q) F)
    (k3 : ∀ E sh' I' R', G (.inr E) sh' I' R' → F (.inr E) sh' I' R') :
    W p l e (mRm mi) s m args below meth cd H locs c.1 c.2 (vx_MQ below (QF D A F) (XF D A F) args s (mCe mi) (mSl mi) A) (F0 m pc ls st) := by
  intro T hT X
  have RPn : ∀ {t T' : State} {sh' : HS} {I' : HI} {R' : HR}, T'.heap = t.heap → T'.vm = t.vm → s.WarmedH T'.vm → RP D t A' sh' I' R' t.heap → RP D s A sh' I' R' T'.heap := by
    intro t T' sh' I' R' e1 e2 hw h
    have hv : t.vm.Alike s.vm := by rw [← e2]; exact hw.alike.symm
    rw [e1]
    intro b t' n' hb
    obtain ⟨r1, r2, r3⟩ := h b t' n' hb
    exact ⟨fun z => hA' _ (r1 z), r2, rc_moved hv r3⟩
  rcases hr T hT X with ⟨v, st₀, t, T', L', h0, X', hL, e1, e2, ⟨v', sh', I', R', hv, hG, hRP, hF⟩, go⟩ | ⟨x, st₀, t, T', L', E, ce, h0, X', hL, e1, e2, ⟨sh', I', R', hG, hRP, hF⟩, hce, hcv, hcl, go⟩
  · cases hv
    obtain ⟨-, -, g3⟩ := vx_keep h0 e1 hS (fun z _ => hA' z) hA' hL hF
    have hR2 := RPn e1 e2 X'.warmed hRP
    cases v with
    | none =>
      obtain ⟨t2, a1, b1⟩ := k1 _ _ _ hG D p e s m args below meth cd A T'.heap (locs ++ L') ls C hR2 hl g3 T' rfl X'
      exact ⟨t2, go t2 a1, b1⟩
    | some v =>
      obtain ⟨t2, a1, b1⟩ := k2 _ _ _ _ hG D p e s m args below meth cd A T'.heap (locs ++ L') ls C hR2 hl g3 T' rfl X'
      exact ⟨t2, go t2 a1, b1⟩
  · obtain ⟨-, -, g3⟩ := vx_keep h0 e1 hS (fun z _ => hA' z) hA' hL hF
    have hR2 := RPn e1 e2 X'.warmed hRP
    obtain ⟨hx, hb, hml, hr, hown, hts, hlk, hin, hex, hK, hB, hA, htr, hmi⟩ := C
    have kx : vx_W p l e (mRm mi) s m args below meth cd T'.heap (locs ++ L') (c.1 + mCe q) (c.2 + mSl q) (vx_MQ below (QF D A F) (XF D A F) args s (mCe mi) (mSl mi) A) (F0 m pc ls rest) x := by
      refine vx_out (E := E) (ce := ce) (fun y hy => (hex y hy).elim) hlk (by rw [e1]; exact hce) hcv hcl ?_ g3.2.2 hc.1 hc.2
      intro t2 ht2 hw2
      refine ⟨sh', I', R', k3 _ _ _ _ hG, ?_, g3.F ht2⟩
      rw [ht2]
      exact RP.moved hw2 hR2
    obtain ⟨t2, a1, b1⟩ := kx T' rfl X'
    exact ⟨t2, go.trans a1, b1⟩

/-- the receiver's cell, of an object made in the run -/
theorem rcv_cell {D : va_G} {s : State} {A : Nat → Prop} {H : Heap} {b t m : Nat} (hK : va_K D vwCl [] s) (hP : RP D s A sh I R H) (h : sh b = some (t, m)) (ht : t < 15) : ∃ cellB : Cell, H[b]? = some cellB ∧ cellB.vm.isStatics = false ∧ s.vm.findClass (cN t) = some cellB.cls := by
  obtain ⟨r, hr0, cell, g1, g2, g3, -⟩ := (hP b t m h).2.2.1 ht
  exact ⟨cell, g1, by rw [g3]; rfl, by rw [g2, cN_cls hr0]; exact (hK.1 _ r hr0).2.1⟩
theorem par_len {q n' : Nat} (hq : q < mT.length) (h0 : ¬ mK q = 0) (hn : n' + 1 = mN q) : ∀ sig, parseMethodDescriptor (mY q).desc = some sig → n' = sig.parameters.length := by
  obtain ⟨-, -, -, -, -, -, -, -, f9, -⟩ := mt_f hq
  intro sig hsig
  rw [hsig] at f9
  have f9' := Option.some.inj f9
  rw [if_neg h0] at f9'
  have : sig.parameters.length = mN q - 1 := f9'
  omega
/-- super.m(..) on a StringBuilder -/
theorem sim_callSU {ix q pos b m0 : Nat} {as rest : List Value} {G : VF} (hd : decode (mB mi) pc = .ok (.invokespecial ix, 3)) (hf : lk2 kL (mC mi) ix = some (q, 0, pos)) (hq : q < mT.length) (hq2 : q < 1000) (hk3 : mK q = 3) (hcc : mC mi = 13) (hsw : Cond.sameMethod (mY q).cls (mY q).cls (mY q).name (mY q).desc ∈ wAll ∧ Cond.superclass (cN 13) (mY q).cls ∈ wAll) (hnm : (mY q).name ≠ "<init>")
    (hn : as.length + 1 = mN q) (hr : catS rest ≤ 8) (he : (entA (as ++ [Value.ref b]).reverse).length ≤ mL q) (hl1 : (as ++ [Value.ref b]).all (fun v => v.category == 1) = true) (hb0 : sh b = some (13, m0)) (hfr : mFr q + 1 ≤ mFr mi ∧ 8 + (mL q + 11) + mLo q ≤ mLo mi) (hcs : c.1 + mCe q ≤ mCe mi ∧ c.2 + mSl q ≤ mSl mi)
    (hV : MW l K J q 0 (ent (mL q) (as ++ [Value.ref b]).reverse) [] sh I R (0, 0) G)
    (k1 : ∀ sh' I' R', G (.inl none) sh' I' R' → MW l K J mi (pc + 3) L rest sh' I' R' (c.1 + mCe q, c.2 + mSl q) F) (k2 : ∀ v sh' I' R', G (.inl (some v)) sh' I' R' → MW l K J mi (pc + 3) L (v :: rest) sh' I' R' (c.1 + mCe q, c.2 + mSl q) F) (k3 : ∀ E sh' I' R', G (.inr E) sh' I' R' → F (.inr E) sh' I' R') :
    MW l K J mi pc L (as ++ Value.ref b :: rest) sh I R c F := by
  intro D p e s m args below meth cd A H locs ls C hP hl hS
  have C' := C
  have e0 : (as ++ [Value.ref b]).reverse = .ref b :: as.reverse := by rw [List.reverse_append]; rfl
  obtain ⟨A', hsub, hM, hPc, hgood⟩ := call_ctx (As := (as ++ [Value.ref b]).reverse) C hP hS hq he (by rw [List.all_reverse]; exact hl1) hV
  obtain ⟨hx, hb, hml, hrr, hown, hts, hlk, hin, hex, hK, hB, hA, htr, hmi⟩ := C
  obtain ⟨f1, f2, f3, f4, f5, f6, f7, f8, f9, f10, f11, f12, f13⟩ := mt_f hq
  obtain ⟨-, hlink⟩ := kl_own hf hq2
  have hlink : Cond.methodLink (cN (mC mi)) ix (mY q) ∈ wAll := by
    rcases hlink with h | h
    · exact h.2
    · exact absurd h.1 (by decide)
  have h0 : ¬ mK q = 0 := by omega
  rw [e0] at hM hPc
  have S : CallFix p m cd (mB mi) (mL mi) s args wAll (cN (mC mi)) := ⟨hx, hb, hml, hown, hts⟩
  have hcell := rcv_cell hK hP hb0 (by decide)
  obtain ⟨r13, hr13, -⟩ := (hP b 13 m0 hb0).2.2.1 (by decide)
  have hat : ClassAt s (cN 13) (D.1 13) := by rw [cN_cls hr13]; exact (hK.1 13 r13 hr13).2
  refine run_go (a := (Value.ref b :: as.reverse).toArray) C' hl hS hsub hcs ?_ k1 k2 k3
  exact vx_runSU (C := cN 13) (cC := D.1 13) (b := b) (As := as.reverse) (n := as.reverse.length) (rest := rest) (bytes := mB q) (maxL := mL q) (ret := mRt q) (ws := wsM q) hat S hM
    ⟨⟨rfl, rfl, hfr.1, hfr.2, hgood, List.mem_cons_self⟩, hts _ hlink, hts _ hsw.1, (by first | (rw [hcc]; exact hts _ hsw.2) | (simp only [hcc]; exact hts _ hsw.2)), hts _ (f3 h0), hts _ f5, hts _ f1, hnm, par_len hq h0 (by first | exact (congrArg (· + 1) List.length_reverse).trans hn | (simp only [List.length_reverse]; exact hn) | simpa using hn)⟩ ⟨PcM_blind, hcell, hPc⟩ rfl rfl hl.1 (by rw [List.reverse_reverse]) (lv_room hr) hd hcs
/-- a method called through the interface Iterator -/
theorem sim_callF {ix cnt q pos pos2 b m0 : Nat} {rest : List Value} {G : VF} (hd : decode (mB mi) pc = .ok (.invokeinterface ix cnt, 5)) (hf : lk2 kI (mC mi) ix = some (q, pos, pos2)) (hq : q < mT.length) (hk4 : mK q = 4) (hn : mN q = 1) (hr : catS rest ≤ 8) (he : 1 ≤ mL q) (hb0 : sh b = some (11, m0)) (hfr : mFr q + 1 ≤ mFr mi ∧ 8 + (mL q + 11) + mLo q ≤ mLo mi) (hcs : c.1 + mCe q ≤ mCe mi ∧ c.2 + mSl q ≤ mSl mi)
    (hV : MW l K J q 0 (ent (mL q) [.ref b]) [] sh I R (0, 0) G)
    (k1 : ∀ sh' I' R', G (.inl none) sh' I' R' → MW l K J mi (pc + 5) L rest sh' I' R' (c.1 + mCe q, c.2 + mSl q) F) (k2 : ∀ v sh' I' R', G (.inl (some v)) sh' I' R' → MW l K J mi (pc + 5) L (v :: rest) sh' I' R' (c.1 + mCe q, c.2 + mSl q) F) (k3 : ∀ E sh' I' R', G (.inr E) sh' I' R' → F (.inr E) sh' I' R') :
    MW l K J mi pc L (.ref b :: rest) sh I R c F := by
  intro D p e s m args below meth cd A H locs ls C hP hl hS
  have C' := C
  obtain ⟨A', hsub, hM, hPc, hgood⟩ := call_ctx (As := [Value.ref b]) C hP hS hq he rfl hV
  obtain ⟨hx, hb, hml, hrr, hown, hts, hlk, hin, hex, hK, hB, hA, htr, hmi⟩ := C
  obtain ⟨f1, f2, f3, f4, f5, f6, f7, f8, f9, f10, f11, f12, f13⟩ := mt_f hq
  obtain ⟨h1, h2, h3⟩ := lk2m hf
  have h4 : kI.all (fun q => decide (lw_tb2[q.2.2.1]? = some (.methodLink (cN (q.1 / 10000)) (q.1 % 10000) (if q.2.1 = MI_hasNext then itX else itY))) && (decide (q.2.1 = MI_hasNext ∨ q.2.1 = MI_next))) = true := by decide +kernel
  have h5 := List.all_eq_true.mp h4 _ h1
  simp only [h2, h3, Bool.and_eq_true, decide_eq_true_eq] at h5
  have h0 : ¬ mK q = 0 := by omega
  have S : CallFix p m cd (mB mi) (mL mi) s args wAll (cN (mC mi)) := ⟨hx, hb, hml, hown, hts⟩
  have hcell := rcv_cell hK hP hb0 (by decide)
  obtain ⟨r13, hr13, -⟩ := (hP b 11 m0 hb0).2.2.1 (by decide)
  have hat : ClassAt s (cN 11) (D.1 11) := by rw [cN_cls hr13]; exact (hK.1 11 r13 hr13).2
  have W2 := hB.2.2.2.2.2.2.2.2.2
  refine run_go5 (a := (Value.ref b :: []).toArray) C' hl hS hsub hcs ?_ k1 k2 k3
  have fin : ∀ (x y : MethodName), va_Fw "java/util/ArrayList$Itr" x y s → mY q = y → (x.cls ≠ "java/lang/invoke/MethodHandle" ∧ x.cls ≠ "java/lang/invoke/VarHandle") → Cond.methodLink (cN (mC mi)) ix x ∈ wAll → Cond.selects (cN 11) x y ∈ wAll → (∀ sig, parseMethodDescriptor x.desc = some sig → 0 = sig.parameters.length) → vx_Run5 p l e (mRm mi) s m args below meth cd H locs c.1 c.2 (mCe q) (mSl q) (F0 m pc ls (.ref b :: rest)) rest (QF D A' G (Value.ref b :: []).toArray) (XF D A' G) A' := by
    intro x y hw hy hxc hlk1 hsel hpar
    obtain ⟨w1, w2, w3, w4, w5⟩ := hw
    subst hy
    exact vx_runF (C := cN 11) (cC := D.1 11) (b := b) (As := []) (n := 0) (rest := rest) (x := x) (bytes := mB q) (maxL := mL q) (ret := mRt q) (ws := wsM q) (count := cnt) hat S hM
      ⟨⟨rfl, rfl, hfr.1, hfr.2, hgood, List.mem_cons_self⟩, hts _ hlk1, va_any rfl w1, va_any rfl w2, hts _ hsel, hts _ (f3 h0), va_any rfl w3, va_any rfl w4, va_any rfl w5, hts _ f5, hts _ f1, hxc, hpar⟩ ⟨PcM_blind, hcell, hPc⟩ rfl rfl hl.1 rfl (lv_room hr) hd hcs
  rcases h5.2 with e | e
  · refine fin itX yJx35411_hasNext_aae02 W2.2.2.2.2.2.2.2.1 (by rw [e]; rfl) ⟨by decide, by decide⟩ ?_ (mem_of_contains (by decide +kernel) rfl) (fun sig hs => ?_)
    · have := h5.1
      rw [if_pos e] at this
      exact wAll_at this rfl
    · have e9 : (parseMethodDescriptor itX.desc).map (fun d => d.parameters.length) = some 0 := by decide +kernel
      rw [hs] at e9
      exact (Option.some.inj e9).symm
  · refine fin itY yJx35411_next_0502b W2.2.2.2.2.2.2.2.2 (by rw [e]; rfl) ⟨by decide, by decide⟩ ?_ (mem_of_contains (by decide +kernel) rfl) (fun sig hs => ?_)
    · have := h5.1
      rw [if_neg (by rw [e]; decide)] at this
      exact wAll_at this rfl
    · have e9 : (parseMethodDescriptor itY.desc).map (fun d => d.parameters.length) = some 0 := by decide +kernel
      rw [hs] at e9
      exact (Option.some.inj e9).symm
/-- StringBuilder.length() called by its superclass's name -/
theorem sim_callLn {ix b m0 pos q9 : Nat} {rest : List Value} {G : VF} (hd : decode (mB mi) pc = .ok (.invokevirtual ix, 3)) (hf : lk2 kL (mC mi) ix = some (q9, 0, pos)) (hq9 : q9 = MI_asbLength) (hr : catS rest ≤ 8) (hb0 : sh b = some (13, m0)) (hfr : mFr MI_sbLength + 1 ≤ mFr mi ∧ 8 + (mL MI_sbLength + 11) + mLo MI_sbLength ≤ mLo mi) (hcs : c.1 + mCe MI_sbLength ≤ mCe mi ∧ c.2 + mSl MI_sbLength ≤ mSl mi)
    (hV : MW l K J MI_sbLength 0 (ent (mL MI_sbLength) [.ref b]) [] sh I R (0, 0) G)
    (k1 : ∀ sh' I' R', G (.inl none) sh' I' R' → MW l K J mi (pc + 3) L rest sh' I' R' (c.1 + mCe MI_sbLength, c.2 + mSl MI_sbLength) F) (k2 : ∀ v sh' I' R', G (.inl (some v)) sh' I' R' → MW l K J mi (pc + 3) L (v :: rest) sh' I' R' (c.1 + mCe MI_sbLength, c.2 + mSl MI_sbLength) F) (k3 : ∀ E sh' I' R', G (.inr E) sh' I' R' → F (.inr E) sh' I' R') :
    MW l K J mi pc L (.ref b :: rest) sh I R c F := by
  intro D p e s m args below meth cd A H locs ls C hP hl hS
  have C' := C
  have hq : MI_sbLength < mT.length := by decide +kernel
  have he : (entA [Value.ref b]).length ≤ mL MI_sbLength := by
    show 1 ≤ mL MI_sbLength
    decide +kernel
  obtain ⟨A', hsub, hM, hPc, hgood⟩ := call_ctx (As := [Value.ref b]) C hP hS hq he rfl hV
  obtain ⟨hx, hb, hml, hrr, hown, hts, hlk, hin, hex, hK, hB, hA, htr, hmi⟩ := C
  obtain ⟨f1, f2, f3, f4, f5, f6, f7, f8, f9, f10, f11, f12, f13⟩ := mt_f hq
  have hq1 : q9 < 1000 := by rw [hq9]; decide
  obtain ⟨-, hlink⟩ := kl_own hf hq1
  have hlink : Cond.methodLink (cN (mC mi)) ix (mY MI_asbLength) ∈ wAll := by
    rw [← hq9]
    rcases hlink with h | h
    · exact h.2
    · exact absurd h.1 (by decide)
  have h0 : ¬ mK MI_sbLength = 0 := by decide +kernel
  have S : CallFix p m cd (mB mi) (mL mi) s args wAll (cN (mC mi)) := ⟨hx, hb, hml, hown, hts⟩
  have hcell := rcv_cell hK hP hb0 (by decide)
  have hqa : MI_asbLength < mT.length := by decide +kernel
  obtain ⟨a1, -, a3, -⟩ := mt_f hqa
  have ha0 : ¬ mK MI_asbLength = 0 := by decide +kernel
  have hdecl : va_Decl s ⟨"java/lang/AbstractStringBuilder", (mY MI_asbLength).name, (mY MI_asbLength).desc⟩ := va_Decl.of (args := args) (hts _ (a3 ha0)) (hts _ a1)
  refine run_go (a := (Value.ref b :: []).toArray) C' hl hS hsub hcs ?_ k1 k2 k3
  exact vx_runU (C := cN 13) (owner := "java/lang/AbstractStringBuilder") (b := b) (As := []) (n := 0) (rest := rest) (x := mY MI_asbLength) (bytes := mB MI_sbLength) (maxL := mL MI_sbLength) (ret := mRt MI_sbLength) (ws := wsM MI_sbLength) S hM
    ⟨⟨rfl, rfl, hfr.1, hfr.2, hgood, List.mem_cons_self⟩, hts _ f1, hts _ f5, ⟨by decide, by decide⟩, fun sig hs => par_len hqa ha0 (by decide +kernel) sig hs, hts _ hlink, hts _ (mem_of_contains (by decide +kernel) rfl), hdecl, hts _ (mem_of_contains (by decide +kernel) rfl), hts _ (f3 h0)⟩ ⟨PcM_blind, hcell, hPc⟩ rfl rfl hl.1 rfl (lv_room hr) hd hcs
end SIM
end
