section
-- ===== PART A: goes FIRST, ahead of the names: the tables' words, and 'selects' of the private methods out of them =====
/-- a private method of a class that the tables say can be made, by its rows of tables_1 -/
def lw_okq (q : MethodName × Nat) : Prop := (q.1.cls ≠ "java/lang/invoke/MethodHandle" ∧ q.1.cls ≠ "java/lang/invoke/VarHandle") ∧ Cond.instantiable q.1.cls q.2 ∈ tables_1 ∧ Cond.privateMethod q.1 ∈ tables_1 ∧ Cond.instanceMethod q.1 ∈ tables_1
theorem lw_p0 : lw_okq (⟨"java/lang/Throwable", "fillInStackTrace", "(I)Ljava/lang/Throwable;"⟩, 6) := ⟨⟨by decide +kernel, by decide +kernel⟩, List.mem_of_getElem? (i := 218) (by decide +kernel), List.mem_of_getElem? (i := 216) (by decide +kernel), List.mem_of_getElem? (i := 217) (by decide +kernel)⟩
theorem lw_p1 : lw_okq (⟨"ShutterBench", "mixCurtains", "(J)J"⟩, 8) := ⟨⟨by decide +kernel, by decide +kernel⟩, List.mem_of_getElem? (i := 14) (by decide +kernel), List.mem_of_getElem? (i := 286) (by decide +kernel), List.mem_of_getElem? (i := 287) (by decide +kernel)⟩
theorem lw_p2 : lw_okq (⟨"ShutterBench", "mixSpeeds", "(J)J"⟩, 8) := ⟨⟨by decide +kernel, by decide +kernel⟩, List.mem_of_getElem? (i := 14) (by decide +kernel), List.mem_of_getElem? (i := 314) (by decide +kernel), List.mem_of_getElem? (i := 315) (by decide +kernel)⟩
theorem lw_p3 : lw_okq (⟨"ShutterBench$Exposure", "runCurtains", "(LShutterBench$Shutter;I)V"⟩, 10) := ⟨⟨by decide +kernel, by decide +kernel⟩, List.mem_of_getElem? (i := 71) (by decide +kernel), List.mem_of_getElem? (i := 329) (by decide +kernel), List.mem_of_getElem? (i := 330) (by decide +kernel)⟩
theorem lw_p4 : lw_okq (⟨"ShutterBench$Exposure", "openColumns", "(LShutterBench$Shutter;)V"⟩, 10) := ⟨⟨by decide +kernel, by decide +kernel⟩, List.mem_of_getElem? (i := 71) (by decide +kernel), List.mem_of_getElem? (i := 346) (by decide +kernel), List.mem_of_getElem? (i := 347) (by decide +kernel)⟩
theorem lw_p5 : lw_okq (⟨"ShutterBench$Exposure", "sumUp", "(I)V"⟩, 10) := ⟨⟨by decide +kernel, by decide +kernel⟩, List.mem_of_getElem? (i := 71) (by decide +kernel), List.mem_of_getElem? (i := 353) (by decide +kernel), List.mem_of_getElem? (i := 354) (by decide +kernel)⟩
theorem lw_p6 : lw_okq (⟨"ShutterBench", "mixColumn", "(JI)J"⟩, 8) := ⟨⟨by decide +kernel, by decide +kernel⟩, List.mem_of_getElem? (i := 14) (by decide +kernel), List.mem_of_getElem? (i := 366) (by decide +kernel), List.mem_of_getElem? (i := 367) (by decide +kernel)⟩
theorem lw_p7 : lw_okq (⟨"ShutterBench", "fire", "(LShutterBench$Shutter;II)V"⟩, 8) := ⟨⟨by decide +kernel, by decide +kernel⟩, List.mem_of_getElem? (i := 14) (by decide +kernel), List.mem_of_getElem? (i := 397) (by decide +kernel), List.mem_of_getElem? (i := 398) (by decide +kernel)⟩
theorem lw_p8 : lw_okq (⟨"ShutterBench", "saveState", "()V"⟩, 8) := ⟨⟨by decide +kernel, by decide +kernel⟩, List.mem_of_getElem? (i := 14) (by decide +kernel), List.mem_of_getElem? (i := 430) (by decide +kernel), List.mem_of_getElem? (i := 431) (by decide +kernel)⟩
theorem lw_p9 : lw_okq (⟨"ShutterBench", "savedAt", "(I)LShutterBench$Shutter;"⟩, 8) := ⟨⟨by decide +kernel, by decide +kernel⟩, List.mem_of_getElem? (i := 14) (by decide +kernel), List.mem_of_getElem? (i := 434) (by decide +kernel), List.mem_of_getElem? (i := 435) (by decide +kernel)⟩
theorem lw_p10 : lw_okq (⟨"ShutterBench", "isComplete", "()Z"⟩, 8) := ⟨⟨by decide +kernel, by decide +kernel⟩, List.mem_of_getElem? (i := 14) (by decide +kernel), List.mem_of_getElem? (i := 511) (by decide +kernel), List.mem_of_getElem? (i := 512) (by decide +kernel)⟩
theorem lw_p11 : lw_okq (⟨"ShutterBench", "playPart", "(II)I"⟩, 8) := ⟨⟨by decide +kernel, by decide +kernel⟩, List.mem_of_getElem? (i := 14) (by decide +kernel), List.mem_of_getElem? (i := 516) (by decide +kernel), List.mem_of_getElem? (i := 517) (by decide +kernel)⟩
theorem lw_p12 : lw_okq (⟨"ShutterBench", "digitAt", "(I)I"⟩, 8) := ⟨⟨by decide +kernel, by decide +kernel⟩, List.mem_of_getElem? (i := 14) (by decide +kernel), List.mem_of_getElem? (i := 520) (by decide +kernel), List.mem_of_getElem? (i := 521) (by decide +kernel)⟩
theorem lw_p13 : lw_okq (⟨"ShutterBench", "springOfText", "(II)I"⟩, 8) := ⟨⟨by decide +kernel, by decide +kernel⟩, List.mem_of_getElem? (i := 14) (by decide +kernel), List.mem_of_getElem? (i := 524) (by decide +kernel), List.mem_of_getElem? (i := 525) (by decide +kernel)⟩
theorem lw_p14 : lw_okq (⟨"ShutterBenchModel", "fails", "(I)I"⟩, 14) := ⟨⟨by decide +kernel, by decide +kernel⟩, List.mem_of_getElem? (i := 576) (by decide +kernel), List.mem_of_getElem? (i := 633) (by decide +kernel), List.mem_of_getElem? (i := 634) (by decide +kernel)⟩
theorem lw_p15 : lw_okq (⟨"ShutterBenchModel", "saves", "()V"⟩, 14) := ⟨⟨by decide +kernel, by decide +kernel⟩, List.mem_of_getElem? (i := 576) (by decide +kernel), List.mem_of_getElem? (i := 650) (by decide +kernel), List.mem_of_getElem? (i := 651) (by decide +kernel)⟩
def lw_privs_1 : List (MethodName × Nat) := [(⟨"java/lang/Throwable", "fillInStackTrace", "(I)Ljava/lang/Throwable;"⟩, 6), (⟨"ShutterBench", "mixCurtains", "(J)J"⟩, 8), (⟨"ShutterBench", "mixSpeeds", "(J)J"⟩, 8), (⟨"ShutterBench$Exposure", "runCurtains", "(LShutterBench$Shutter;I)V"⟩, 10), (⟨"ShutterBench$Exposure", "openColumns", "(LShutterBench$Shutter;)V"⟩, 10), (⟨"ShutterBench$Exposure", "sumUp", "(I)V"⟩, 10), (⟨"ShutterBench", "mixColumn", "(JI)J"⟩, 8), (⟨"ShutterBench", "fire", "(LShutterBench$Shutter;II)V"⟩, 8), (⟨"ShutterBench", "saveState", "()V"⟩, 8), (⟨"ShutterBench", "savedAt", "(I)LShutterBench$Shutter;"⟩, 8), (⟨"ShutterBench", "isComplete", "()Z"⟩, 8), (⟨"ShutterBench", "playPart", "(II)I"⟩, 8), (⟨"ShutterBench", "digitAt", "(I)I"⟩, 8), (⟨"ShutterBench", "springOfText", "(II)I"⟩, 8), (⟨"ShutterBenchModel", "fails", "(I)I"⟩, 14), (⟨"ShutterBenchModel", "saves", "()V"⟩, 14)]
theorem lw_r1 : ∀ q ∈ lw_privs_1, lw_okq q := List.forall_mem_cons.mpr ⟨lw_p0, List.forall_mem_cons.mpr ⟨lw_p1, List.forall_mem_cons.mpr ⟨lw_p2, List.forall_mem_cons.mpr ⟨lw_p3, List.forall_mem_cons.mpr ⟨lw_p4, List.forall_mem_cons.mpr ⟨lw_p5, List.forall_mem_cons.mpr ⟨lw_p6, List.forall_mem_cons.mpr ⟨lw_p7, List.forall_mem_cons.mpr ⟨lw_p8, List.forall_mem_cons.mpr ⟨lw_p9, List.forall_mem_cons.mpr ⟨lw_p10, List.forall_mem_cons.mpr ⟨lw_p11, List.forall_mem_cons.mpr ⟨lw_p12, List.forall_mem_cons.mpr ⟨lw_p13, List.forall_mem_cons.mpr ⟨lw_p14, List.forall_mem_cons.mpr ⟨lw_p15, fun _ h => absurd h List.not_mem_nil⟩⟩⟩⟩⟩⟩⟩⟩⟩⟩⟩⟩⟩⟩⟩⟩
theorem lw_p16 : lw_okq (⟨"ShutterBenchModel", "changes", "(II)I"⟩, 14) := ⟨⟨by decide +kernel, by decide +kernel⟩, List.mem_of_getElem? (i := 576) (by decide +kernel), List.mem_of_getElem? (i := 654) (by decide +kernel), List.mem_of_getElem? (i := 655) (by decide +kernel)⟩
theorem lw_p17 : lw_okq (⟨"ShutterBenchModel", "shots", "([III)V"⟩, 14) := ⟨⟨by decide +kernel, by decide +kernel⟩, List.mem_of_getElem? (i := 576) (by decide +kernel), List.mem_of_getElem? (i := 687) (by decide +kernel), List.mem_of_getElem? (i := 688) (by decide +kernel)⟩
theorem lw_p18 : lw_okq (⟨"ShutterBenchModel", "shoots", "([II)V"⟩, 14) := ⟨⟨by decide +kernel, by decide +kernel⟩, List.mem_of_getElem? (i := 576) (by decide +kernel), List.mem_of_getElem? (i := 691) (by decide +kernel), List.mem_of_getElem? (i := 692) (by decide +kernel)⟩
theorem lw_p19 : lw_okq (⟨"ShutterBenchModel", "lays", "([II)V"⟩, 14) := ⟨⟨by decide +kernel, by decide +kernel⟩, List.mem_of_getElem? (i := 576) (by decide +kernel), List.mem_of_getElem? (i := 695) (by decide +kernel), List.mem_of_getElem? (i := 696) (by decide +kernel)⟩
theorem lw_p20 : lw_okq (⟨"ShutterBenchModel", "tells", "(II)I"⟩, 14) := ⟨⟨by decide +kernel, by decide +kernel⟩, List.mem_of_getElem? (i := 576) (by decide +kernel), List.mem_of_getElem? (i := 711) (by decide +kernel), List.mem_of_getElem? (i := 712) (by decide +kernel)⟩
theorem lw_p21 : lw_okq (⟨"ShutterBenchModel", "isText", "()Z"⟩, 14) := ⟨⟨by decide +kernel, by decide +kernel⟩, List.mem_of_getElem? (i := 576) (by decide +kernel), List.mem_of_getElem? (i := 730) (by decide +kernel), List.mem_of_getElem? (i := 731) (by decide +kernel)⟩
theorem lw_p22 : lw_okq (⟨"ShutterBenchModel", "isPart", "()Z"⟩, 14) := ⟨⟨by decide +kernel, by decide +kernel⟩, List.mem_of_getElem? (i := 576) (by decide +kernel), List.mem_of_getElem? (i := 734) (by decide +kernel), List.mem_of_getElem? (i := 735) (by decide +kernel)⟩
theorem lw_p23 : lw_okq (⟨"ShutterBenchModel", "isWinding", "()Z"⟩, 14) := ⟨⟨by decide +kernel, by decide +kernel⟩, List.mem_of_getElem? (i := 576) (by decide +kernel), List.mem_of_getElem? (i := 738) (by decide +kernel), List.mem_of_getElem? (i := 739) (by decide +kernel)⟩
theorem lw_p24 : lw_okq (⟨"ShutterBenchModel", "isDigit", "(III)Z"⟩, 14) := ⟨⟨by decide +kernel, by decide +kernel⟩, List.mem_of_getElem? (i := 576) (by decide +kernel), List.mem_of_getElem? (i := 742) (by decide +kernel), List.mem_of_getElem? (i := 743) (by decide +kernel)⟩
theorem lw_p25 : lw_okq (⟨"ShutterBenchModel", "isAt", "(II)Z"⟩, 14) := ⟨⟨by decide +kernel, by decide +kernel⟩, List.mem_of_getElem? (i := 576) (by decide +kernel), List.mem_of_getElem? (i := 746) (by decide +kernel), List.mem_of_getElem? (i := 747) (by decide +kernel)⟩
theorem lw_p26 : lw_okq (⟨"ShutterBenchModel", "stops", "()Z"⟩, 14) := ⟨⟨by decide +kernel, by decide +kernel⟩, List.mem_of_getElem? (i := 576) (by decide +kernel), List.mem_of_getElem? (i := 750) (by decide +kernel), List.mem_of_getElem? (i := 751) (by decide +kernel)⟩
theorem lw_p27 : lw_okq (⟨"ShutterBenchModel", "ofCurtain", "(II)I"⟩, 14) := ⟨⟨by decide +kernel, by decide +kernel⟩, List.mem_of_getElem? (i := 576) (by decide +kernel), List.mem_of_getElem? (i := 762) (by decide +kernel), List.mem_of_getElem? (i := 763) (by decide +kernel)⟩
theorem lw_p28 : lw_okq (⟨"ShutterBenchModel", "ofColumn", "(III)I"⟩, 14) := ⟨⟨by decide +kernel, by decide +kernel⟩, List.mem_of_getElem? (i := 576) (by decide +kernel), List.mem_of_getElem? (i := 770) (by decide +kernel), List.mem_of_getElem? (i := 771) (by decide +kernel)⟩
theorem lw_p29 : lw_okq (⟨"ShutterBenchModel", "ofSpeed", "(II)I"⟩, 14) := ⟨⟨by decide +kernel, by decide +kernel⟩, List.mem_of_getElem? (i := 576) (by decide +kernel), List.mem_of_getElem? (i := 778) (by decide +kernel), List.mem_of_getElem? (i := 779) (by decide +kernel)⟩
theorem lw_p30 : lw_okq (⟨"ShutterBenchModel", "counted", "(I)I"⟩, 14) := ⟨⟨by decide +kernel, by decide +kernel⟩, List.mem_of_getElem? (i := 576) (by decide +kernel), List.mem_of_getElem? (i := 786) (by decide +kernel), List.mem_of_getElem? (i := 787) (by decide +kernel)⟩
theorem lw_p31 : lw_okq (⟨"ShutterBenchModel", "best", "(IIIII)I"⟩, 14) := ⟨⟨by decide +kernel, by decide +kernel⟩, List.mem_of_getElem? (i := 576) (by decide +kernel), List.mem_of_getElem? (i := 798) (by decide +kernel), List.mem_of_getElem? (i := 799) (by decide +kernel)⟩
def lw_privs_2 : List (MethodName × Nat) := [(⟨"ShutterBenchModel", "changes", "(II)I"⟩, 14), (⟨"ShutterBenchModel", "shots", "([III)V"⟩, 14), (⟨"ShutterBenchModel", "shoots", "([II)V"⟩, 14), (⟨"ShutterBenchModel", "lays", "([II)V"⟩, 14), (⟨"ShutterBenchModel", "tells", "(II)I"⟩, 14), (⟨"ShutterBenchModel", "isText", "()Z"⟩, 14), (⟨"ShutterBenchModel", "isPart", "()Z"⟩, 14), (⟨"ShutterBenchModel", "isWinding", "()Z"⟩, 14), (⟨"ShutterBenchModel", "isDigit", "(III)Z"⟩, 14), (⟨"ShutterBenchModel", "isAt", "(II)Z"⟩, 14), (⟨"ShutterBenchModel", "stops", "()Z"⟩, 14), (⟨"ShutterBenchModel", "ofCurtain", "(II)I"⟩, 14), (⟨"ShutterBenchModel", "ofColumn", "(III)I"⟩, 14), (⟨"ShutterBenchModel", "ofSpeed", "(II)I"⟩, 14), (⟨"ShutterBenchModel", "counted", "(I)I"⟩, 14), (⟨"ShutterBenchModel", "best", "(IIIII)I"⟩, 14)]
theorem lw_r2 : ∀ q ∈ lw_privs_2, lw_okq q := List.forall_mem_cons.mpr ⟨lw_p16, List.forall_mem_cons.mpr ⟨lw_p17, List.forall_mem_cons.mpr ⟨lw_p18, List.forall_mem_cons.mpr ⟨lw_p19, List.forall_mem_cons.mpr ⟨lw_p20, List.forall_mem_cons.mpr ⟨lw_p21, List.forall_mem_cons.mpr ⟨lw_p22, List.forall_mem_cons.mpr ⟨lw_p23, List.forall_mem_cons.mpr ⟨lw_p24, List.forall_mem_cons.mpr ⟨lw_p25, List.forall_mem_cons.mpr ⟨lw_p26, List.forall_mem_cons.mpr ⟨lw_p27, List.forall_mem_cons.mpr ⟨lw_p28, List.forall_mem_cons.mpr ⟨lw_p29, List.forall_mem_cons.mpr ⟨lw_p30, List.forall_mem_cons.mpr ⟨lw_p31, fun _ h => absurd h List.not_mem_nil⟩⟩⟩⟩⟩⟩⟩⟩⟩⟩⟩⟩⟩⟩⟩⟩
theorem lw_p32 : lw_okq (⟨"ShutterBenchModel", "byShooting", "(III)I"⟩, 14) := ⟨⟨by decide +kernel, by decide +kernel⟩, List.mem_of_getElem? (i := 576) (by decide +kernel), List.mem_of_getElem? (i := 810) (by decide +kernel), List.mem_of_getElem? (i := 811) (by decide +kernel)⟩
theorem lw_p33 : lw_okq (⟨"ShutterBenchModel", "good", "(II)I"⟩, 14) := ⟨⟨by decide +kernel, by decide +kernel⟩, List.mem_of_getElem? (i := 576) (by decide +kernel), List.mem_of_getElem? (i := 818) (by decide +kernel), List.mem_of_getElem? (i := 819) (by decide +kernel)⟩
theorem lw_p34 : lw_okq (⟨"ShutterBenchModel", "share", "(I)D"⟩, 14) := ⟨⟨by decide +kernel, by decide +kernel⟩, List.mem_of_getElem? (i := 576) (by decide +kernel), List.mem_of_getElem? (i := 826) (by decide +kernel), List.mem_of_getElem? (i := 827) (by decide +kernel)⟩
def lw_privs_3 : List (MethodName × Nat) := [(⟨"ShutterBenchModel", "byShooting", "(III)I"⟩, 14), (⟨"ShutterBenchModel", "good", "(II)I"⟩, 14), (⟨"ShutterBenchModel", "share", "(I)D"⟩, 14)]
theorem lw_r3 : ∀ q ∈ lw_privs_3, lw_okq q := List.forall_mem_cons.mpr ⟨lw_p32, List.forall_mem_cons.mpr ⟨lw_p33, List.forall_mem_cons.mpr ⟨lw_p34, fun _ h => absurd h List.not_mem_nil⟩⟩⟩
def lw_privs : List (MethodName × Nat) := lw_privs_1 ++ (lw_privs_2 ++ (lw_privs_3))
def lw_tbl : List Cond := k2_sels lw_privs ++ tables_1
theorem lw_privs_ok : ∀ q ∈ lw_privs, lw_okq q := by
  show ∀ q ∈ lw_privs_1 ++ (lw_privs_2 ++ (lw_privs_3)), lw_okq q
  exact List.forall_mem_append.mpr ⟨lw_r1, List.forall_mem_append.mpr ⟨lw_r2, lw_r3⟩⟩
/-- the streams that the claim lets the run draw from -/
abbrev lw_cs : List Choice := [Jvm.Choice.named "NaN.bits"]
theorem lw_bits : nanBits ∈ lw_cs := by first | decide | exact List.mem_cons_self | simp [lw_cs, nanBits]
end
section
/-! ===== BEGIN words of one list among another's, by their places ===== -/
theorem goodIn_r {big : List Cond} (ws : List Cond) (ps : List Nat) (hp : ws = ps.filterMap (fun i => big[i]?)) (h : ws.all goodWord = true) : GoodIn big ws := by
  intro w hw
  have h1 := List.all_eq_true.mp h w hw
  rw [hp] at hw
  obtain ⟨i, -, hi⟩ := List.mem_filterMap.mp hw
  have hm : w ∈ big := by first | exact List.mem_of_getElem? hi | exact List.getElem?_mem hi
  exact ⟨hm, good_of_word h1⟩
theorem goodIn_app {big a b : List Cond} (ha : GoodIn big a) (hb : GoodIn big b) : GoodIn big (a ++ b) := fun w h => (List.mem_append.mp h).elim (ha w) (hb w)
theorem goodIn_ca {big a b : List Cond} {c : Cond} (ha : GoodIn big (c :: a)) (hb : GoodIn big b) : GoodIn big (c :: (a ++ b)) := fun w h => (List.mem_cons.mp h).elim (fun e => ha w (List.mem_cons.mpr (Or.inl e))) (fun h => (List.mem_append.mp h).elim (fun h => ha w (List.mem_cons.mpr (Or.inr h))) (hb w))
theorem goodIn_sub {big ws : List Cond} (hm : ∀ w ∈ ws, w ∈ big) (h : ws.all goodWord = true) : GoodIn big ws := fun w hw => ⟨hm w hw, good_of_word (List.all_eq_true.mp h w hw)⟩
/-! ===== END ===== -/

/-! ===== BEGIN exceptions that leave a method, and their catching by the caller (launches without stack traces) ===== -/
section VXA
/-! The laws vx_back, vx_callV, vx_callS, vx_callSW, vx_throw0, vx_throwS follow proofs of the library, with one case more: JvmDerived/Free/Laws.lean (Back.of_free), Shelf42/LK1.lean (callV, callS), Shelf/KitTraced.lean (throwNew0V, throwNewS). -/
/-- where a method has thrown q: the class by its name, the cell, what was written, the world -/
def vx_T (XC : String → State → State → Prop) (st : State) (q : Addr) (t : State) (mc ms : Nat) (free : Addr → Prop) : Prop :=
  ∃ (E : String) (ce : Cell) (L : List Loc), XC E st t ∧ t.heap[q]? = some ce ∧ ce.vm = .none ∧ st.vm.findClass E = some ce.cls ∧ st.WarmedH t.vm ∧ st.sameButNew ({ t with vm := st.vm } : State) L mc ms ∧ ∀ z ∈ L, free z.base
def vx_Q (Qc : Array Value → State → Outcome → State → Prop) (XC : String → State → State → Prop) (mc ms : Nat) (free : Addr → Prop) : Array Value → State → Outcome → State → Prop := fun a st o t =>
  (Qc a st o t ∧ ∃ L, FrameEnd st o t L mc ms ∧ ∀ q ∈ L, free q.base) ∨ ∃ q, o = .threw q ∧ vx_T XC st q t mc ms free
/-- a callee that returns or throws -/
def vx_Met (l : Launch) (y : MethodName) (ws : List Cond) (rm : Room) (Pc : Array Value → State → Prop) (Qc : Array Value → State → Outcome → State → Prop) (XC : String → State → State → Prop) (mc ms : Nat) (free : Addr → Prop) : Prop :=
  MetFree l y (headSpec ws rm) Pc (fun _ _ _ _ _ => True) (vx_Q Qc XC mc ms free)
def vx_Post (XC : String → State → State → Prop) (mc ms : Nat) (free : Addr → Prop) : Pt → Array Value → Addr → Pt → Prop := fun A a q B =>
  ∃ (g : JFrame) (mk : MethodId) (t : State) (L : List Loc) (E : String) (ce : Cell), B.U.heap = t.heap ∧ B.U.vm = t.vm ∧ XC E (A.U.calling g mk a) t ∧ t.heap[q]? = some ce ∧ ce.vm = .none ∧ A.U.vm.findClass E = some ce.cls ∧ B.locs = A.locs ++ L ∧ (∀ z ∈ L, free z.base) ∧ B.cells = A.cells + mc ∧ B.slots = A.slots + ms
def vx_Back (l : Launch) (R : Room) (p : Program) (e : Env) (below : List Frame) (s : State) (sargs : Array Value) (y : MethodName) (len W9 : Nat)
    (Pre : Pt → Array Value → Prop) (Post : Pt → Array Value → Option Value → Pt → Prop) (PostX : Pt → Array Value → Addr → Pt → Prop) : Prop :=
  ∀ (m : MethodId) (meth : Method) (c : Code) (A : Pt) (g : JFrame) (ig : Instr) (mk : MethodId) (a : Array Value),
    Stand p l e R s m sargs below meth c A.U A.locs A.cells A.slots → g.method = m → g.locals.size = c.maxLocals → decode c.code g.pc = .ok (ig, len) →
    2 * g.monitorRoom + (g.stack.map fun v => v.category).sum ≤ W9 → A.U.methodNamed? y = some mk → Pre A a →
    (∃ (v : Option Value) (B : Pt), Stand p l e R s m sargs below meth c B.U B.locs B.cells B.slots ∧ Post A a v B ∧
      Steps p.tables e below (doInvoke e (A.U.setTop g) [] mk a).1 (B.U.setTop { g with pc := g.pc + len, stack := v.toList ++ g.stack })) ∨
    (∃ (q : Addr) (B : Pt), Stand p l e R s m sargs below meth c B.U B.locs B.cells B.slots ∧ PostX A a q B ∧
      Steps p.tables e below (doInvoke e (A.U.setTop g) [] mk a).1 ((B.U.setTop g).pushFrame (.throwing q)))
section Payer
variable {l : Launch} {R : Room} {p : Program} {e : Env} {below : List Frame} {s : State} {sargs : Array Value} {y : MethodName} {len W9 : Nat}
theorem vx_back {ws : List Cond} {rm : Room} {Pc : Array Value → State → Prop} {Qc : Array Value → State → Outcome → State → Prop} {XC : String → State → State → Prop} {mc ms : Nat} {free : Addr → Prop} {bytes : ByteArray} {maxL : Nat} {ret : Option FieldType}
    (hM : vx_Met l y ws rm Pc Qc XC mc ms free) (hblind : FrameBlind Pc) (hrc : rm.cells = mc) (hrs : rm.slots = ms)
    (hframes : rm.frames + 1 ≤ R.frames) (hlocals : W9 + (maxL + 11) + rm.locals ≤ R.locals)
    (hws : ∀ w ∈ ws, ∀ a' U, s.WarmedH U.vm → w.before a' U = true) (hcode : Cond.code y bytes maxL ret ∈ ws) (hinit : ∀ a' U, s.WarmedH U.vm → (Cond.initialized y.cls).before a' U = true) :
    vx_Back l R p e below s sargs y len W9 (PreOf R mc ms Pc) (PostOf Qc mc ms free) (vx_Post XC mc ms free) := by
  intro m meth c A g ig mk a X hg hsize hdg hW hn hp
  have h1 : (headSpec ws rm).pre.before a A.U = true := atoms_intro fun w hw => hws w hw _ _ X.warmed
  have h2 : (Cond.code y bytes maxL ret).before a A.U = true := hws _ hcode _ _ X.warmed
  have h3 : (Cond.initialized y.cls).before a A.U = true := hinit _ _ X.warmed
  have h4 : A.cells + (headSpec ws rm).room.cells ≤ R.cells := by rw [show (headSpec ws rm).room.cells = mc from hrc]; exact hp.1
  have h5 : A.slots + (headSpec ws rm).room.slots ≤ R.slots := by rw [show (headSpec ws rm).room.slots = ms from hrs]; exact hp.2.1
  have hPc : Pc a (A.U.calling g mk a) := hblind _ _ _ _ hp.2.2
  obtain ⟨U, Ls, c0, s0⟩ := A
  dsimp only [Pt.U, Pt.locs, Pt.cells, Pt.slots] at h1 h2 h3 h4 h5 X hn hPc ⊢
  obtain ⟨methY, cY, hmY, hcY, -, hlY, -, -, -, -⟩ := Cond.code_spec hn h2
  obtain ⟨kY, hkY, -⟩ := className_of_methodNamed hn
  have hinitY : kY.init = .initialized := Cond.initialized_spec (findClass_of_methodNamed hn) hkY h3
  have h : At U g.method c below := by rw [hg]; exact X.here
  have hlocals9 : W9 + (maxL + 11) + (headSpec ws rm).room.locals ≤ R.locals := hlocals
  have happ : (headSpec ws rm).appliesLoose y e.platform (U.calling g mk a) = true :=
    Spec.appliesLoose_calling (g := g) h hdg hn hkY hinitY
      (X.room_calling (g := g) (R' := (headSpec ws rm).room) hsize hmY hcY hframes (by rw [hlY]; omega) h4 h5) h1
  obtain ⟨mid, hmid⟩ := h.above
  have hfr : (U.setTop g).frames = (.java g :: mid) ++ below := by rw [State.frames_setTop' g h.top, hmid]; rfl
  obtain ⟨o, s₂, hsteps, -, hend, hq⟩ := Steps.callFree hM p X.admits X.cas X.clock (acts := []) hfr happ hPc trivial
  have hq' : vx_Q Qc XC mc ms free a (U.calling g mk a) o s₂ := hq
  rw [State.frames_setTop' g h.top] at hend
  obtain ⟨g₀, hg0⟩ := Option.isSome_iff_exists.mp h.top
  obtain ⟨r, hr⟩ := State.topJava?_eq_some.mp hg0
  have hr' : (({ U with heap := s₂.heap, slotsUsed := s₂.slotsUsed } : State).setVm s₂.vm).frames = .java g₀ :: r := hr
  rcases hq' with ⟨hqc, L, hfe, hL⟩ | ⟨q, rfl, E, ce, L, hx, hce, hcv, hcl, hW₂, hsm, hL⟩
  · obtain ⟨⟨v, rfl⟩, hW₂, e2, q2, q3, q4, q5, q6⟩ := id hfe
    have e3 : s₂ = ({ (U.calling g mk a).setFrames s₂.frames with heap := s₂.heap, slotsUsed := s₂.slotsUsed } : State).setVm s₂.vm := by
      have : s₂ = ({ s₂ with vm := (U.calling g mk a).vm } : State).setVm s₂.vm := rfl
      rw [e2] at this
      exact this
    obtain ⟨c₂, i₂, len₂, hc₂, hd₂, hf₂⟩ := hend
    have hW' : U.WarmedH s₂.vm := hW₂
    have hcc : c₂ = c := by
      have h1 : s₂.code? g.method = U.code? g.method := by
        rw [State.code?_eq, State.code?_eq, hW'.alike.method?]
      exact Option.some.inj (hc₂.symm.trans (h1.trans h.code))
    subst hcc
    have hlen : len₂ = len := by rw [hdg] at hd₂; cases hd₂; rfl
    subst hlen
    have hs₂ : s₂ = (({ U with heap := s₂.heap, slotsUsed := s₂.slotsUsed } : State).setVm s₂.vm).setTop { g with pc := g.pc + len₂, stack := v.toList ++ g.stack } := by
      refine e3.trans ?_
      rw [hf₂, State.calling_eq h.top, State.setFrames_setFrames, State.setTop_of_frames _ hr', hr]
      rfl
    have hsame : U.sameButNew ({ U with heap := s₂.heap, slotsUsed := s₂.slotsUsed } : State) L mc ms := by
      refine ⟨?_, q2, q3, q4, q5, q6⟩
      obtain ⟨t, ht, -⟩ := State.frames_cons hr
      show ({ U with heap := s₂.heap, slotsUsed := s₂.slotsUsed } : State) = { U.setFrames U.frames with heap := s₂.heap, slotsUsed := s₂.slotsUsed }
      rw [State.setFrames_self ht]
    subst hg
    refine Or.inl ⟨v, ⟨(({ U with heap := s₂.heap, slotsUsed := s₂.slotsUsed } : State).setVm s₂.vm), Ls ++ L, c0 + mc, s0 + ms⟩,
      ⟨X.admits, X.cas, X.clock, X.frames, X.room, X.hears, X.method, X.code, (X.here.setHeapUsed s₂.heap s₂.slotsUsed).setVm hW'.alike, X.tail, State.WarmedH.trans X.warmed hW', X.limits, X.bytes, X.same.trans (hsame.setVm s.vm)⟩,
      ⟨g, mk, s₂, L, rfl, rfl, hqc, rfl, hL, rfl, rfl⟩, ?_⟩
    show Steps p.tables e below _ ((({ U with heap := s₂.heap, slotsUsed := s₂.slotsUsed } : State).setVm s₂.vm).setTop { g with pc := g.pc + len₂, stack := v.toList ++ g.stack })
    rw [← hs₂]
    exact hsteps
  · obtain ⟨e2, q2, q3, q4, q5, q6⟩ := id hsm
    have e3 : s₂ = ({ (U.calling g mk a).setFrames s₂.frames with heap := s₂.heap, slotsUsed := s₂.slotsUsed } : State).setVm s₂.vm := by
      have : s₂ = ({ s₂ with vm := (U.calling g mk a).vm } : State).setVm s₂.vm := rfl
      rw [e2] at this
      exact this
    have hf₂ : s₂.frames = .throwing q :: .java g :: U.frames.tail := hend
    have hW' : U.WarmedH s₂.vm := hW₂
    have hs₂ : s₂ = ((({ U with heap := s₂.heap, slotsUsed := s₂.slotsUsed } : State).setVm s₂.vm).setTop g).pushFrame (.throwing q) := by
      refine e3.trans ?_
      rw [hf₂, State.calling_eq h.top, State.setFrames_setFrames, State.pushFrame, State.frames_setTop _ hr', State.setTop_of_frames _ hr', State.setFrames_setFrames, hr]
      rfl
    have hsame : U.sameButNew ({ U with heap := s₂.heap, slotsUsed := s₂.slotsUsed } : State) L mc ms := by
      refine ⟨?_, q2, q3, q4, q5, q6⟩
      obtain ⟨t, ht, -⟩ := State.frames_cons hr
      show ({ U with heap := s₂.heap, slotsUsed := s₂.slotsUsed } : State) = { U.setFrames U.frames with heap := s₂.heap, slotsUsed := s₂.slotsUsed }
      rw [State.setFrames_self ht]
    subst hg
    refine Or.inr ⟨q, ⟨(({ U with heap := s₂.heap, slotsUsed := s₂.slotsUsed } : State).setVm s₂.vm), Ls ++ L, c0 + mc, s0 + ms⟩,
      ⟨X.admits, X.cas, X.clock, X.frames, X.room, X.hears, X.method, X.code, (X.here.setHeapUsed s₂.heap s₂.slotsUsed).setVm hW'.alike, X.tail, State.WarmedH.trans X.warmed hW', X.limits, X.bytes, X.same.trans (hsame.setVm s.vm)⟩,
      ⟨g, mk, s₂, L, E, ce, rfl, rfl, hx, hce, hcv, hcl, rfl, hL, rfl, rfl⟩, ?_⟩
    show Steps p.tables e below _ (((({ U with heap := s₂.heap, slotsUsed := s₂.slotsUsed } : State).setVm s₂.vm).setTop g).pushFrame (.throwing q))
    rw [← hs₂]
    exact hsteps
end Payer
section Calls
variable {p : Program} {l : Launch} {e : Env} {R : Room} {s : State} {m : MethodId} {args : Array Value} {below : List Frame} {meth : Method} {c : Code} {T : State} {locs : List Loc} {cells slots : Nat}
theorem vx_callV (X : Stand p l e R s m args below meth c T locs cells slots) (hexec : p.tables.exec = Jvm.exec) {own C : String} {index : Nat} {y : MethodName} {bytes : ByteArray} {maxL : Nat} {ret : Option FieldType}
    (hown : s.vm.findClass own = some m.cls) (hlink : (Cond.methodLink own index y).before args s = true) (hinst : (Cond.instanceMethod y).before args s = true) (hsel : (Cond.selects C y y).before args s = true)
    (hcode : (Cond.code y bytes maxL ret).before args s = true) (hy : y.cls ≠ "java/lang/invoke/MethodHandle" ∧ y.cls ≠ "java/lang/invoke/VarHandle")
    {W9 : Nat} {Pre : Pt → Array Value → Prop} {Post : Pt → Array Value → Option Value → Pt → Prop} {PostX : Pt → Array Value → Addr → Pt → Prop} (hK : vx_Back l R p e below s args y 3 W9 Pre Post PostX)
    {b : Addr} {cellB : Cell} (hcell : T.heap[b]? = some cellB) (hobj : cellB.vm.isStatics = false) (hcls : s.vm.findClass C = some cellB.cls)
    {g : JFrame} (hg : g.method = m) (hsize : g.locals.size = c.maxLocals) {argsL rest : List Value} (hlen : ∀ sig, parseMethodDescriptor y.desc = some sig → argsL.length = sig.parameters.length)
    (hstack : g.stack = argsL.reverse ++ .ref b :: rest) (hW : 2 * g.monitorRoom + (rest.map fun v => v.category).sum ≤ W9) (hdg : decode c.code g.pc = .ok (.invokevirtual index, 3))
    (hpre : ∀ vm₁, s.WarmedH vm₁ → Pre ⟨T.setVm vm₁, locs, cells, slots⟩ (Value.ref b :: argsL).toArray) :
    (∃ (v : Option Value) (vm₁ : Vm) (B : Pt), s.WarmedH vm₁ ∧ Stand p l e R s m args below meth c B.U B.locs B.cells B.slots ∧ Post ⟨T.setVm vm₁, locs, cells, slots⟩ (Value.ref b :: argsL).toArray v B ∧
      ∀ target, Steps p.tables e below (B.U.setTop { g with pc := g.pc + 3, stack := v.toList ++ rest }) target → Steps p.tables e below (T.setTop g) target) ∨
    (∃ (q : Addr) (vm₁ : Vm) (B : Pt), s.WarmedH vm₁ ∧ Stand p l e R s m args below meth c B.U B.locs B.cells B.slots ∧ PostX ⟨T.setVm vm₁, locs, cells, slots⟩ (Value.ref b :: argsL).toArray q B ∧
      Steps p.tables e below (T.setTop g) ((B.U.setTop { g with stack := rest }).pushFrame (.throwing q))) := by
  obtain ⟨mk, methM, hnamed, hmethM, hstM, habM⟩ := Cond.instanceMethod_spec hinst
  obtain ⟨methM', cM, hmethM', -, -, -, -, -, -, hsigM⟩ := Cond.code_spec hnamed hcode
  cases hmethM.symm.trans hmethM'
  obtain ⟨c2, r2, m2, q1, q2, q3, q4, kP, hkP, hkPi⟩ := Cond.selects_spec hsel
  cases hcls.symm.trans q1
  cases (State.methodFound?_of_named hnamed hy).symm.trans q2
  cases hnamed.symm.trans q3
  have hselP : selectMethod e.platform s.vm cellB.cls mk = .method mk := by rw [Launch.admits_selectMethod X.admits]; exact q4
  obtain ⟨vm₁, X₁, hstep₁⟩ := X.invokevirtual hexec hown hlink hnamed hmethM hstM hkP hkPi hy (a := b) (cell := cellB) hcell
    (fun z h => by rw [h] at hobj; cases hobj) hselP hmethM habM hkP hkPi (g := g) hg (argsL := argsL) (rest := rest) (hlen _ hsigM) hstack hdg
  rcases hK m meth c ⟨T.setVm vm₁, locs, cells, slots⟩ { g with stack := rest } (.invokevirtual index) mk (Value.ref b :: argsL).toArray X₁ hg hsize hdg hW (X₁.named hnamed) (hpre vm₁ X₁.warmed) with ⟨v, B, X', hpost, hsteps⟩ | ⟨q, B, X', hpost, hsteps⟩
  · exact Or.inl ⟨v, vm₁, B, X₁.warmed, X', hpost, fun target h => hstep₁ _ fun acts => by rw [doInvoke_state]; exact hsteps.trans h⟩
  · exact Or.inr ⟨q, vm₁, B, X₁.warmed, X', hpost, hstep₁ _ fun acts => by rw [doInvoke_state]; exact hsteps⟩
theorem vx_callS (X : Stand p l e R s m args below meth c T locs cells slots) (hexec : p.tables.exec = Jvm.exec) {own : String} {index : Nat} {y : MethodName} {bytes : ByteArray} {maxL : Nat} {ret : Option FieldType}
    (hown : s.vm.findClass own = some m.cls) (hlink : (Cond.methodLink own index y).before args s = true) (hstat : (Cond.static y).before args s = true) (hinit : (Cond.initialized y.cls).before args s = true)
    (hcode : (Cond.code y bytes maxL ret).before args s = true) (hy : y.cls ≠ "java/lang/invoke/MethodHandle" ∧ y.cls ≠ "java/lang/invoke/VarHandle")
    {W9 : Nat} {Pre : Pt → Array Value → Prop} {Post : Pt → Array Value → Option Value → Pt → Prop} {PostX : Pt → Array Value → Addr → Pt → Prop} (hK : vx_Back l R p e below s args y 3 W9 Pre Post PostX)
    {g : JFrame} (hg : g.method = m) (hsize : g.locals.size = c.maxLocals) {argsL rest : List Value} (hlen : ∀ sig, parseMethodDescriptor y.desc = some sig → argsL.length = sig.parameters.length)
    (hstack : g.stack = argsL.reverse ++ rest) (hW : 2 * g.monitorRoom + (rest.map fun v => v.category).sum ≤ W9) (hdg : decode c.code g.pc = .ok (.invokestatic index, 3))
    (hpre : ∀ vm₁, s.WarmedH vm₁ → Pre ⟨T.setVm vm₁, locs, cells, slots⟩ argsL.toArray) :
    (∃ (v : Option Value) (vm₁ : Vm) (B : Pt), s.WarmedH vm₁ ∧ Stand p l e R s m args below meth c B.U B.locs B.cells B.slots ∧ Post ⟨T.setVm vm₁, locs, cells, slots⟩ argsL.toArray v B ∧
      ∀ target, Steps p.tables e below (B.U.setTop { g with pc := g.pc + 3, stack := v.toList ++ rest }) target → Steps p.tables e below (T.setTop g) target) ∨
    (∃ (q : Addr) (vm₁ : Vm) (B : Pt), s.WarmedH vm₁ ∧ Stand p l e R s m args below meth c B.U B.locs B.cells B.slots ∧ PostX ⟨T.setVm vm₁, locs, cells, slots⟩ argsL.toArray q B ∧
      Steps p.tables e below (T.setTop g) ((B.U.setTop { g with stack := rest }).pushFrame (.throwing q))) := by
  obtain ⟨mk, hnamed⟩ := Cond.code_named hcode
  obtain ⟨methM, cM, hmethM, -, -, -, -, -, -, hsigM⟩ := Cond.code_spec hnamed hcode
  have hstatic : methM.isStatic = true := Cond.static_spec hnamed hmethM hstat
  obtain ⟨kP, hkP, -⟩ := className_of_methodNamed hnamed
  have hinitP : kP.init = .initialized := Cond.initialized_spec (findClass_of_methodNamed hnamed) hkP hinit
  obtain ⟨vm₁, X₁, hstep₁⟩ := X.invokestatic hexec hown hlink hnamed hmethM hstatic hkP hinitP hy (g := g) hg (argsL := argsL) (rest := rest) (hlen _ hsigM) hstack hdg
  rcases hK m meth c ⟨T.setVm vm₁, locs, cells, slots⟩ { g with stack := rest } (.invokestatic index) mk argsL.toArray X₁ hg hsize hdg hW (X₁.named hnamed) (hpre vm₁ X₁.warmed) with ⟨v, B, X', hpost, hsteps⟩ | ⟨q, B, X', hpost, hsteps⟩
  · exact Or.inl ⟨v, vm₁, B, X₁.warmed, X', hpost, fun target h => hstep₁ _ fun acts => by rw [doInvoke_state]; exact hsteps.trans h⟩
  · exact Or.inr ⟨q, vm₁, B, X₁.warmed, X', hpost, hstep₁ _ fun acts => by rw [doInvoke_state]; exact hsteps⟩
end Calls
theorem vx_cls {s : State} {T : State} {vm₁ : Vm} {E : String} {k : ClassId} (hW : s.WarmedH vm₁) (h : (T.setVm vm₁).vm.findClass E = some k) : s.vm.findClass E = some k := by
  have h1 : vm₁.findClass E = some k := h
  rw [hW.alike.findClass] at h1
  exact h1
/-- the method's frame g, with q thrown over it -/
def vx_W (p : Program) (l : Launch) (e : Env) (R : Room) (s : State) (m : MethodId) (args : Array Value) (below : List Frame) (meth : Method) (c : Code) (H : Heap) (locs : List Loc) (cells slots : Nat) (Q : State → Prop) (g : JFrame) (q : Addr) : Prop :=
  ∀ T : State, T.heap = H → Stand p l e R s m args below meth c T locs cells slots → ∃ t, Steps p.tables e below ((T.setTop g).pushFrame (.throwing q)) t ∧ Q t
def vx_Run (p : Program) (l : Launch) (e : Env) (R : Room) (s : State) (m : MethodId) (args : Array Value) (below : List Frame) (meth : Method) (c : Code) (H : Heap) (locs : List Loc) (cells slots mc ms : Nat) (g : JFrame) (rest : List Value) (Qa : State → Outcome → State → Prop) (XC : String → State → State → Prop) (free : Addr → Prop) : Prop :=
  ∀ T : State, T.heap = H → Stand p l e R s m args below meth c T locs cells slots →
    (∃ (v : Option Value) (st₀ t T' : State) (L : List Loc), st₀.heap = H ∧ Stand p l e R s m args below meth c T' (locs ++ L) (cells + mc) (slots + ms) ∧ (∀ q ∈ L, free q.base) ∧ T'.heap = t.heap ∧ T'.vm = t.vm ∧ Qa st₀ (.returned v) t ∧
      Goes p e below T g T' { g with pc := g.pc + 3, stack := v.toList ++ rest }) ∨
    (∃ (q : Addr) (st₀ t T' : State) (L : List Loc) (E : String) (ce : Cell), st₀.heap = H ∧ Stand p l e R s m args below meth c T' (locs ++ L) (cells + mc) (slots + ms) ∧ (∀ z ∈ L, free z.base) ∧ T'.heap = t.heap ∧ T'.vm = t.vm ∧ XC E st₀ t ∧ t.heap[q]? = some ce ∧ ce.vm = .none ∧ s.vm.findClass E = some ce.cls ∧
      Steps p.tables e below (T.setTop g) ((T'.setTop { g with stack := rest }).pushFrame (.throwing q)))
def vx_X {S : Type} (px : S → Prop) (B : String → S → State → Prop) (A : Nat → Prop) : String → State → State → Prop := fun E st t => ∃ u : S, px u ∧ B E u t ∧ va_F A st t
section Runs
variable {p : Program} {l : Launch} {e : Env} {R : Room} {s : State} {m : MethodId} {args : Array Value} {below : List Frame} {meth : Method} {c : Code} {H : Heap} {locs : List Loc} {cells slots : Nat}
variable {y : MethodName} {bytes cc : ByteArray} {maxL nL mc ms n index : Nat} {ret : Option FieldType} {ws : List Cond} {rm : Room} {Pc : Array Value → State → Prop} {Qc : Array Value → State → Outcome → State → Prop} {XC : String → State → State → Prop} {free : Addr → Prop} {Ts : List Cond} {own C : String} {b : Addr} {As rest : List Value} {g : JFrame}
theorem vx_callBack (cb : CallB R s args own index y bytes maxL ret ws rm mc ms n) (hM : vx_Met l y ws rm Pc Qc XC mc ms free) (hbl : FrameBlind Pc) : vx_Back l R p e below s args y 3 8 (PreOf R mc ms Pc) (PostOf Qc mc ms free) (vx_Post XC mc ms free) := by
  obtain ⟨hrc, hrs, hfr, hlo, hws, hcw, -, hini, -⟩ := cb
  exact vx_back (bytes := bytes) (maxL := maxL) (ret := ret) hM hbl hrc hrs hfr hlo hws hcw (fun a' U hW => word_at hW (Or.inl (by first | rfl | simp [Cond.onTables, Cond.keeps, Cond.steady])) hini)
theorem vx_runV (S : CallFix p m c cc nL s args Ts own) (hM : vx_Met l y ws rm Pc Qc XC mc ms free) (cw : CallW R s args own C index y bytes maxL ret ws rm mc ms n) (hp : PreV s H C b Pc As)
    (hg : g.method = m) (hn : As.length = n) (hsize : g.locals.size = nL) (hstack : g.stack = As.reverse ++ .ref b :: rest) (hW : 2 * g.monitorRoom + (rest.map fun v => v.category).sum ≤ 8) (hdg : decode cc g.pc = .ok (.invokevirtual index, 3)) (hf : cells + mc ≤ R.cells ∧ slots + ms ≤ R.slots) :
    vx_Run p l e R s m args below meth c H locs cells slots mc ms g rest (Qc (Value.ref b :: As).toArray) XC free := by
  have hK : vx_Back l R p e below s args y 3 8 (PreOf R mc ms Pc) (PostOf Qc mc ms free) (vx_Post XC mc ms free) := vx_callBack cw.1 hM hp.1
  obtain ⟨⟨-, -, -, -, -, -, hcode, -, hy, hlen, hl⟩, hin, hse⟩ := cw
  obtain ⟨hx, hb, hml, ho, -⟩ := S
  obtain ⟨-, ⟨cellB, hcB, hoB, hclB⟩, hPc⟩ := hp
  intro T hT X
  rcases vx_callV X hx (C := C) (bytes := bytes) (maxL := maxL) (ret := ret) ho hl hin hse hcode hy hK (by rw [hT]; exact hcB) hoB hclB hg (hsize.trans hml.symm) (argsL := As) (rest := rest) (fun sig h => hn.trans (hlen sig h)) hstack hW (by rw [hb]; exact hdg)
    (fun vm₁ hW₁ => ⟨hf.1, hf.2, hPc (T.setVm vm₁) hT hW₁⟩) with ⟨v, vm₁, ⟨U', l2, c2, s2⟩, hW₁, X', ⟨g', mk, t, L, e1, e2, hq, h1, hL, h2, h3⟩, st⟩ | ⟨q, vm₁, ⟨U', l2, c2, s2⟩, hW₁, X', ⟨g', mk, t, L, E, ce, e1, e2, hq, hce, hcv, hcl, h1, hL, h2, h3⟩, st⟩
  · dsimp only [Pt.U, Pt.locs, Pt.cells, Pt.slots] at X' e1 e2 h1 h2 h3 st
    subst h1; subst h2; subst h3
    exact Or.inl ⟨v, (T.setVm vm₁).calling g' mk (Value.ref b :: As).toArray, t, U', L, hT, X', hL, e1, e2, hq, st⟩
  · dsimp only [Pt.U, Pt.locs, Pt.cells, Pt.slots] at X' e1 e2 h1 h2 h3 st hcl
    subst h1; subst h2; subst h3
    exact Or.inr ⟨q, (T.setVm vm₁).calling g' mk (Value.ref b :: As).toArray, t, U', L, E, ce, hT, X', hL, e1, e2, hq, hce, hcv, vx_cls hW₁ hcl, st⟩
theorem vx_runS (S : CallFix p m c cc nL s args Ts own) (hM : vx_Met l y ws rm Pc Qc XC mc ms free) (cw : CallB R s args own index y bytes maxL ret ws rm mc ms n ∧ (Cond.static y).before args s = true) (hp : PreS s H Pc As)
    (hg : g.method = m) (hn : As.length = n) (hsize : g.locals.size = nL) (hstack : g.stack = As.reverse ++ rest) (hW : 2 * g.monitorRoom + (rest.map fun v => v.category).sum ≤ 8) (hdg : decode cc g.pc = .ok (.invokestatic index, 3)) (hf : cells + mc ≤ R.cells ∧ slots + ms ≤ R.slots) :
    vx_Run p l e R s m args below meth c H locs cells slots mc ms g rest (Qc As.toArray) XC free := by
  have hK : vx_Back l R p e below s args y 3 8 (PreOf R mc ms Pc) (PostOf Qc mc ms free) (vx_Post XC mc ms free) := vx_callBack cw.1 hM hp.1
  obtain ⟨⟨-, -, -, -, -, -, hcode, hini, hy, hlen, hl⟩, hstt⟩ := cw
  obtain ⟨hx, hb, hml, ho, -⟩ := S
  intro T hT X
  rcases vx_callS X hx (bytes := bytes) (maxL := maxL) (ret := ret) ho hl hstt hini hcode hy hK hg (hsize.trans hml.symm) (argsL := As) (rest := rest) (fun sig h => hn.trans (hlen sig h)) hstack hW (by rw [hb]; exact hdg)
    (fun vm₁ hW₁ => ⟨hf.1, hf.2, hp.2 (T.setVm vm₁) hT hW₁⟩) with ⟨v, vm₁, ⟨U', l2, c2, s2⟩, hW₁, X', ⟨g', mk, t, L, e1, e2, hq, h1, hL, h2, h3⟩, st⟩ | ⟨q, vm₁, ⟨U', l2, c2, s2⟩, hW₁, X', ⟨g', mk, t, L, E, ce, e1, e2, hq, hce, hcv, hcl, h1, hL, h2, h3⟩, st⟩
  · dsimp only [Pt.U, Pt.locs, Pt.cells, Pt.slots] at X' e1 e2 h1 h2 h3 st
    subst h1; subst h2; subst h3
    exact Or.inl ⟨v, (T.setVm vm₁).calling g' mk As.toArray, t, U', L, hT, X', hL, e1, e2, hq, st⟩
  · dsimp only [Pt.U, Pt.locs, Pt.cells, Pt.slots] at X' e1 e2 h1 h2 h3 st hcl
    subst h1; subst h2; subst h3
    exact Or.inr ⟨q, (T.setVm vm₁).calling g' mk As.toArray, t, U', L, E, ce, hT, X', hL, e1, e2, hq, hce, hcv, vx_cls hW₁ hcl, st⟩
end Runs
section Rows
variable {p : Program} {l : Launch} {e : Env} {R : Room} {s : State} {m : MethodId} {args : Array Value} {below : List Frame} {meth : Method} {c : Code} {H : Heap} {locs : List Loc} {cells slots : Nat} {Q : State → Prop}
variable {mc ms : Nat} {free : Addr → Prop} {A0 A1 : Nat → Prop} {H0 : Heap} {a : Array Value} {pc : Nat} {ls : Array Slot} {st0 rest : List Value}
theorem vx_keep {st₀ t T' : State} {L : List Loc} (h0 : st₀.heap = H) (e1 : T'.heap = t.heap) (hS : va_S A0 H0 H locs) (hA : ∀ q, q < H.size → A1 q → A0 q) (hf : ∀ q, free q → A0 q) (hL : ∀ q ∈ L, free q.base) (hF : va_F A1 st₀ t) :
    H.size ≤ T'.heap.size ∧ (∀ q : Nat, q < H.size → ¬ A1 q → T'.heap[q]? = H[q]?) ∧ va_S A0 H0 T'.heap (locs ++ L) := by
  obtain ⟨hz, hk⟩ := hF
  rw [h0] at hz hk
  exact ⟨by rw [e1]; exact hz, fun q h1 h2 => by rw [e1]; exact hk q h1 h2,
    ⟨Nat.le_trans hS.1 (by rw [e1]; exact hz), fun q h1 h2 => by rw [e1, hk q (Nat.lt_of_lt_of_le h1 hS.1) (fun z => h2 (hA q (Nat.lt_of_lt_of_le h1 hS.1) z))]; exact hS.2.1 q h1 h2, fun q hq => by
      rcases List.mem_append.mp hq with h | h
      · exact hS.2.2 q h
      · exact hf _ (hL q h)⟩⟩
theorem vx_calli {S SX : Type} {post : Int32 → S → Prop} {px : SX → Prop} {B : S → State → Prop} {BX : String → SX → State → Prop} {AX : Nat → Prop} (hr : vx_Run p l e R s m args below meth c H locs cells slots mc ms (F0 m pc ls st0) rest (va_Qi post B A1 a) (vx_X px BX AX) free) (hS : va_S A0 H0 H locs) (hA : ∀ q, q < H.size → A1 q → A0 q) (hf : ∀ q, free q → A0 q) (hAX : ∀ q, q < H.size → AX q → A0 q)
    (kx : ∀ (E : String) (ce : Cell) (q9 : Addr) (u : SX) (t : State) (H1 : Heap) (locs1 : List Loc), t.heap = H1 → s.vm.Alike t.vm → px u → BX E u t → H.size ≤ H1.size → (∀ q : Nat, q < H.size → ¬ AX q → H1[q]? = H[q]?) → va_S A0 H0 H1 locs1 → H1[q9]? = some ce → ce.vm = .none → s.vm.findClass E = some ce.cls → vx_W p l e R s m args below meth c H1 locs1 (cells + mc) (slots + ms) Q (F0 m pc ls rest) q9)
    (kk : ∀ (r : Int32) (u : S) (t : State) (H1 : Heap) (locs1 : List Loc), t.heap = H1 → s.vm.Alike t.vm → post r u → B u t → H.size ≤ H1.size → (∀ q : Nat, q < H.size → ¬ A1 q → H1[q]? = H[q]?) → va_S A0 H0 H1 locs1 → W p l e R s m args below meth c H1 locs1 (cells + mc) (slots + ms) Q (F0 m (pc + 3) ls (.int r :: rest))) : W p l e R s m args below meth c H locs cells slots Q (F0 m pc ls st0) := by
  intro T hT X
  rcases hr T hT X with ⟨v, st₀, t, T', L, h0, X', hL, e1, e2, ⟨⟨r, u, hv, hp, hb⟩, hF⟩, st⟩ | ⟨q, st₀, t, T', L, E, ce, h0, X', hL, e1, e2, ⟨u, hp, hb, hF⟩, hce, hcv, hcl, st⟩
  · cases hv
    obtain ⟨k1, k2, k3⟩ := vx_keep h0 e1 hS hA hf hL hF
    obtain ⟨t2, a1, b1⟩ := kk r u t T'.heap (locs ++ L) e1.symm (by rw [← e2]; exact X'.warmed.alike) hp hb k1 k2 k3 T' rfl X'
    exact ⟨t2, st t2 a1, b1⟩
  · obtain ⟨k1, k2, k3⟩ := vx_keep h0 e1 hS hAX hf hL hF
    obtain ⟨t2, a1, b1⟩ := kx E ce q u t T'.heap (locs ++ L) e1.symm (by rw [← e2]; exact X'.warmed.alike) hp hb k1 k2 k3 (by rw [e1]; exact hce) hcv hcl T' rfl X'
    exact ⟨t2, st.trans a1, b1⟩
theorem vx_calll {S SX : Type} {post : Int64 → S → Prop} {px : SX → Prop} {B : S → State → Prop} {BX : String → SX → State → Prop} {AX : Nat → Prop} (hr : vx_Run p l e R s m args below meth c H locs cells slots mc ms (F0 m pc ls st0) rest (va_Ql post B A1 a) (vx_X px BX AX) free) (hS : va_S A0 H0 H locs) (hA : ∀ q, q < H.size → A1 q → A0 q) (hf : ∀ q, free q → A0 q) (hAX : ∀ q, q < H.size → AX q → A0 q)
    (kx : ∀ (E : String) (ce : Cell) (q9 : Addr) (u : SX) (t : State) (H1 : Heap) (locs1 : List Loc), t.heap = H1 → s.vm.Alike t.vm → px u → BX E u t → H.size ≤ H1.size → (∀ q : Nat, q < H.size → ¬ AX q → H1[q]? = H[q]?) → va_S A0 H0 H1 locs1 → H1[q9]? = some ce → ce.vm = .none → s.vm.findClass E = some ce.cls → vx_W p l e R s m args below meth c H1 locs1 (cells + mc) (slots + ms) Q (F0 m pc ls rest) q9)
    (kk : ∀ (r : Int64) (u : S) (t : State) (H1 : Heap) (locs1 : List Loc), t.heap = H1 → s.vm.Alike t.vm → post r u → B u t → H.size ≤ H1.size → (∀ q : Nat, q < H.size → ¬ A1 q → H1[q]? = H[q]?) → va_S A0 H0 H1 locs1 → W p l e R s m args below meth c H1 locs1 (cells + mc) (slots + ms) Q (F0 m (pc + 3) ls (.long r :: rest))) : W p l e R s m args below meth c H locs cells slots Q (F0 m pc ls st0) := by
  intro T hT X
  rcases hr T hT X with ⟨v, st₀, t, T', L, h0, X', hL, e1, e2, ⟨⟨r, u, hv, hp, hb⟩, hF⟩, st⟩ | ⟨q, st₀, t, T', L, E, ce, h0, X', hL, e1, e2, ⟨u, hp, hb, hF⟩, hce, hcv, hcl, st⟩
  · cases hv
    obtain ⟨k1, k2, k3⟩ := vx_keep h0 e1 hS hA hf hL hF
    obtain ⟨t2, a1, b1⟩ := kk r u t T'.heap (locs ++ L) e1.symm (by rw [← e2]; exact X'.warmed.alike) hp hb k1 k2 k3 T' rfl X'
    exact ⟨t2, st t2 a1, b1⟩
  · obtain ⟨k1, k2, k3⟩ := vx_keep h0 e1 hS hAX hf hL hF
    obtain ⟨t2, a1, b1⟩ := kx E ce q u t T'.heap (locs ++ L) e1.symm (by rw [← e2]; exact X'.warmed.alike) hp hb k1 k2 k3 (by rw [e1]; exact hce) hcv hcl T' rfl X'
    exact ⟨t2, st.trans a1, b1⟩
theorem vx_callf {S SX : Type} {post : UInt32 → S → Prop} {px : SX → Prop} {B : S → State → Prop} {BX : String → SX → State → Prop} {AX : Nat → Prop} (hr : vx_Run p l e R s m args below meth c H locs cells slots mc ms (F0 m pc ls st0) rest (va_Qf post B A1 a) (vx_X px BX AX) free) (hS : va_S A0 H0 H locs) (hA : ∀ q, q < H.size → A1 q → A0 q) (hf : ∀ q, free q → A0 q) (hAX : ∀ q, q < H.size → AX q → A0 q)
    (kx : ∀ (E : String) (ce : Cell) (q9 : Addr) (u : SX) (t : State) (H1 : Heap) (locs1 : List Loc), t.heap = H1 → s.vm.Alike t.vm → px u → BX E u t → H.size ≤ H1.size → (∀ q : Nat, q < H.size → ¬ AX q → H1[q]? = H[q]?) → va_S A0 H0 H1 locs1 → H1[q9]? = some ce → ce.vm = .none → s.vm.findClass E = some ce.cls → vx_W p l e R s m args below meth c H1 locs1 (cells + mc) (slots + ms) Q (F0 m pc ls rest) q9)
    (kk : ∀ (r : UInt32) (u : S) (t : State) (H1 : Heap) (locs1 : List Loc), t.heap = H1 → s.vm.Alike t.vm → post r u → B u t → H.size ≤ H1.size → (∀ q : Nat, q < H.size → ¬ A1 q → H1[q]? = H[q]?) → va_S A0 H0 H1 locs1 → W p l e R s m args below meth c H1 locs1 (cells + mc) (slots + ms) Q (F0 m (pc + 3) ls (.float r :: rest))) : W p l e R s m args below meth c H locs cells slots Q (F0 m pc ls st0) := by
  intro T hT X
  rcases hr T hT X with ⟨v, st₀, t, T', L, h0, X', hL, e1, e2, ⟨⟨r, u, hv, hp, hb⟩, hF⟩, st⟩ | ⟨q, st₀, t, T', L, E, ce, h0, X', hL, e1, e2, ⟨u, hp, hb, hF⟩, hce, hcv, hcl, st⟩
  · cases hv
    obtain ⟨k1, k2, k3⟩ := vx_keep h0 e1 hS hA hf hL hF
    obtain ⟨t2, a1, b1⟩ := kk r u t T'.heap (locs ++ L) e1.symm (by rw [← e2]; exact X'.warmed.alike) hp hb k1 k2 k3 T' rfl X'
    exact ⟨t2, st t2 a1, b1⟩
  · obtain ⟨k1, k2, k3⟩ := vx_keep h0 e1 hS hAX hf hL hF
    obtain ⟨t2, a1, b1⟩ := kx E ce q u t T'.heap (locs ++ L) e1.symm (by rw [← e2]; exact X'.warmed.alike) hp hb k1 k2 k3 (by rw [e1]; exact hce) hcv hcl T' rfl X'
    exact ⟨t2, st.trans a1, b1⟩
theorem vx_calld {S SX : Type} {post : UInt64 → S → Prop} {px : SX → Prop} {B : S → State → Prop} {BX : String → SX → State → Prop} {AX : Nat → Prop} (hr : vx_Run p l e R s m args below meth c H locs cells slots mc ms (F0 m pc ls st0) rest (va_Qd post B A1 a) (vx_X px BX AX) free) (hS : va_S A0 H0 H locs) (hA : ∀ q, q < H.size → A1 q → A0 q) (hf : ∀ q, free q → A0 q) (hAX : ∀ q, q < H.size → AX q → A0 q)
    (kx : ∀ (E : String) (ce : Cell) (q9 : Addr) (u : SX) (t : State) (H1 : Heap) (locs1 : List Loc), t.heap = H1 → s.vm.Alike t.vm → px u → BX E u t → H.size ≤ H1.size → (∀ q : Nat, q < H.size → ¬ AX q → H1[q]? = H[q]?) → va_S A0 H0 H1 locs1 → H1[q9]? = some ce → ce.vm = .none → s.vm.findClass E = some ce.cls → vx_W p l e R s m args below meth c H1 locs1 (cells + mc) (slots + ms) Q (F0 m pc ls rest) q9)
    (kk : ∀ (r : UInt64) (u : S) (t : State) (H1 : Heap) (locs1 : List Loc), t.heap = H1 → s.vm.Alike t.vm → post r u → B u t → H.size ≤ H1.size → (∀ q : Nat, q < H.size → ¬ A1 q → H1[q]? = H[q]?) → va_S A0 H0 H1 locs1 → W p l e R s m args below meth c H1 locs1 (cells + mc) (slots + ms) Q (F0 m (pc + 3) ls (.double r :: rest))) : W p l e R s m args below meth c H locs cells slots Q (F0 m pc ls st0) := by
  intro T hT X
  rcases hr T hT X with ⟨v, st₀, t, T', L, h0, X', hL, e1, e2, ⟨⟨r, u, hv, hp, hb⟩, hF⟩, st⟩ | ⟨q, st₀, t, T', L, E, ce, h0, X', hL, e1, e2, ⟨u, hp, hb, hF⟩, hce, hcv, hcl, st⟩
  · cases hv
    obtain ⟨k1, k2, k3⟩ := vx_keep h0 e1 hS hA hf hL hF
    obtain ⟨t2, a1, b1⟩ := kk r u t T'.heap (locs ++ L) e1.symm (by rw [← e2]; exact X'.warmed.alike) hp hb k1 k2 k3 T' rfl X'
    exact ⟨t2, st t2 a1, b1⟩
  · obtain ⟨k1, k2, k3⟩ := vx_keep h0 e1 hS hAX hf hL hF
    obtain ⟨t2, a1, b1⟩ := kx E ce q u t T'.heap (locs ++ L) e1.symm (by rw [← e2]; exact X'.warmed.alike) hp hb k1 k2 k3 (by rw [e1]; exact hce) hcv hcl T' rfl X'
    exact ⟨t2, st.trans a1, b1⟩
theorem vx_callv {S SX : Type} {post : S → Prop} {px : SX → Prop} {B : S → State → Prop} {BX : String → SX → State → Prop} {AX : Nat → Prop} (hr : vx_Run p l e R s m args below meth c H locs cells slots mc ms (F0 m pc ls st0) rest (va_Qv post B A1 a) (vx_X px BX AX) free) (hS : va_S A0 H0 H locs) (hA : ∀ q, q < H.size → A1 q → A0 q) (hf : ∀ q, free q → A0 q) (hAX : ∀ q, q < H.size → AX q → A0 q)
    (kx : ∀ (E : String) (ce : Cell) (q9 : Addr) (u : SX) (t : State) (H1 : Heap) (locs1 : List Loc), t.heap = H1 → s.vm.Alike t.vm → px u → BX E u t → H.size ≤ H1.size → (∀ q : Nat, q < H.size → ¬ AX q → H1[q]? = H[q]?) → va_S A0 H0 H1 locs1 → H1[q9]? = some ce → ce.vm = .none → s.vm.findClass E = some ce.cls → vx_W p l e R s m args below meth c H1 locs1 (cells + mc) (slots + ms) Q (F0 m pc ls rest) q9)
    (kk : ∀ (u : S) (t : State) (H1 : Heap) (locs1 : List Loc), t.heap = H1 → s.vm.Alike t.vm → post u → B u t → H.size ≤ H1.size → (∀ q : Nat, q < H.size → ¬ A1 q → H1[q]? = H[q]?) → va_S A0 H0 H1 locs1 → W p l e R s m args below meth c H1 locs1 (cells + mc) (slots + ms) Q (F0 m (pc + 3) ls (rest))) : W p l e R s m args below meth c H locs cells slots Q (F0 m pc ls st0) := by
  intro T hT X
  rcases hr T hT X with ⟨v, st₀, t, T', L, h0, X', hL, e1, e2, ⟨⟨u, hv, hp, hb⟩, hF⟩, st⟩ | ⟨q, st₀, t, T', L, E, ce, h0, X', hL, e1, e2, ⟨u, hp, hb, hF⟩, hce, hcv, hcl, st⟩
  · cases hv
    obtain ⟨k1, k2, k3⟩ := vx_keep h0 e1 hS hA hf hL hF
    obtain ⟨t2, a1, b1⟩ := kk u t T'.heap (locs ++ L) e1.symm (by rw [← e2]; exact X'.warmed.alike) hp hb k1 k2 k3 T' rfl X'
    exact ⟨t2, st t2 a1, b1⟩
  · obtain ⟨k1, k2, k3⟩ := vx_keep h0 e1 hS hAX hf hL hF
    obtain ⟨t2, a1, b1⟩ := kx E ce q u t T'.heap (locs ++ L) e1.symm (by rw [← e2]; exact X'.warmed.alike) hp hb k1 k2 k3 (by rw [e1]; exact hce) hcv hcl T' rfl X'
    exact ⟨t2, st.trans a1, b1⟩
/-- caught by the row x of this method's table; the rows ahead don't take it -/
theorem vx_catch {own name : String} {E : String} {ce : Cell} {q : Addr} (hown : s.vm.findClass own = some m.cls) (pre : List ExceptionTableEntry) (x : ExceptionTableEntry) (suf : List ExceptionTableEntry) (hsplit : c.exceptionTable.toList = pre ++ x :: suf)
    (hpass : ∀ z ∈ pre, covers z pc = false ∨ (z.catchType ≠ 0 ∧ ∃ nm : String, (Cond.classLink own z.catchType nm).before args s = true ∧ va_Nc E nm s)) (hx : covers x pc = true) (h0 : x.catchType ≠ 0)
    (hlink : (Cond.classLink own x.catchType name).before args s = true) (hcast : (Cond.castable E name).before args s = true) (hcell : H[q]? = some ce) (hv : ce.vm = .none) (hcl : s.vm.findClass E = some ce.cls)
    (kk : W p l e R s m args below meth c H locs cells slots Q (F0 m x.handlerPc ls [.ref q])) : vx_W p l e R s m args below meth c H locs cells slots Q (F0 m pc ls rest) q := by
  intro T hT X
  have hpl : e.platform.magicAccessors = ({} : Platform).magicAccessors := by rw [X.admits.platform]
  obtain ⟨c3, c4, hc3, hc4, hasg⟩ := Cond.castable_spec hcast
  cases Option.some.inj (hc3.symm.trans hcl)
  obtain ⟨c5, hc5, hcl5⟩ := Cond.classLink_spec hown hlink e.platform hpl
  cases Option.some.inj (hc4.symm.trans hc5)
  obtain ⟨vm', X', st⟩ := X.thenCaughtThrough q (g := F0 m pc ls rest) rfl (Steps.refl _) (by rw [hT]; exact hcell) (by rw [hv]; rfl) (by obtain ⟨k9, h9, -⟩ := Vm.findClass_spec hcl; exact ⟨k9, h9⟩) pre x suf hsplit
    (fun z hz => by
      rcases hpass z hz with h | ⟨hz0, nm, hl1, hn1⟩
      · exact Or.inl h
      · obtain ⟨c6, hc6, hcl6⟩ := Cond.classLink_spec hown hl1 e.platform hpl
        obtain ⟨a8, b8, h1, h2, h3⟩ := hn1
        cases Option.some.inj (h1.symm.trans hcl)
        cases Option.some.inj (h2.symm.trans hc6)
        exact Or.inr ⟨hz0, _, hcl6, h3⟩) hx (Or.inr ⟨h0, c4, hcl5, hasg⟩)
  obtain ⟨t, a1, b1⟩ := kk (T.setVm vm') hT X'
  exact ⟨t, st.trans a1, b1⟩
end Rows
section Ends
variable {p : Program} {l : Launch} {e : Env} {R : Room} {s : State} {m : MethodId} {args : Array Value} {below : List Frame} {meth : Method} {c : Code} {H : Heap} {locs : List Loc} {cells slots : Nat} {Q : State → Prop}
variable {mc ms : Nat} {free : Addr → Prop} {A0 A1 : Nat → Prop} {H0 : Heap} {a : Array Value} {ls : Array Slot} {st0 rest : List Value}
variable {Qc : Array Value → State → Outcome → State → Prop} {XC : String → State → State → Prop}
/-- what a body that may throw owes at its end -/
def vx_MQ (below : List Frame) (Qc : Array Value → State → Outcome → State → Prop) (XC : String → State → State → Prop) (a : Array Value) (s : State) (mc ms : Nat) (free : Addr → Prop) : State → Prop := fun t =>
  ∃ o, t.status = .running ∧ Ended t below o ∧ vx_Q Qc XC mc ms free a s o t
theorem vx_ret {g : JFrame} {mc ms : Nat} (k : W p l e R s m args below meth c H locs cells slots (MQ below Qc args s mc ms free) g) : W p l e R s m args below meth c H locs cells slots (vx_MQ below Qc XC args s mc ms free) g := by
  intro T hT X
  obtain ⟨t, a1, o, b1, b2, b3, b4⟩ := k T hT X
  exact ⟨t, a1, o, b1, b2, Or.inl ⟨b3, b4⟩⟩
/-- not caught here: it goes on to the caller -/
theorem vx_widen {g : JFrame} {q : Addr} {k n : Nat} (h1 : cells ≤ k) (h2 : slots ≤ n) (kk : vx_W p l e R s m args below meth c H locs k n Q g q) : vx_W p l e R s m args below meth c H locs cells slots Q g q := fun T hT X => kk T hT (stand_widen X h1 h2)
theorem vx_out {pc : Nat} {E : String} {ce : Cell} {q : Addr} {mc ms : Nat} (hout : ∀ x ∈ c.exceptionTable.toList, covers x pc = false) (hlocks : meth.locks = false) (hcell : H[q]? = some ce) (hv : ce.vm = .none) (hcl : s.vm.findClass E = some ce.cls)
    (hx : ∀ t : State, t.heap = H → s.vm.Alike t.vm → XC E s t) (hf : ∀ z ∈ locs, free z.base) (hc : cells ≤ mc) (hs : slots ≤ ms) :
    vx_W p l e R s m args below meth c H locs cells slots (vx_MQ below Qc XC args s mc ms free) (F0 m pc ls rest) q := by
  intro T hT X
  obtain ⟨st1, hrun, hend, hW, hsm⟩ := X.leaveThrown q (g := F0 m pc ls rest) rfl rfl rfl hout hlocks
  have hcell9 : (T.setFrames (.throwing q :: below)).heap[q]? = some ce := by
    show T.heap[q]? = some ce
    rw [hT]; exact hcell
  exact ⟨_, st1, .threw q, hrun, hend, Or.inr ⟨q, rfl, E, ce, locs, hx _ hT hW.alike, hcell9, hv, hcl, hW, hsm.mono hc hs, hf⟩⟩
theorem vx_frame {U : State} {k n : Nat} (h : s.sameButNew ({ U with vm := s.vm } : State) locs k n) : s.heap.size ≤ U.heap.size ∧ ∀ q : Nat, q < s.heap.size → (∀ z ∈ locs, z.base ≠ q) → U.heap[q]? = s.heap[q]? := by
  obtain ⟨-, h2, -, -, -, h6⟩ := h
  refine ⟨h2, fun q hq hz => ?_⟩
  obtain ⟨c9, e1, e2, e3, e4⟩ := h6 q _ (Array.getElem?_eq_getElem hq)
  have hs : c9.slots = (s.heap[q]).slots := Array.ext_getElem? fun i => e4 i fun hm => hz _ hm rfl
  have h9 : c9 = s.heap[q] := by
    rw [hs] at e2
    exact e2
  have e5 : U.heap[q]? = some c9 := e1
  rw [e5, h9, Array.getElem?_eq_getElem hq]
/-- the words of a throw but the four that speak of the heap -/
def vx_no (w : Cond) : Bool := decide (w ≠ .isRef (.static Bundle.tN "UNASSIGNED_STACK" Bundle.steD)) && decide (w ≠ .isRef (.static Bundle.tN "SUPPRESSED_SENTINEL" Bundle.listD)) && decide (w ≠ .laysStatic Bundle.tN "UNASSIGNED_STACK" Bundle.steD) && decide (w ≠ .laysStatic Bundle.tN "SUPPRESSED_SENTINEL" Bundle.listD)
def vx_at0 (own : String) (ic : Nat) (X : String) (names : List String) : List Cond := (Bundle.ownAtoms0 own ic X names).filter vx_no
def vx_atS (own : String) (ic : Nat) (X : String) (names : List String) : List Cond := (Bundle.ownAtoms own ic X names).filter vx_no
/-- a word that the tables alone decide, or a good one -/
def vx_ot (w : Cond) : Bool := w.onTables || goodWord w
theorem vx_ot_at {args a' : Array Value} {s U : State} {w : Cond} (hW : s.WarmedH U.vm) (hvm : s.vm = U.vm) (hg : vx_ot w = true) (h : w.before args s = true) : w.before a' U = true := by
  simp only [vx_ot, Bool.or_eq_true] at hg
  rcases hg with hg | hg
  · exact va_tabs hg hvm h
  · exact word_at hW (good_of_word hg) h
/-- a list's words: the good ones out of the method's own list, the others by premises of their own -/
theorem vx_hat {args : Array Value} {s : State} {L B : List Cond} (h1 : ∀ w ∈ L.filter goodWord, w.before args s = true) (h2 : ∀ w ∈ L.filter (fun w => !goodWord w), w ∈ B) (h3 : ∀ w ∈ B, w.before args s = true) : ∀ w ∈ L, w.before args s = true := by
  intro w hw
  by_cases g : goodWord w = true
  · exact h1 w (List.mem_filter.mpr ⟨hw, g⟩)
  · refine h3 w (h2 w (List.mem_filter.mpr ⟨hw, ?_⟩))
    show (!goodWord w) = true
    cases hgw : goodWord w
    · rfl
    · exact absurd hgw g
theorem vx_c {args : Array Value} {s : State} {w : Cond} {B : List Cond} (h : w.before args s = true) (t : ∀ w ∈ B, w.before args s = true) : ∀ w' ∈ w :: B, w'.before args s = true := fun w' h' => (List.mem_cons.mp h').elim (fun e => by rw [e]; exact h) (t w')
theorem vx_n {args : Array Value} {s : State} : ∀ w ∈ ([] : List Cond), w.before args s = true := fun _ h => nomatch h
theorem vx_own {args : Array Value} {s : State} {L : List Cond} (h1 : ∀ w ∈ L.filter vx_no, w.before args s = true)
    (hU : (Cond.isRef (.static Bundle.tN "UNASSIGNED_STACK" Bundle.steD)).before args s = true) (hN : (Cond.isRef (.static Bundle.tN "SUPPRESSED_SENTINEL" Bundle.listD)).before args s = true)
    (lU : (Cond.laysStatic Bundle.tN "UNASSIGNED_STACK" Bundle.steD).before args s = true) (lN : (Cond.laysStatic Bundle.tN "SUPPRESSED_SENTINEL" Bundle.listD).before args s = true) : ∀ w ∈ L, w.before args s = true := by
  intro w hw
  by_cases e1 : w = .isRef (.static Bundle.tN "UNASSIGNED_STACK" Bundle.steD)
  · rw [e1]; exact hU
  · by_cases e2 : w = .isRef (.static Bundle.tN "SUPPRESSED_SENTINEL" Bundle.listD)
    · rw [e2]; exact hN
    · by_cases e3 : w = .laysStatic Bundle.tN "UNASSIGNED_STACK" Bundle.steD
      · rw [e3]; exact lU
      · by_cases e4 : w = .laysStatic Bundle.tN "SUPPRESSED_SENTINEL" Bundle.listD
        · rw [e4]; exact lN
        · exact h1 w (List.mem_filter.mpr ⟨hw, by unfold vx_no; rw [decide_eq_true e1, decide_eq_true e2, decide_eq_true e3, decide_eq_true e4]; rfl⟩)
/-- where a static field lies, its class's statics cell in H -/
def vx_L (C n d : String) (A : Nat → Prop) (U : State) (H : Heap) : Prop := ∃ (c : ClassId) (k : Class) (i : Nat) (f : Field) (a : Nat) (cell : Cell), U.vm.findClass C = some c ∧ U.fieldFound? C n d = some (c, k, i, f) ∧ f.isStatic = true ∧ k.statics = some a ∧ H[a]? = some cell ∧ cell.vm.isStatics = true ∧ cell.cls = c ∧ f.slot < cell.slots.size ∧ k.staticTypes[f.slot]? = some f.type ∧ ¬ A a
theorem vx_L.moved {C n d : String} {A : Nat → Prop} {u U : State} {H : Heap} (hvm : u.vm.Alike U.vm) (h : vx_L C n d A u H) : vx_L C n d A U H := by
  obtain ⟨c, k, i, f, a, cell, h1, h2, h3, h4, h5, h6, h7, h8, h9, h10⟩ := h
  obtain ⟨k', hi', he⟩ := State.fieldFound?_setVm hvm h2
  exact ⟨c, k', i, f, a, cell, by rw [hvm.findClass]; exact h1, hi', h3, by rw [he]; exact h4, h5, h6, h7, h8, by rw [he]; exact h9, h10⟩
theorem vx_L.kept {C n d : String} {A : Nat → Prop} {U : State} {H H1 : Heap} (h : vx_L C n d A U H) (hq : ∀ a : Nat, a < H.size → ¬ A a → H1[a]? = H[a]?) : vx_L C n d A U H1 := by
  obtain ⟨c, k, i, f, a, cell, h1, h2, h3, h4, h5, h6, h7, h8, h9, h10⟩ := h
  exact ⟨c, k, i, f, a, cell, h1, h2, h3, h4, by rw [hq a (Array.getElem?_eq_some_iff.mp h5).1 h10]; exact h5, h6, h7, h8, h9, h10⟩
theorem vx_L.narrow {C n d : String} {A B : Nat → Prop} {U : State} {H : Heap} (h : vx_L C n d A U H) (hAB : ∀ q, B q → A q) : vx_L C n d B U H := by
  obtain ⟨c, k, i, f, a, cell, h1, h2, h3, h4, h5, h6, h7, h8, h9, h10⟩ := h
  exact ⟨c, k, i, f, a, cell, h1, h2, h3, h4, h5, h6, h7, h8, h9, fun z => h10 (hAB _ z)⟩
theorem vx_L.word {C n d : String} {A : Nat → Prop} {s : State} {args : Array Value} (h : vx_L C n d A s s.heap) : (Cond.laysStatic C n d).before args s = true := by
  obtain ⟨c, k, i, f, a, cell, h1, h2, h3, h4, h5, h6, h7, h8, h9, -⟩ := h
  show (Cond.laysStatic C n d).holds args s none s [] = true
  exact Cond.laysStatic_of h1 h2 h3 h4 h5 h6 h7 h8 h9
/-- .. and what it holds: null or some reference -/
def vx_Zq (C n d : String) (A : Nat → Prop) (U : State) (H : Heap) : Prop := va_Zq C n d A U H ∧ vx_L C n d A U H
theorem vx_Zq.moved {C n d : String} {A : Nat → Prop} {u U : State} {H : Heap} (hvm : u.vm.Alike U.vm) (h : vx_Zq C n d A u H) : vx_Zq C n d A U H := ⟨va_Zq.moved hvm h.1, vx_L.moved hvm h.2⟩
theorem vx_Zq.kept {C n d : String} {A : Nat → Prop} {U : State} {H H1 : Heap} (h : vx_Zq C n d A U H) (hq : ∀ a : Nat, a < H.size → ¬ A a → H1[a]? = H[a]?) : vx_Zq C n d A U H1 := ⟨va_Zq.kept h.1 hq, vx_L.kept h.2 hq⟩
theorem vx_Zq.narrow {C n d : String} {A B : Nat → Prop} {U : State} {H : Heap} (h : vx_Zq C n d A U H) (hAB : ∀ q, B q → A q) : vx_Zq C n d B U H := ⟨va_Zq.narrow h.1 hAB, vx_L.narrow h.2 hAB⟩
theorem vx_Zqof {args : Array Value} {s : State} {C n d : String} {A : Nat → Prop} (hl : (Cond.laysStatic C n d).before args s = true) (hini : (Cond.initialized C).before args s = true) (h : (Cond.isRef (.static C n d)).before args s = true) (hA : ∀ a : Nat, a < s.heap.size → ¬ A a) : vx_Zq C n d A s s.heap := by
  refine ⟨va_Zqof hl hini h hA, ?_⟩
  obtain ⟨c, k, i, f, a, cell, h1, h2, h3, h4, h5, h6, h7, h8, h9⟩ := Cond.laysStatic_spec hl
  exact ⟨c, k, i, f, a, cell, h1, h2, h3, h4, h5, h6, h7, h8, h9, hA a (Array.getElem?_eq_some_iff.mp h5).1⟩
theorem vx_isRef {C n d : String} {v : Value} {A : Nat → Prop} {s : State} {args : Array Value} (h : va_Z C n d v A s s.heap) (hv : v.isRef = true) : (Cond.isRef (.static C n d)).before args s = true := by
  obtain ⟨cf, kf, fi, f, a, cell, h1, h2, h3, h4, h5, h6, h7, -⟩ := h
  have he : (Term.static C n d).eval args s none [] s = some v := by
    simp [Term.eval, State.fieldNamed?, h1, h2, h4, h5, h6, h7]
  simp only [Cond.before, Cond.holds, Cond.value, he]
  cases v <;> simp_all [Value.isRef]
theorem vx_isRefq {C n d : String} {A : Nat → Prop} {s : State} {args : Array Value} (h : va_Zq C n d A s s.heap) : (Cond.isRef (.static C n d)).before args s = true := by
  rcases h with h | ⟨t, h⟩
  · exact vx_isRef h rfl
  · exact vx_isRef h rfl
/-- the same frame, seen from here: as if the method were called anew in this heap -/
theorem vx_rebase {T : State} (X : Stand p l e R s m args below meth c T locs cells slots) {R' : Room} (hf : R'.frames ≤ R.frames) (hl : R'.locals ≤ R.locals) (hc : cells + R'.cells ≤ R.cells) (hs : slots + R'.slots ≤ R.slots) :
    Stand p l e R' ((T.setVm s.vm).setFrames (.invoking m args :: below)) m args below meth c T [] 0 0 := by
  have htop : (T.setVm s.vm).topJava?.isSome := X.here.top
  have hF : ((T.setVm s.vm).setFrames (.invoking m args :: below)).frames = .invoking m args :: below := State.frames_setFrames _ (State.cur_lt_of_top htop)
  obtain ⟨g₀, hg0⟩ := Option.isSome_iff_exists.mp htop
  obtain ⟨r, hr⟩ := State.topJava?_eq_some.mp hg0
  have hl9 : e.platform.stackLimits (T.setVm s.vm).me = e.platform.stackLimits s.me := X.limits
  have hb9 : (T.setVm s.vm).me.stackBytes = s.me.stackBytes := X.bytes
  refine ⟨X.admits, X.cas, X.clock, hF, ?_, X.hears, X.method, X.code, X.here, X.tail, X.warmed, ?_, ?_, ?_⟩
  · have h := X.room
    have hU : ((T.setVm s.vm).setFrames (.invoking m args :: below)).localsInUse = s.localsInUse := by
      rw [State.localsInUse_invoking hF (meth := meth) (c := c) X.method X.code, State.localsInUse_invoking X.frames X.method X.code]
    simp only [State.hasRoom, Bool.and_eq_true, decide_eq_true_eq] at h ⊢
    obtain ⟨⟨⟨⟨h1, h2, h3, h4, h5, h6⟩, h7⟩, h8⟩, h9⟩ := h
    rw [X.frames, List.length_cons] at h2 h3
    have q1 := X.heapSize
    have q2 := X.used
    simp only [hF, hU, List.length_cons, State.stackLimits_setFrames, State.stackBytes_setFrames, hl9, hb9]
    refine ⟨⟨⟨⟨by omega, by omega, by omega, by omega, by omega, h6⟩, ?_⟩, ?_⟩, X.book⟩
    · show T.heap.size + R'.cells ≤ e.platform.maxCells
      omega
    · show T.slotsUsed + R'.slots ≤ e.platform.maxSlots
      omega
  · rw [State.stackLimits_setFrames]; rfl
  · rw [State.stackBytes_setFrames]; rfl
  · refine ⟨?_, Nat.le_refl _, Nat.le_refl _, ?_, ?_, fun a c9 h9 => ⟨c9, h9, rfl, rfl, fun _ _ => rfl⟩⟩
    · obtain ⟨t, ht, -⟩ := State.frames_cons hr
      show T.setVm s.vm = { ((T.setVm s.vm).setFrames (.invoking m args :: below)).setFrames (T.setVm s.vm).frames with heap := T.heap, slotsUsed := T.slotsUsed }
      rw [State.setFrames_setFrames, State.setFrames_self ht]
      rfl
    · show T.slotsUsed = T.slotsUsed + ((T.heap.toList.drop T.heap.size).map (·.slots.size)).sum
      rw [List.drop_eq_nil_of_le (Nat.le_of_eq Array.length_toList)]
      rfl
    · show ((T.heap.toList.drop T.heap.size).map (·.slots.size)).sum ≤ 0
      rw [List.drop_eq_nil_of_le (Nat.le_of_eq Array.length_toList)]
      exact Nat.le_refl _
/-- 'throw new E()': new; dup; invokespecial; athrow -/
theorem vx_throw0 {cc : ByteArray} {pc : Nat} (hexec : p.tables.exec = Jvm.exec) (hb : c.code = cc) (hl : l.stackTraces = false) {own cls : String} {names : List String} {ik ic mc ms : Nat} {A : Nat → Prop}
    (hown : s.vm.findClass own = some m.cls) (hcls : Bundle.fit cls = true) (hnames : ∀ n ∈ names, Bundle.fit n = true)
    (hk : (Cond.classLink own ik cls).before args s = true) (hini : (Cond.initialized cls).before args s = true) (hat : ∀ w ∈ vx_at0 own ic cls names, w.before args s = true)
    (hgood : ∀ w ∈ Cond.classLink own ik cls :: Cond.initialized cls :: vx_at0 own ic cls names, vx_ot w = true)
    (hU : vx_Zq Bundle.tN "UNASSIGNED_STACK" Bundle.steD A s s.heap) (hN : vx_Zq Bundle.tN "SUPPRESSED_SENTINEL" Bundle.listD A s s.heap) (hS : va_S A s.heap H locs) (hsize : ls.size = c.maxLocals)
    (d0 : decode cc pc = .ok (.new ik, 3)) (d3 : decode cc (pc + 3) = .ok (.dup, 1)) (d4 : decode cc (pc + 4) = .ok (.invokespecial ic, 3)) (d7 : decode cc (pc + 7) = .ok (.athrow, 1))
    (hout : ∀ x ∈ c.exceptionTable.toList, covers x (pc + 7) = false)
    (hRframes : names.length + 3 < R.frames) (hRlocals : (rest.map fun v => v.category).sum + (13 * (names.length + 1) + 42) ≤ R.locals) (hRcells : cells + 1 ≤ R.cells) (hRslots : slots + 6 ≤ R.slots) (hlocks : meth.locks = false)
    (hx : ∀ t : State, s.vm.Alike t.vm → H.size ≤ t.heap.size → (∀ q : Nat, q < H.size → t.heap[q]? = H[q]?) → XC cls s t)
    (hf : ∀ z ∈ locs, free z.base) (hc : cells + 1 ≤ mc) (hs : slots + 6 ≤ ms) :
    W p l e R s m args below meth c H locs cells slots (vx_MQ below Qc XC args s mc ms free) (F0 m pc ls rest) := by
  intro T hT X
  have htr : e.platform.stackTraces = false := (show e.platform.stackTraces = l.stackTraces by rw [X.admits.platform]).trans hl
  have Y := vx_rebase X (R' := { frames := R.frames, locals := R.locals, cells := 1, slots := 6 }) (Nat.le_refl _) (Nat.le_refl _) hRcells hRslots
  obtain ⟨s', hA⟩ : ∃ z, z = (T.setVm s.vm).setFrames (.invoking m args :: below) := ⟨_, rfl⟩
  rw [← hA] at Y
  have hvm : s'.vm = s.vm := by rw [hA]; rfl
  have hhp : s'.heap = H := by rw [hA]; exact hT
  have hW0 : s.WarmedH s'.vm := by rw [hvm]; exact State.WarmedH.refl s
  have hat' : ∀ w ∈ vx_at0 own ic cls names, w.before args s' = true := fun w hw => vx_ot_at hW0 hvm.symm (hgood w (List.mem_cons_of_mem _ (List.mem_cons_of_mem _ hw))) (hat w hw)
  have hk' : (Cond.classLink own ik cls).before args s' = true := vx_ot_at hW0 hvm.symm (hgood _ List.mem_cons_self) hk
  have hini' : (Cond.initialized cls).before args s' = true := vx_ot_at hW0 hvm.symm (hgood _ (List.mem_cons_of_mem _ List.mem_cons_self)) hini
  have hU' : vx_Zq Bundle.tN "UNASSIGNED_STACK" Bundle.steD A s' s'.heap := by rw [hhp]; exact vx_Zq.moved hW0.alike (hU.kept hS.2.1)
  have hN' : vx_Zq Bundle.tN "SUPPRESSED_SENTINEL" Bundle.listD A s' s'.heap := by rw [hhp]; exact vx_Zq.moved hW0.alike (hN.kept hS.2.1)
  have h : ∀ w ∈ Bundle.ownAtoms0 own ic cls names, w.before args s' = true := vx_own hat' (vx_isRefq hU'.1) (vx_isRefq hN'.1) hU'.2.word hN'.2.word
  have hown' : s'.vm.findClass own = some m.cls := by rw [hvm]; exact hown
  have hins : (Cond.instantiable cls 6).before args s' = true := h _ (by simp [Bundle.ownAtoms0])
  obtain ⟨vm₁, cX, kX, hfX, hkX, -, -, X₁, st1⟩ := Y.newCold hexec (own := own) (C := cls) (index := ik) (n := 6) hown' hk' hins hini'
    (g := F0 m pc ls rest) rfl (by rw [hb]; exact d0) (Nat.le_refl _) (Nat.le_refl _)
  generalize hT1 : (T.setVm vm₁).pushCell { cls := cX, slots := kX.instanceTypes.map defaultValue, vm := .none } = T1 at X₁ st1
  have hcat : (Value.ref T.heap.size).category = 1 := rfl
  have hcellA : T1.heap[T.heap.size]? = some (freshCell cX kX) := by rw [← hT1]; exact State.heap_pushCell_size _ _
  have d3' : decode c.code (pc + 3) = .ok (.dup, 1) := by rw [hb]; exact d3
  obtain ⟨U, hsteps, hrun, hend, hW, hsame, ce, hce, hO⟩ := X₁.ctorThrow0 hexec htr (own := own) (cls := cls) (names := names) (ic := ic) hown' hcls hnames h (fun x hx => nomatch hx) hfX hkX hcellA (by rw [hhp, hT]; exact Nat.le_refl _)
    (g := { method := m, pc := pc + 4, locals := ls, stack := .ref T.heap.size :: .ref T.heap.size :: rest, locked := none }) rfl hsize rfl rfl (rest := rest) rfl
    (by rw [hb]; exact d4) (by rw [hb]; exact d7) hout hRframes (by simp only [List.map_cons, List.sum_cons, hcat]; omega) hlocks
  obtain ⟨f1, f2⟩ := vx_frame hsame
  rw [hhp] at f1 f2
  have hWs : s.WarmedH U.vm := State.WarmedH.trans hW0 hW
  have hcl : s.vm.findClass cls = some ce.cls := by
    have h9 := hO.cls
    rw [hvm] at h9
    exact h9
  have hall : s.sameButNew ({ U with vm := s.vm } : State) locs mc ms := by
    subst hA
    obtain ⟨e1, e2⟩ := hsame
    rw [State.setFrames_setFrames] at e1
    have h2 : (T.setVm s.vm).sameButNew ({ U with vm := s.vm } : State) [] (0 + 1) (0 + 6) := ⟨e1, e2⟩
    have h3 := X.same.trans h2
    rw [List.append_nil] at h3
    exact h3.mono hc hs
  refine ⟨U, ?_, .threw T.heap.size, hrun, hend, Or.inr ⟨T.heap.size, rfl, cls, ce, locs, hx U hWs.alike f1 (fun q hq => f2 q hq (fun z hz => nomatch hz)), hce, hO.vm, hcl, hWs, hall, hf⟩⟩
  refine st1 _ ?_
  show Steps p.tables e below (T1.setTop { method := m, pc := pc + 3, locals := ls, stack := .ref T.heap.size :: rest, locked := none }) _
  jvm_step X₁.here [X₁.here.top, hexec, d3', Value.category]
  exact hsteps
/-- 'throw new E("text")': new; dup; ldc; invokespecial; athrow -/
theorem vx_throwS {cc : ByteArray} {pc : Nat} (hexec : p.tables.exec = Jvm.exec) (hb : c.code = cc) (hl : l.stackTraces = false) {own cls text : String} {names : List String} {ik is ic mc ms sa : Nat} {A : Nat → Prop}
    (hown : s.vm.findClass own = some m.cls) (hcls : Bundle.fit cls = true) (hnames : ∀ n ∈ names, Bundle.fit n = true)
    (hk : (Cond.classLink own ik cls).before args s = true) (hini : (Cond.initialized cls).before args s = true) (hstr : vk_R own is text sa s) (hat : ∀ w ∈ vx_atS own ic cls names, w.before args s = true)
    (hgood : ∀ w ∈ Cond.classLink own ik cls :: Cond.initialized cls :: vx_atS own ic cls names, vx_ot w = true)
    (hU : vx_Zq Bundle.tN "UNASSIGNED_STACK" Bundle.steD A s s.heap) (hN : vx_Zq Bundle.tN "SUPPRESSED_SENTINEL" Bundle.listD A s s.heap) (hS : va_S A s.heap H locs) (hsize : ls.size = c.maxLocals)
    (d0 : decode cc pc = .ok (.new ik, 3)) (d3 : decode cc (pc + 3) = .ok (.dup, 1)) (d4 : decode cc (pc + 4) = .ok (.ldc is, 2)) (d6 : decode cc (pc + 6) = .ok (.invokespecial ic, 3)) (d9 : decode cc (pc + 9) = .ok (.athrow, 1))
    (hout : ∀ x ∈ c.exceptionTable.toList, covers x (pc + 9) = false)
    (hRframes : names.length + 3 < R.frames) (hRlocals : (rest.map fun v => v.category).sum + (13 * (names.length + 1) + 43) ≤ R.locals) (hRcells : cells + 1 ≤ R.cells) (hRslots : slots + 6 ≤ R.slots) (hlocks : meth.locks = false)
    (hx : ∀ t : State, s.vm.Alike t.vm → H.size ≤ t.heap.size → (∀ q : Nat, q < H.size → t.heap[q]? = H[q]?) → XC cls s t)
    (hf : ∀ z ∈ locs, free z.base) (hc : cells + 1 ≤ mc) (hs : slots + 6 ≤ ms) :
    W p l e R s m args below meth c H locs cells slots (vx_MQ below Qc XC args s mc ms free) (F0 m pc ls rest) := by
  intro T hT X
  have htr : e.platform.stackTraces = false := (show e.platform.stackTraces = l.stackTraces by rw [X.admits.platform]).trans hl
  have Y := vx_rebase X (R' := { frames := R.frames, locals := R.locals, cells := 1, slots := 6 }) (Nat.le_refl _) (Nat.le_refl _) hRcells hRslots
  obtain ⟨s', hA⟩ : ∃ z, z = (T.setVm s.vm).setFrames (.invoking m args :: below) := ⟨_, rfl⟩
  rw [← hA] at Y
  have hvm : s'.vm = s.vm := by rw [hA]; rfl
  have hhp : s'.heap = H := by rw [hA]; exact hT
  have hW0 : s.WarmedH s'.vm := by rw [hvm]; exact State.WarmedH.refl s
  have hat' : ∀ w ∈ vx_atS own ic cls names, w.before args s' = true := fun w hw => vx_ot_at hW0 hvm.symm (hgood w (List.mem_cons_of_mem _ (List.mem_cons_of_mem _ hw))) (hat w hw)
  have hk' : (Cond.classLink own ik cls).before args s' = true := vx_ot_at hW0 hvm.symm (hgood _ List.mem_cons_self) hk
  have hini' : (Cond.initialized cls).before args s' = true := vx_ot_at hW0 hvm.symm (hgood _ (List.mem_cons_of_mem _ List.mem_cons_self)) hini
  have hU' : vx_Zq Bundle.tN "UNASSIGNED_STACK" Bundle.steD A s' s'.heap := by rw [hhp]; exact vx_Zq.moved hW0.alike (hU.kept hS.2.1)
  have hN' : vx_Zq Bundle.tN "SUPPRESSED_SENTINEL" Bundle.listD A s' s'.heap := by rw [hhp]; exact vx_Zq.moved hW0.alike (hN.kept hS.2.1)
  have h : ∀ w ∈ Bundle.ownAtoms own ic cls names, w.before args s' = true := vx_own hat' (vx_isRefq hU'.1) (vx_isRefq hN'.1) hU'.2.word hN'.2.word
  have hown' : s'.vm.findClass own = some m.cls := by rw [hvm]; exact hown
  have hins : (Cond.instantiable cls 6).before args s' = true := h _ (by simp [Bundle.ownAtoms])
  obtain ⟨vm₁, cX, kX, hfX, hkX, -, -, X₁, st1⟩ := Y.newCold hexec (own := own) (C := cls) (index := ik) (n := 6) hown' hk' hins hini'
    (g := F0 m pc ls rest) rfl (by rw [hb]; exact d0) (Nat.le_refl _) (Nat.le_refl _)
  generalize hT1 : (T.setVm vm₁).pushCell { cls := cX, slots := kX.instanceTypes.map defaultValue, vm := .none } = T1 at X₁ st1
  have hcat : (Value.ref T.heap.size).category = 1 := rfl
  have hcellA : T1.heap[T.heap.size]? = some (freshCell cX kX) := by rw [← hT1]; exact State.heap_pushCell_size _ _
  have d3' : decode c.code (pc + 3) = .ok (.dup, 1) := by rw [hb]; exact d3
  have d4' : decode c.code (pc + 4) = .ok (.ldc is, 2) := by rw [hb]; exact d4
  have hstr' : vk_R own is text sa s' := vk_R.warm hW0 hstr
  obtain ⟨U, hsteps, hrun, hend, hW, hsame, ce, hce, hO⟩ := X₁.ctorThrowS hexec htr (own := own) (cls := cls) (names := names) (ic := ic) hown' hcls hnames h (fun x hx => nomatch hx) hfX hkX hcellA (by rw [hhp, hT]; exact Nat.le_refl _) (msg := .ref sa) rfl
    (g := { method := m, pc := pc + 6, locals := ls, stack := .ref sa :: .ref T.heap.size :: .ref T.heap.size :: rest, locked := none }) rfl hsize rfl rfl (rest := rest) rfl
    (by rw [hb]; exact d6) (by rw [hb]; exact d9) hout hRframes (by simp only [List.map_cons, List.sum_cons, hcat]; omega) hlocks
  obtain ⟨f1, f2⟩ := vx_frame hsame
  rw [hhp] at f1 f2
  have hWs : s.WarmedH U.vm := State.WarmedH.trans hW0 hW
  have hcl : s.vm.findClass cls = some ce.cls := by
    have h9 := hO.cls
    rw [hvm] at h9
    exact h9
  have hall : s.sameButNew ({ U with vm := s.vm } : State) locs mc ms := by
    subst hA
    obtain ⟨e1, e2⟩ := hsame
    rw [State.setFrames_setFrames] at e1
    have h2 : (T.setVm s.vm).sameButNew ({ U with vm := s.vm } : State) [] (0 + 1) (0 + 6) := ⟨e1, e2⟩
    have h3 := X.same.trans h2
    rw [List.append_nil] at h3
    exact h3.mono hc hs
  refine ⟨U, ?_, .threw T.heap.size, hrun, hend, Or.inr ⟨T.heap.size, rfl, cls, ce, locs, hx U hWs.alike f1 (fun q hq => f2 q hq (fun z hz => nomatch hz)), hce, hO.vm, hcl, hWs, hall, hf⟩⟩
  refine st1 _ ?_
  show Steps p.tables e below (T1.setTop { method := m, pc := pc + 3, locals := ls, stack := .ref T.heap.size :: rest, locked := none }) _
  jvm_step X₁.here [X₁.here.top, hexec, d3', Value.category]
  exact X₁.ldcString hexec (own := own) (text := text) (index := is) (a := sa) hown' hstr'.1 hstr'.2
    (g := { method := m, pc := pc + 4, locals := ls, stack := .ref T.heap.size :: .ref T.heap.size :: rest, locked := none }) rfl d4' _ hsteps
/-- 'throw new E("text")', the text by a wide index -/
theorem vx_throwSW {cc : ByteArray} {pc : Nat} (hexec : p.tables.exec = Jvm.exec) (hb : c.code = cc) (hl : l.stackTraces = false) {own cls text : String} {names : List String} {ik is ic mc ms sa : Nat} {A : Nat → Prop}
    (hown : s.vm.findClass own = some m.cls) (hcls : Bundle.fit cls = true) (hnames : ∀ n ∈ names, Bundle.fit n = true)
    (hk : (Cond.classLink own ik cls).before args s = true) (hini : (Cond.initialized cls).before args s = true) (hstr : vk_R own is text sa s) (hat : ∀ w ∈ vx_atS own ic cls names, w.before args s = true)
    (hgood : ∀ w ∈ Cond.classLink own ik cls :: Cond.initialized cls :: vx_atS own ic cls names, vx_ot w = true)
    (hU : vx_Zq Bundle.tN "UNASSIGNED_STACK" Bundle.steD A s s.heap) (hN : vx_Zq Bundle.tN "SUPPRESSED_SENTINEL" Bundle.listD A s s.heap) (hS : va_S A s.heap H locs) (hsize : ls.size = c.maxLocals)
    (d0 : decode cc pc = .ok (.new ik, 3)) (d3 : decode cc (pc + 3) = .ok (.dup, 1)) (d4 : decode cc (pc + 4) = .ok (.ldc_w is, 3)) (d7 : decode cc (pc + 7) = .ok (.invokespecial ic, 3)) (d10 : decode cc (pc + 10) = .ok (.athrow, 1))
    (hout : ∀ x ∈ c.exceptionTable.toList, covers x (pc + 10) = false)
    (hRframes : names.length + 3 < R.frames) (hRlocals : (rest.map fun v => v.category).sum + (13 * (names.length + 1) + 43) ≤ R.locals) (hRcells : cells + 1 ≤ R.cells) (hRslots : slots + 6 ≤ R.slots) (hlocks : meth.locks = false)
    (hx : ∀ t : State, s.vm.Alike t.vm → H.size ≤ t.heap.size → (∀ q : Nat, q < H.size → t.heap[q]? = H[q]?) → XC cls s t)
    (hf : ∀ z ∈ locs, free z.base) (hc : cells + 1 ≤ mc) (hs : slots + 6 ≤ ms) :
    W p l e R s m args below meth c H locs cells slots (vx_MQ below Qc XC args s mc ms free) (F0 m pc ls rest) := by
  intro T hT X
  have htr : e.platform.stackTraces = false := (show e.platform.stackTraces = l.stackTraces by rw [X.admits.platform]).trans hl
  have Y := vx_rebase X (R' := { frames := R.frames, locals := R.locals, cells := 1, slots := 6 }) (Nat.le_refl _) (Nat.le_refl _) hRcells hRslots
  obtain ⟨s', hA⟩ : ∃ z, z = (T.setVm s.vm).setFrames (.invoking m args :: below) := ⟨_, rfl⟩
  rw [← hA] at Y
  have hvm : s'.vm = s.vm := by rw [hA]; rfl
  have hhp : s'.heap = H := by rw [hA]; exact hT
  have hW0 : s.WarmedH s'.vm := by rw [hvm]; exact State.WarmedH.refl s
  have hat' : ∀ w ∈ vx_atS own ic cls names, w.before args s' = true := fun w hw => vx_ot_at hW0 hvm.symm (hgood w (List.mem_cons_of_mem _ (List.mem_cons_of_mem _ hw))) (hat w hw)
  have hk' : (Cond.classLink own ik cls).before args s' = true := vx_ot_at hW0 hvm.symm (hgood _ List.mem_cons_self) hk
  have hini' : (Cond.initialized cls).before args s' = true := vx_ot_at hW0 hvm.symm (hgood _ (List.mem_cons_of_mem _ List.mem_cons_self)) hini
  have hU' : vx_Zq Bundle.tN "UNASSIGNED_STACK" Bundle.steD A s' s'.heap := by rw [hhp]; exact vx_Zq.moved hW0.alike (hU.kept hS.2.1)
  have hN' : vx_Zq Bundle.tN "SUPPRESSED_SENTINEL" Bundle.listD A s' s'.heap := by rw [hhp]; exact vx_Zq.moved hW0.alike (hN.kept hS.2.1)
  have h : ∀ w ∈ Bundle.ownAtoms own ic cls names, w.before args s' = true := vx_own hat' (vx_isRefq hU'.1) (vx_isRefq hN'.1) hU'.2.word hN'.2.word
  have hown' : s'.vm.findClass own = some m.cls := by rw [hvm]; exact hown
  have hins : (Cond.instantiable cls 6).before args s' = true := h _ (by simp [Bundle.ownAtoms])
  obtain ⟨vm₁, cX, kX, hfX, hkX, -, -, X₁, st1⟩ := Y.newCold hexec (own := own) (C := cls) (index := ik) (n := 6) hown' hk' hins hini'
    (g := F0 m pc ls rest) rfl (by rw [hb]; exact d0) (Nat.le_refl _) (Nat.le_refl _)
  generalize hT1 : (T.setVm vm₁).pushCell { cls := cX, slots := kX.instanceTypes.map defaultValue, vm := .none } = T1 at X₁ st1
  have hcat : (Value.ref T.heap.size).category = 1 := rfl
  have hcellA : T1.heap[T.heap.size]? = some (freshCell cX kX) := by rw [← hT1]; exact State.heap_pushCell_size _ _
  have d3' : decode c.code (pc + 3) = .ok (.dup, 1) := by rw [hb]; exact d3
  have d4' : decode c.code (pc + 4) = .ok (.ldc_w is, 3) := by rw [hb]; exact d4
  have hstr' : vk_R own is text sa s' := vk_R.warm hW0 hstr
  obtain ⟨U, hsteps, hrun, hend, hW, hsame, ce, hce, hO⟩ := X₁.ctorThrowS hexec htr (own := own) (cls := cls) (names := names) (ic := ic) hown' hcls hnames h (fun x hx => nomatch hx) hfX hkX hcellA (by rw [hhp, hT]; exact Nat.le_refl _) (msg := .ref sa) rfl
    (g := { method := m, pc := pc + 7, locals := ls, stack := .ref sa :: .ref T.heap.size :: .ref T.heap.size :: rest, locked := none }) rfl hsize rfl rfl (rest := rest) rfl
    (by rw [hb]; exact d7) (by rw [hb]; exact d10) hout hRframes (by simp only [List.map_cons, List.sum_cons, hcat]; omega) hlocks
  obtain ⟨f1, f2⟩ := vx_frame hsame
  rw [hhp] at f1 f2
  have hWs : s.WarmedH U.vm := State.WarmedH.trans hW0 hW
  have hcl : s.vm.findClass cls = some ce.cls := by
    have h9 := hO.cls
    rw [hvm] at h9
    exact h9
  have hall : s.sameButNew ({ U with vm := s.vm } : State) locs mc ms := by
    subst hA
    obtain ⟨e1, e2⟩ := hsame
    rw [State.setFrames_setFrames] at e1
    have h2 : (T.setVm s.vm).sameButNew ({ U with vm := s.vm } : State) [] (0 + 1) (0 + 6) := ⟨e1, e2⟩
    have h3 := X.same.trans h2
    rw [List.append_nil] at h3
    exact h3.mono hc hs
  refine ⟨U, ?_, .threw T.heap.size, hrun, hend, Or.inr ⟨T.heap.size, rfl, cls, ce, locs, hx U hWs.alike f1 (fun q hq => f2 q hq (fun z hz => nomatch hz)), hce, hO.vm, hcl, hWs, hall, hf⟩⟩
  refine st1 _ ?_
  show Steps p.tables e below (T1.setTop { method := m, pc := pc + 3, locals := ls, stack := .ref T.heap.size :: rest, locked := none }) _
  jvm_step X₁.here [X₁.here.top, hexec, d3', Value.category]
  exact X₁.ldcStringW hexec (own := own) (text := text) (index := is) (a := sa) hown' hstr'.1 hstr'.2
    (g := { method := m, pc := pc + 4, locals := ls, stack := .ref T.heap.size :: .ref T.heap.size :: rest, locked := none }) rfl d4' _ hsteps
end Ends
section Bodies
variable {l : Launch}
theorem vx_ofW {y : MethodName} {ws ws' : List Cond} {rm : Room} {Pc : Array Value → State → Prop} {Qc : Array Value → State → Outcome → State → Prop} {XC : String → State → State → Prop} {mc ms : Nat} {free : Addr → Prop} {cc : ByteArray} {maxL : Nat} {ret : Option FieldType}
    (hy : plainName y.cls = true) (hw : ws = Cond.code y cc maxL ret :: ws')
    (body : ∀ p e s m args below meth c s₁, BodyLoose p l y (headSpec ws rm) cc maxL ret e s m args below meth c s₁ → c.maxLocals = maxL → (∀ x ∈ c.exceptionTable.toList, False) → Pc args s →
      W p l e (headSpec ws rm).room s m args below meth c s.heap [] 0 0 (vx_MQ below Qc XC args s mc ms free) (entryFrame m args maxL)) : vx_Met l y ws rm Pc Qc XC mc ms free := by
  refine MetFree.of_bodyS (code := cc) (maxLocals := maxL) (ret := ret) hy ?_ ?_
  · intro args s m h hn
    obtain ⟨meth, c, h1, h2, h3, h4, h5, h6, -, -⟩ := Cond.code_spec hn (atoms_spec (ws := ws) h _ (by rw [hw]; exact List.mem_cons_self))
    exact ⟨meth, c, h1, h2, h3, h4, h5, h6⟩
  · intro p e s m args below meth c s₁ B hml hP _
    have hh0 : s₁.heap = s.heap := by rw [B.state]; rfl
    have ht : ∀ x ∈ c.exceptionTable.toList, False := by
      obtain ⟨meth9, c9, h1, h2, -, -, -, -, h7, -⟩ := Cond.code_spec B.named (atoms_spec (ws := ws) B.pre _ (by rw [hw]; exact List.mem_cons_self))
      cases Option.some.inj (h1.symm.trans B.method)
      cases Option.some.inj (h2.symm.trans (Stand.of_body B).code)
      intro x hx
      rw [Array.isEmpty_iff.mp h7] at hx
      cases hx
    obtain ⟨t, a1, o, b1, b2, b3⟩ := body p e s m args below meth c s₁ B hml ht hP s₁ hh0 (Stand.of_body B)
    exact ⟨t, o, a1, b1, b2, b3⟩
/-- the table of a body with handlers -/
theorem vx_table {p : Program} {x y : MethodName} {S : Spec} {cc bytes : ByteArray} {maxL maxL' : Nat} {ret ret' : Option FieldType} {e : Env} {s s₁ : State} {m : MethodId} {args : Array Value} {below : List Frame} {meth : Method} {c : Code} {hh : List (Nat × Nat × Nat × Nat)}
    (B : BodyLoose p l y S cc maxL ret e s m args below meth c s₁) (h : (Cond.codeWith y bytes maxL' ret' hh).before args s = true) : c.exceptionTable.toList = tableOf hh := by
  obtain ⟨m9, meth9, c9, hn9, h1, h2, -, -, h6, -⟩ := Cond.codeWith_spec h
  cases Option.some.inj (hn9.symm.trans B.named)
  cases Option.some.inj (h1.symm.trans B.method)
  cases Option.some.inj (h2.symm.trans (Stand.of_body B).code)
  rw [← h6, table_eq]
end Bodies
end VXA
/-! ===== END ===== -/
/-! ===== BEGIN a static call of a method with an exception table ===== -/
section VXS
variable {p : Program} {l : Launch} {e : Env} {R : Room} {s : State} {m : MethodId} {args : Array Value} {below : List Frame} {meth : Method} {c : Code} {T : State} {H : Heap} {locs : List Loc} {cells slots : Nat}
abbrev vx_CSW (R : Room) (s : State) (args : Array Value) (own : String) (index : Nat) (y : MethodName) (bytes : ByteArray) (maxL : Nat) (ret : Option FieldType) (hh : List (Nat × Nat × Nat × Nat)) (ws : List Cond) (rm : Room) (mc ms n : Nat) : Prop :=
  (rm.cells = mc ∧ rm.slots = ms ∧ rm.frames + 1 ≤ R.frames ∧ 8 + (maxL + 11) + rm.locals ≤ R.locals ∧ (∀ w ∈ ws, ∀ (a' : Array Value) (U : State), s.WarmedH U.vm → w.before a' U = true) ∧ Cond.codeWith y bytes maxL ret hh ∈ ws) ∧
  (Cond.codeWith y bytes maxL ret hh).before args s = true ∧ (Cond.initialized y.cls).before args s = true ∧ (y.cls ≠ "java/lang/invoke/MethodHandle" ∧ y.cls ≠ "java/lang/invoke/VarHandle") ∧
  (∀ sig, parseMethodDescriptor y.desc = some sig → n = sig.parameters.length) ∧ (Cond.methodLink own index y).before args s = true ∧ (Cond.static y).before args s = true
theorem vx_cwSW {own : String} {index maxL mc ms : Nat} {y : MethodName} {bytes : ByteArray} {ret : Option FieldType} {hh : List (Nat × Nat × Nat × Nat)} {Ts ws ws' : List Cond} {rm : Room} (n : Nat) (ht : ∀ w ∈ Ts, w.before args s = true) (hT : GoodIn Ts (va_wsS own index y ws)) (hw : ws = Cond.codeWith y bytes maxL ret hh :: ws') (hrc : rm.cells = mc) (hrs : rm.slots = ms)
    (hd : y.cls ≠ "java/lang/invoke/MethodHandle" ∧ y.cls ≠ "java/lang/invoke/VarHandle" ∧ (parseMethodDescriptor y.desc).map (fun d => d.parameters.length) = some n) (hR : rm.frames + 1 ≤ R.frames ∧ 8 + (maxL + 11) + rm.locals ≤ R.locals) :
    vx_CSW R s args own index y bytes maxL ret hh ws rm mc ms n := by
  have ok : ∀ w ∈ va_wsS own index y ws, w.before args s = true := fun w h => ht w (hT w h).1
  have hG : GoodIn Ts ws := fun w h => hT w (by unfold va_wsS; exact List.mem_append_right _ h)
  have hc : Cond.codeWith y bytes maxL ret hh ∈ ws := by rw [hw]; exact List.mem_cons_self
  refine ⟨⟨hrc, hrs, hR.1, hR.2, pay_in ht hG, hc⟩, ht _ (hG _ hc).1, ok _ (by simp [va_wsS]), ⟨hd.1, hd.2.1⟩, fun sig h => ?_, ok _ (by simp [va_wsS]), ok _ (by simp [va_wsS])⟩
  have h2 := hd.2.2
  rw [h] at h2
  exact (Option.some.inj h2).symm
theorem vx_callSW (X : Stand p l e R s m args below meth c T locs cells slots) (hexec : p.tables.exec = Jvm.exec) {own : String} {index : Nat} {y : MethodName} {bytes : ByteArray} {maxL : Nat} {ret : Option FieldType} {hh : List (Nat × Nat × Nat × Nat)}
    (hown : s.vm.findClass own = some m.cls) (hlink : (Cond.methodLink own index y).before args s = true) (hstat : (Cond.static y).before args s = true) (hinit : (Cond.initialized y.cls).before args s = true)
    (hcode : (Cond.codeWith y bytes maxL ret hh).before args s = true) (hy : y.cls ≠ "java/lang/invoke/MethodHandle" ∧ y.cls ≠ "java/lang/invoke/VarHandle")
    {W9 : Nat} {Pre : Pt → Array Value → Prop} {Post : Pt → Array Value → Option Value → Pt → Prop} (hK : Back l R p e below s args y 3 W9 Pre Post)
    {g : JFrame} (hg : g.method = m) (hsize : g.locals.size = c.maxLocals) {argsL rest : List Value} (hlen : ∀ sig, parseMethodDescriptor y.desc = some sig → argsL.length = sig.parameters.length)
    (hstack : g.stack = argsL.reverse ++ rest) (hW : 2 * g.monitorRoom + (rest.map fun v => v.category).sum ≤ W9) (hdg : decode c.code g.pc = .ok (.invokestatic index, 3))
    (hpre : ∀ vm₁, s.WarmedH vm₁ → Pre ⟨T.setVm vm₁, locs, cells, slots⟩ argsL.toArray) :
    ∃ (v : Option Value) (vm₁ : Vm) (B : Pt), s.WarmedH vm₁ ∧ Stand p l e R s m args below meth c B.U B.locs B.cells B.slots ∧ Post ⟨T.setVm vm₁, locs, cells, slots⟩ argsL.toArray v B ∧
      ∀ target, Steps p.tables e below (B.U.setTop { g with pc := g.pc + 3, stack := v.toList ++ rest }) target → Steps p.tables e below (T.setTop g) target := by
  obtain ⟨mk, methM, cM, hnamed, hmethM, -, -, -, -, -, -, hsigM⟩ := Cond.codeWith_spec hcode
  have hstatic : methM.isStatic = true := Cond.static_spec hnamed hmethM hstat
  obtain ⟨kP, hkP, -⟩ := className_of_methodNamed hnamed
  have hinitP : kP.init = .initialized := Cond.initialized_spec (findClass_of_methodNamed hnamed) hkP hinit
  obtain ⟨vm₁, X₁, hstep₁⟩ := X.invokestatic hexec hown hlink hnamed hmethM hstatic hkP hinitP hy (g := g) hg (argsL := argsL) (rest := rest) (hlen _ hsigM) hstack hdg
  obtain ⟨v, B, X', hpost, hsteps⟩ := hK m meth c ⟨T.setVm vm₁, locs, cells, slots⟩ { g with stack := rest } (.invokestatic index) mk argsL.toArray X₁ hg hsize hdg hW (X₁.named hnamed) (hpre vm₁ X₁.warmed)
  exact ⟨v, vm₁, B, X₁.warmed, X', hpost, fun target h => hstep₁ _ fun acts => by rw [doInvoke_state]; exact hsteps.trans h⟩
theorem vx_runSW {y : MethodName} {bytes cc : ByteArray} {maxL nL mc ms n index : Nat} {ret : Option FieldType} {hh : List (Nat × Nat × Nat × Nat)} {ws : List Cond} {rm : Room} {Pc : Array Value → State → Prop} {Qc : Array Value → State → Outcome → State → Prop} {free : Addr → Prop} {Ts : List Cond} {own : String} {As rest : List Value} {g : JFrame}
    (S : CallFix p m c cc nL s args Ts own) (hM : Met l y ws rm Pc Qc mc ms free) (cw : vx_CSW R s args own index y bytes maxL ret hh ws rm mc ms n) (hp : PreS s H Pc As)
    (hg : g.method = m) (hn : As.length = n) (hsize : g.locals.size = nL) (hstack : g.stack = As.reverse ++ rest) (hW : 2 * g.monitorRoom + (rest.map fun v => v.category).sum ≤ 8) (hdg : decode cc g.pc = .ok (.invokestatic index, 3)) (hf : cells + mc ≤ R.cells ∧ slots + ms ≤ R.slots) :
    va_Run p l e R s m args below meth c H locs cells slots mc ms g rest (Qc As.toArray) (free) := by
  obtain ⟨⟨hrc, hrs, hfr, hlo, hws, hcw⟩, hcode, hini, hy, hlen, hl, hstt⟩ := cw
  have hK : Back l R p e below s args y 3 8 (PreOf R mc ms Pc) (PostOf Qc mc ms free) := va_backW (hh := hh) (bytes := bytes) (maxL := maxL) (ret := ret) hM hp.1 hrc hrs hfr hlo hws hcw (fun a' U hW => word_at hW (Or.inl (by first | rfl | simp [Cond.onTables, Cond.keeps, Cond.steady])) hini)
  obtain ⟨hx, hb, hml, ho, -⟩ := S
  intro T hT X
  obtain ⟨v, vm₁, ⟨U', l2, c2, s2⟩, hW₁, X', ⟨g', mk, t, L, e1, e2, hq, h1, hL, h2, h3⟩, st⟩ := vx_callSW X hx (hh := hh) (bytes := bytes) (maxL := maxL) (ret := ret) ho hl hstt hini hcode hy hK hg (hsize.trans hml.symm) (argsL := As) (rest := rest) (fun sig h => hn.trans (hlen sig h)) hstack hW (by rw [hb]; exact hdg)
    (fun vm₁ hW₁ => ⟨hf.1, hf.2, hp.2 (T.setVm vm₁) hT hW₁⟩)
  dsimp only [Pt.U, Pt.locs, Pt.cells, Pt.slots] at X' e1 e2 h1 h2 h3 st
  subst h1; subst h2; subst h3
  exact ⟨v, (T.setVm vm₁).calling g' mk As.toArray, t, U', L, hT, X', hL, e1, e2, hq, st⟩
/-- not caught here, past rows that name other classes: it goes on to the caller -/
theorem vx_outP {p : Program} {l : Launch} {e : Env} {R : Room} {s : State} {m : MethodId} {args : Array Value} {below : List Frame} {meth : Method} {c : Code} {H : Heap} {locs : List Loc} {cells slots : Nat} {free : Addr → Prop} {ls : Array Slot} {rest : List Value} {Qc : Array Value → State → Outcome → State → Prop} {XC : String → State → State → Prop}
    {pc : Nat} {own E : String} {ce : Cell} {q : Addr} {mc ms : Nat} (hown : s.vm.findClass own = some m.cls) (hlocks : meth.locks = false)
    (hpass : ∀ z ∈ c.exceptionTable.toList, covers z pc = false ∨ (z.catchType ≠ 0 ∧ ∃ nm : String, (Cond.classLink own z.catchType nm).before args s = true ∧ va_Nc E nm s)) (hcell : H[q]? = some ce) (hv : ce.vm = .none) (hcl : s.vm.findClass E = some ce.cls)
    (hx : ∀ t : State, t.heap = H → s.vm.Alike t.vm → XC E s t) (hf : ∀ z ∈ locs, free z.base) (hc : cells ≤ mc) (hs : slots ≤ ms) :
    vx_W p l e R s m args below meth c H locs cells slots (vx_MQ below Qc XC args s mc ms free) (F0 m pc ls rest) q := by
  intro T hT X
  have hpl : e.platform.magicAccessors = ({} : Platform).magicAccessors := by rw [X.admits.platform]
  obtain ⟨vm', hW', X', st⟩ := X.outThrough hlocks q (g := F0 m pc ls rest) rfl rfl rfl (cell := ce) (by rw [hT]; exact hcell) (by rw [hv]; rfl)
    (by obtain ⟨k9, h9, -⟩ := Vm.findClass_spec hcl; exact ⟨k9, h9⟩) (fun z hz => by
      rcases hpass z hz with h | ⟨hz0, nm, hl1, hn1⟩
      · exact Or.inl h
      · obtain ⟨c6, hc6, hcl6⟩ := Cond.classLink_spec hown hl1 e.platform hpl
        obtain ⟨a8, b8, h1, h2, h3⟩ := hn1
        cases Option.some.inj (h1.symm.trans hcl)
        cases Option.some.inj (h2.symm.trans hc6)
        exact Or.inr ⟨hz0, _, hcl6, h3⟩)
  obtain ⟨g₀, hfr⟩ := X'.frames_eq
  have hcell9 : ((T.setVm vm').setFrames (.throwing q :: below)).heap[q]? = some ce := by
    show T.heap[q]? = some ce
    rw [hT]; exact hcell
  have hend : Ended ((T.setVm vm').setFrames (.throwing q :: below)) below (.threw q) := State.frames_setFrames _ (State.cur_lt_of_frames hfr)
  refine ⟨(T.setVm vm').setFrames (.throwing q :: below), ?_, .threw q, X'.here.running, hend, Or.inr ⟨q, rfl, E, ce, locs, hx _ hT (X'.ends _).1.alike, hcell9, hv, hcl, (X'.ends _).1, (X'.ends _).2.mono hc hs, hf⟩⟩
  rw [X.pushThrowing_eq]
  exact st
/-- a thing of a world lies in the heap -/
theorem vx_lt {D : va_G} {cl : List vw_C} {ws : va_W} {H1 : Heap} (h : va_P D cl ws H1) {k : Nat} {q : Nat × va_E} (hk : ws[k]? = some q) : q.1 < H1.size := (h k q hk).lt
end VXS
/-! ===== END ===== -/
/-! ===== BEGIN methods with a table of their own: called by a name, returning or throwing ===== -/
section VXH
/-! vx_backW, vx_callVX, vx_callSX, vx_callVW, vx_runVW, vx_runVX, vx_runSX, vx_ofWH follow the same proofs as their sisters above (Free/Laws.lean, Shelf42/LK1.lean); vx_outP calls Shelf42/NT130.lean (outThrough). -/
section
variable {l : Launch} {R : Room} {p : Program} {e : Env} {below : List Frame} {s : State} {sargs : Array Value} {y : MethodName} {len W9 : Nat}
theorem vx_backW {ws : List Cond} {rm : Room} {Pc : Array Value → State → Prop} {Qc : Array Value → State → Outcome → State → Prop} {XC : String → State → State → Prop} {mc ms : Nat} {free : Addr → Prop} {bytes : ByteArray} {maxL : Nat} {ret : Option FieldType} {hh : List (Nat × Nat × Nat × Nat)}
    (hM : vx_Met l y ws rm Pc Qc XC mc ms free) (hblind : FrameBlind Pc) (hrc : rm.cells = mc) (hrs : rm.slots = ms)
    (hframes : rm.frames + 1 ≤ R.frames) (hlocals : W9 + (maxL + 11) + rm.locals ≤ R.locals)
    (hws : ∀ w ∈ ws, ∀ a' U, s.WarmedH U.vm → w.before a' U = true) (hcode : Cond.codeWith y bytes maxL ret hh ∈ ws) (hinit : ∀ a' U, s.WarmedH U.vm → (Cond.initialized y.cls).before a' U = true) :
    vx_Back l R p e below s sargs y len W9 (PreOf R mc ms Pc) (PostOf Qc mc ms free) (vx_Post XC mc ms free) := by
  intro m meth c A g ig mk a X hg hsize hdg hW hn hp
  have h1 : (headSpec ws rm).pre.before a A.U = true := atoms_intro fun w hw => hws w hw _ _ X.warmed
  have h2 : (Cond.codeWith y bytes maxL ret hh).before a A.U = true := hws _ hcode _ _ X.warmed
  have h3 : (Cond.initialized y.cls).before a A.U = true := hinit _ _ X.warmed
  have h4 : A.cells + (headSpec ws rm).room.cells ≤ R.cells := by rw [show (headSpec ws rm).room.cells = mc from hrc]; exact hp.1
  have h5 : A.slots + (headSpec ws rm).room.slots ≤ R.slots := by rw [show (headSpec ws rm).room.slots = ms from hrs]; exact hp.2.1
  have hPc : Pc a (A.U.calling g mk a) := hblind _ _ _ _ hp.2.2
  obtain ⟨U, Ls, c0, s0⟩ := A
  dsimp only [Pt.U, Pt.locs, Pt.cells, Pt.slots] at h1 h2 h3 h4 h5 X hn hPc ⊢
  obtain ⟨m9, methY, cY, hn9, hmY, hcY, -, hlY, -⟩ := Cond.codeWith_spec h2
  cases Option.some.inj (hn9.symm.trans hn)
  obtain ⟨kY, hkY, -⟩ := className_of_methodNamed hn
  have hinitY : kY.init = .initialized := Cond.initialized_spec (findClass_of_methodNamed hn) hkY h3
  have h : At U g.method c below := by rw [hg]; exact X.here
  have hlocals9 : W9 + (maxL + 11) + (headSpec ws rm).room.locals ≤ R.locals := hlocals
  have happ : (headSpec ws rm).appliesLoose y e.platform (U.calling g mk a) = true :=
    Spec.appliesLoose_calling (g := g) h hdg hn hkY hinitY
      (X.room_calling (g := g) (R' := (headSpec ws rm).room) hsize hmY hcY hframes (by rw [hlY]; omega) h4 h5) h1
  obtain ⟨mid, hmid⟩ := h.above
  have hfr : (U.setTop g).frames = (.java g :: mid) ++ below := by rw [State.frames_setTop' g h.top, hmid]; rfl
  obtain ⟨o, s₂, hsteps, -, hend, hq⟩ := Steps.callFree hM p X.admits X.cas X.clock (acts := []) hfr happ hPc trivial
  have hq' : vx_Q Qc XC mc ms free a (U.calling g mk a) o s₂ := hq
  rw [State.frames_setTop' g h.top] at hend
  obtain ⟨g₀, hg0⟩ := Option.isSome_iff_exists.mp h.top
  obtain ⟨r, hr⟩ := State.topJava?_eq_some.mp hg0
  have hr' : (({ U with heap := s₂.heap, slotsUsed := s₂.slotsUsed } : State).setVm s₂.vm).frames = .java g₀ :: r := hr
  rcases hq' with ⟨hqc, L, hfe, hL⟩ | ⟨q, rfl, E, ce, L, hx, hce, hcv, hcl, hW₂, hsm, hL⟩
  · obtain ⟨⟨v, rfl⟩, hW₂, e2, q2, q3, q4, q5, q6⟩ := id hfe
    have e3 : s₂ = ({ (U.calling g mk a).setFrames s₂.frames with heap := s₂.heap, slotsUsed := s₂.slotsUsed } : State).setVm s₂.vm := by
      have : s₂ = ({ s₂ with vm := (U.calling g mk a).vm } : State).setVm s₂.vm := rfl
      rw [e2] at this
      exact this
    obtain ⟨c₂, i₂, len₂, hc₂, hd₂, hf₂⟩ := hend
    have hW' : U.WarmedH s₂.vm := hW₂
    have hcc : c₂ = c := by
      have h1 : s₂.code? g.method = U.code? g.method := by
        rw [State.code?_eq, State.code?_eq, hW'.alike.method?]
      exact Option.some.inj (hc₂.symm.trans (h1.trans h.code))
    subst hcc
    have hlen : len₂ = len := by rw [hdg] at hd₂; cases hd₂; rfl
    subst hlen
    have hs₂ : s₂ = (({ U with heap := s₂.heap, slotsUsed := s₂.slotsUsed } : State).setVm s₂.vm).setTop { g with pc := g.pc + len₂, stack := v.toList ++ g.stack } := by
      refine e3.trans ?_
      rw [hf₂, State.calling_eq h.top, State.setFrames_setFrames, State.setTop_of_frames _ hr', hr]
      rfl
    have hsame : U.sameButNew ({ U with heap := s₂.heap, slotsUsed := s₂.slotsUsed } : State) L mc ms := by
      refine ⟨?_, q2, q3, q4, q5, q6⟩
      obtain ⟨t, ht, -⟩ := State.frames_cons hr
      show ({ U with heap := s₂.heap, slotsUsed := s₂.slotsUsed } : State) = { U.setFrames U.frames with heap := s₂.heap, slotsUsed := s₂.slotsUsed }
      rw [State.setFrames_self ht]
    subst hg
    refine Or.inl ⟨v, ⟨(({ U with heap := s₂.heap, slotsUsed := s₂.slotsUsed } : State).setVm s₂.vm), Ls ++ L, c0 + mc, s0 + ms⟩,
      ⟨X.admits, X.cas, X.clock, X.frames, X.room, X.hears, X.method, X.code, (X.here.setHeapUsed s₂.heap s₂.slotsUsed).setVm hW'.alike, X.tail, State.WarmedH.trans X.warmed hW', X.limits, X.bytes, X.same.trans (hsame.setVm s.vm)⟩,
      ⟨g, mk, s₂, L, rfl, rfl, hqc, rfl, hL, rfl, rfl⟩, ?_⟩
    show Steps p.tables e below _ ((({ U with heap := s₂.heap, slotsUsed := s₂.slotsUsed } : State).setVm s₂.vm).setTop { g with pc := g.pc + len₂, stack := v.toList ++ g.stack })
    rw [← hs₂]
    exact hsteps
  · obtain ⟨e2, q2, q3, q4, q5, q6⟩ := id hsm
    have e3 : s₂ = ({ (U.calling g mk a).setFrames s₂.frames with heap := s₂.heap, slotsUsed := s₂.slotsUsed } : State).setVm s₂.vm := by
      have : s₂ = ({ s₂ with vm := (U.calling g mk a).vm } : State).setVm s₂.vm := rfl
      rw [e2] at this
      exact this
    have hf₂ : s₂.frames = .throwing q :: .java g :: U.frames.tail := hend
    have hW' : U.WarmedH s₂.vm := hW₂
    have hs₂ : s₂ = ((({ U with heap := s₂.heap, slotsUsed := s₂.slotsUsed } : State).setVm s₂.vm).setTop g).pushFrame (.throwing q) := by
      refine e3.trans ?_
      rw [hf₂, State.calling_eq h.top, State.setFrames_setFrames, State.pushFrame, State.frames_setTop _ hr', State.setTop_of_frames _ hr', State.setFrames_setFrames, hr]
      rfl
    have hsame : U.sameButNew ({ U with heap := s₂.heap, slotsUsed := s₂.slotsUsed } : State) L mc ms := by
      refine ⟨?_, q2, q3, q4, q5, q6⟩
      obtain ⟨t, ht, -⟩ := State.frames_cons hr
      show ({ U with heap := s₂.heap, slotsUsed := s₂.slotsUsed } : State) = { U.setFrames U.frames with heap := s₂.heap, slotsUsed := s₂.slotsUsed }
      rw [State.setFrames_self ht]
    subst hg
    refine Or.inr ⟨q, ⟨(({ U with heap := s₂.heap, slotsUsed := s₂.slotsUsed } : State).setVm s₂.vm), Ls ++ L, c0 + mc, s0 + ms⟩,
      ⟨X.admits, X.cas, X.clock, X.frames, X.room, X.hears, X.method, X.code, (X.here.setHeapUsed s₂.heap s₂.slotsUsed).setVm hW'.alike, X.tail, State.WarmedH.trans X.warmed hW', X.limits, X.bytes, X.same.trans (hsame.setVm s.vm)⟩,
      ⟨g, mk, s₂, L, E, ce, rfl, rfl, hx, hce, hcv, hcl, rfl, hL, rfl, rfl⟩, ?_⟩
    show Steps p.tables e below _ (((({ U with heap := s₂.heap, slotsUsed := s₂.slotsUsed } : State).setVm s₂.vm).setTop g).pushFrame (.throwing q))
    rw [← hs₂]
    exact hsteps
end
variable {p : Program} {l : Launch} {e : Env} {R : Room} {s : State} {m : MethodId} {args : Array Value} {below : List Frame} {meth : Method} {c : Code} {T : State} {H : Heap} {locs : List Loc} {cells slots : Nat}
theorem vx_callVX (X : Stand p l e R s m args below meth c T locs cells slots) (hexec : p.tables.exec = Jvm.exec) {own C : String} {index : Nat} {y : MethodName} {bytes : ByteArray} {maxL : Nat} {ret : Option FieldType} {hh : List (Nat × Nat × Nat × Nat)}
    (hown : s.vm.findClass own = some m.cls) (hlink : (Cond.methodLink own index y).before args s = true) (hinst : (Cond.instanceMethod y).before args s = true) (hsel : (Cond.selects C y y).before args s = true)
    (hcode : (Cond.codeWith y bytes maxL ret hh).before args s = true) (hy : y.cls ≠ "java/lang/invoke/MethodHandle" ∧ y.cls ≠ "java/lang/invoke/VarHandle")
    {W9 : Nat} {Pre : Pt → Array Value → Prop} {Post : Pt → Array Value → Option Value → Pt → Prop} {PostX : Pt → Array Value → Addr → Pt → Prop} (hK : vx_Back l R p e below s args y 3 W9 Pre Post PostX)
    {b : Addr} {cellB : Cell} (hcell : T.heap[b]? = some cellB) (hobj : cellB.vm.isStatics = false) (hcls : s.vm.findClass C = some cellB.cls)
    {g : JFrame} (hg : g.method = m) (hsize : g.locals.size = c.maxLocals) {argsL rest : List Value} (hlen : ∀ sig, parseMethodDescriptor y.desc = some sig → argsL.length = sig.parameters.length)
    (hstack : g.stack = argsL.reverse ++ .ref b :: rest) (hW : 2 * g.monitorRoom + (rest.map fun v => v.category).sum ≤ W9) (hdg : decode c.code g.pc = .ok (.invokevirtual index, 3))
    (hpre : ∀ vm₁, s.WarmedH vm₁ → Pre ⟨T.setVm vm₁, locs, cells, slots⟩ (Value.ref b :: argsL).toArray) :
    (∃ (v : Option Value) (vm₁ : Vm) (B : Pt), s.WarmedH vm₁ ∧ Stand p l e R s m args below meth c B.U B.locs B.cells B.slots ∧ Post ⟨T.setVm vm₁, locs, cells, slots⟩ (Value.ref b :: argsL).toArray v B ∧
      ∀ target, Steps p.tables e below (B.U.setTop { g with pc := g.pc + 3, stack := v.toList ++ rest }) target → Steps p.tables e below (T.setTop g) target) ∨
    (∃ (q : Addr) (vm₁ : Vm) (B : Pt), s.WarmedH vm₁ ∧ Stand p l e R s m args below meth c B.U B.locs B.cells B.slots ∧ PostX ⟨T.setVm vm₁, locs, cells, slots⟩ (Value.ref b :: argsL).toArray q B ∧
      Steps p.tables e below (T.setTop g) ((B.U.setTop { g with stack := rest }).pushFrame (.throwing q))) := by
  obtain ⟨mk, methM, hnamed, hmethM, hstM, habM⟩ := Cond.instanceMethod_spec hinst
  obtain ⟨m8, methM', cM, hn8, hmethM', -, -, -, -, -, -, hsigM⟩ := Cond.codeWith_spec hcode
  cases Option.some.inj (hn8.symm.trans hnamed)
  cases hmethM.symm.trans hmethM'
  obtain ⟨c2, r2, m2, q1, q2, q3, q4, kP, hkP, hkPi⟩ := Cond.selects_spec hsel
  cases hcls.symm.trans q1
  cases (State.methodFound?_of_named hnamed hy).symm.trans q2
  cases hnamed.symm.trans q3
  have hselP : selectMethod e.platform s.vm cellB.cls mk = .method mk := by rw [Launch.admits_selectMethod X.admits]; exact q4
  obtain ⟨vm₁, X₁, hstep₁⟩ := X.invokevirtual hexec hown hlink hnamed hmethM hstM hkP hkPi hy (a := b) (cell := cellB) hcell
    (fun z h => by rw [h] at hobj; cases hobj) hselP hmethM habM hkP hkPi (g := g) hg (argsL := argsL) (rest := rest) (hlen _ hsigM) hstack hdg
  rcases hK m meth c ⟨T.setVm vm₁, locs, cells, slots⟩ { g with stack := rest } (.invokevirtual index) mk (Value.ref b :: argsL).toArray X₁ hg hsize hdg hW (X₁.named hnamed) (hpre vm₁ X₁.warmed) with ⟨v, B, X', hpost, hsteps⟩ | ⟨q, B, X', hpost, hsteps⟩
  · exact Or.inl ⟨v, vm₁, B, X₁.warmed, X', hpost, fun target h => hstep₁ _ fun acts => by rw [doInvoke_state]; exact hsteps.trans h⟩
  · exact Or.inr ⟨q, vm₁, B, X₁.warmed, X', hpost, hstep₁ _ fun acts => by rw [doInvoke_state]; exact hsteps⟩
theorem vx_callSX (X : Stand p l e R s m args below meth c T locs cells slots) (hexec : p.tables.exec = Jvm.exec) {own : String} {index : Nat} {y : MethodName} {bytes : ByteArray} {maxL : Nat} {ret : Option FieldType} {hh : List (Nat × Nat × Nat × Nat)}
    (hown : s.vm.findClass own = some m.cls) (hlink : (Cond.methodLink own index y).before args s = true) (hstat : (Cond.static y).before args s = true) (hinit : (Cond.initialized y.cls).before args s = true)
    (hcode : (Cond.codeWith y bytes maxL ret hh).before args s = true) (hy : y.cls ≠ "java/lang/invoke/MethodHandle" ∧ y.cls ≠ "java/lang/invoke/VarHandle")
    {W9 : Nat} {Pre : Pt → Array Value → Prop} {Post : Pt → Array Value → Option Value → Pt → Prop} {PostX : Pt → Array Value → Addr → Pt → Prop} (hK : vx_Back l R p e below s args y 3 W9 Pre Post PostX)
    {g : JFrame} (hg : g.method = m) (hsize : g.locals.size = c.maxLocals) {argsL rest : List Value} (hlen : ∀ sig, parseMethodDescriptor y.desc = some sig → argsL.length = sig.parameters.length)
    (hstack : g.stack = argsL.reverse ++ rest) (hW : 2 * g.monitorRoom + (rest.map fun v => v.category).sum ≤ W9) (hdg : decode c.code g.pc = .ok (.invokestatic index, 3))
    (hpre : ∀ vm₁, s.WarmedH vm₁ → Pre ⟨T.setVm vm₁, locs, cells, slots⟩ argsL.toArray) :
    (∃ (v : Option Value) (vm₁ : Vm) (B : Pt), s.WarmedH vm₁ ∧ Stand p l e R s m args below meth c B.U B.locs B.cells B.slots ∧ Post ⟨T.setVm vm₁, locs, cells, slots⟩ argsL.toArray v B ∧
      ∀ target, Steps p.tables e below (B.U.setTop { g with pc := g.pc + 3, stack := v.toList ++ rest }) target → Steps p.tables e below (T.setTop g) target) ∨
    (∃ (q : Addr) (vm₁ : Vm) (B : Pt), s.WarmedH vm₁ ∧ Stand p l e R s m args below meth c B.U B.locs B.cells B.slots ∧ PostX ⟨T.setVm vm₁, locs, cells, slots⟩ argsL.toArray q B ∧
      Steps p.tables e below (T.setTop g) ((B.U.setTop { g with stack := rest }).pushFrame (.throwing q))) := by
  obtain ⟨mk, methM, cM, hnamed, hmethM, -, -, -, -, -, -, hsigM⟩ := Cond.codeWith_spec hcode
  have hstatic : methM.isStatic = true := Cond.static_spec hnamed hmethM hstat
  obtain ⟨kP, hkP, -⟩ := className_of_methodNamed hnamed
  have hinitP : kP.init = .initialized := Cond.initialized_spec (findClass_of_methodNamed hnamed) hkP hinit
  obtain ⟨vm₁, X₁, hstep₁⟩ := X.invokestatic hexec hown hlink hnamed hmethM hstatic hkP hinitP hy (g := g) hg (argsL := argsL) (rest := rest) (hlen _ hsigM) hstack hdg
  rcases hK m meth c ⟨T.setVm vm₁, locs, cells, slots⟩ { g with stack := rest } (.invokestatic index) mk argsL.toArray X₁ hg hsize hdg hW (X₁.named hnamed) (hpre vm₁ X₁.warmed) with ⟨v, B, X', hpost, hsteps⟩ | ⟨q, B, X', hpost, hsteps⟩
  · exact Or.inl ⟨v, vm₁, B, X₁.warmed, X', hpost, fun target h => hstep₁ _ fun acts => by rw [doInvoke_state]; exact hsteps.trans h⟩
  · exact Or.inr ⟨q, vm₁, B, X₁.warmed, X', hpost, hstep₁ _ fun acts => by rw [doInvoke_state]; exact hsteps⟩
theorem vx_callVW (X : Stand p l e R s m args below meth c T locs cells slots) (hexec : p.tables.exec = Jvm.exec) {own C : String} {index : Nat} {y : MethodName} {bytes : ByteArray} {maxL : Nat} {ret : Option FieldType} {hh : List (Nat × Nat × Nat × Nat)}
    (hown : s.vm.findClass own = some m.cls) (hlink : (Cond.methodLink own index y).before args s = true) (hinst : (Cond.instanceMethod y).before args s = true) (hsel : (Cond.selects C y y).before args s = true)
    (hcode : (Cond.codeWith y bytes maxL ret hh).before args s = true) (hy : y.cls ≠ "java/lang/invoke/MethodHandle" ∧ y.cls ≠ "java/lang/invoke/VarHandle")
    {W9 : Nat} {Pre : Pt → Array Value → Prop} {Post : Pt → Array Value → Option Value → Pt → Prop} (hK : Back l R p e below s args y 3 W9 Pre Post)
    {b : Addr} {cellB : Cell} (hcell : T.heap[b]? = some cellB) (hobj : cellB.vm.isStatics = false) (hcls : s.vm.findClass C = some cellB.cls)
    {g : JFrame} (hg : g.method = m) (hsize : g.locals.size = c.maxLocals) {argsL rest : List Value} (hlen : ∀ sig, parseMethodDescriptor y.desc = some sig → argsL.length = sig.parameters.length)
    (hstack : g.stack = argsL.reverse ++ .ref b :: rest) (hW : 2 * g.monitorRoom + (rest.map fun v => v.category).sum ≤ W9) (hdg : decode c.code g.pc = .ok (.invokevirtual index, 3))
    (hpre : ∀ vm₁, s.WarmedH vm₁ → Pre ⟨T.setVm vm₁, locs, cells, slots⟩ (Value.ref b :: argsL).toArray) :
    ∃ (v : Option Value) (vm₁ : Vm) (B : Pt), s.WarmedH vm₁ ∧ Stand p l e R s m args below meth c B.U B.locs B.cells B.slots ∧ Post ⟨T.setVm vm₁, locs, cells, slots⟩ (Value.ref b :: argsL).toArray v B ∧
      ∀ target, Steps p.tables e below (B.U.setTop { g with pc := g.pc + 3, stack := v.toList ++ rest }) target → Steps p.tables e below (T.setTop g) target := by
  obtain ⟨mk, methM, hnamed, hmethM, hstM, habM⟩ := Cond.instanceMethod_spec hinst
  obtain ⟨m8, methM', cM, hn8, hmethM', -, -, -, -, -, -, hsigM⟩ := Cond.codeWith_spec hcode
  cases Option.some.inj (hn8.symm.trans hnamed)
  cases hmethM.symm.trans hmethM'
  obtain ⟨c2, r2, m2, q1, q2, q3, q4, kP, hkP, hkPi⟩ := Cond.selects_spec hsel
  cases hcls.symm.trans q1
  cases (State.methodFound?_of_named hnamed hy).symm.trans q2
  cases hnamed.symm.trans q3
  have hselP : selectMethod e.platform s.vm cellB.cls mk = .method mk := by rw [Launch.admits_selectMethod X.admits]; exact q4
  obtain ⟨vm₁, X₁, hstep₁⟩ := X.invokevirtual hexec hown hlink hnamed hmethM hstM hkP hkPi hy (a := b) (cell := cellB) hcell
    (fun z h => by rw [h] at hobj; cases hobj) hselP hmethM habM hkP hkPi (g := g) hg (argsL := argsL) (rest := rest) (hlen _ hsigM) hstack hdg
  obtain ⟨v, B, X', hpost, hsteps⟩ := hK m meth c ⟨T.setVm vm₁, locs, cells, slots⟩ { g with stack := rest } (.invokevirtual index) mk (Value.ref b :: argsL).toArray X₁ hg hsize hdg hW (X₁.named hnamed) (hpre vm₁ X₁.warmed)
  exact ⟨v, vm₁, B, X₁.warmed, X', hpost, fun target h => hstep₁ _ fun acts => by rw [doInvoke_state]; exact hsteps.trans h⟩
abbrev vx_CVW (R : Room) (s : State) (args : Array Value) (own C : String) (index : Nat) (y : MethodName) (bytes : ByteArray) (maxL : Nat) (ret : Option FieldType) (hh : List (Nat × Nat × Nat × Nat)) (ws : List Cond) (rm : Room) (mc ms n : Nat) : Prop :=
  (rm.cells = mc ∧ rm.slots = ms ∧ rm.frames + 1 ≤ R.frames ∧ 8 + (maxL + 11) + rm.locals ≤ R.locals ∧ (∀ w ∈ ws, ∀ (a' : Array Value) (U : State), s.WarmedH U.vm → w.before a' U = true) ∧ Cond.codeWith y bytes maxL ret hh ∈ ws) ∧
  (Cond.codeWith y bytes maxL ret hh).before args s = true ∧ (Cond.initialized y.cls).before args s = true ∧ (y.cls ≠ "java/lang/invoke/MethodHandle" ∧ y.cls ≠ "java/lang/invoke/VarHandle") ∧
  (∀ sig, parseMethodDescriptor y.desc = some sig → n = sig.parameters.length) ∧ (Cond.methodLink own index y).before args s = true ∧ (Cond.instanceMethod y).before args s = true ∧ (Cond.selects C y y).before args s = true
theorem vx_cwVW {own C : String} {index maxL mc ms : Nat} {y : MethodName} {bytes : ByteArray} {ret : Option FieldType} {hh : List (Nat × Nat × Nat × Nat)} {Ts ws ws' : List Cond} {rm : Room} (n : Nat) (ht : ∀ w ∈ Ts, w.before args s = true) (hT : GoodIn Ts (wsV own index C y ws)) (hw : ws = Cond.codeWith y bytes maxL ret hh :: ws') (hrc : rm.cells = mc) (hrs : rm.slots = ms)
    (hd : y.cls = C ∧ y.cls ≠ "java/lang/invoke/MethodHandle" ∧ y.cls ≠ "java/lang/invoke/VarHandle" ∧ (parseMethodDescriptor y.desc).map (fun d => d.parameters.length) = some n) (hR : rm.frames + 1 ≤ R.frames ∧ 8 + (maxL + 11) + rm.locals ≤ R.locals) :
    vx_CVW R s args own C index y bytes maxL ret hh ws rm mc ms n := by
  obtain ⟨hC, hd⟩ := hd
  subst hC
  have ok : ∀ w ∈ wsV own index y.cls y ws, w.before args s = true := fun w h => ht w (hT w h).1
  have hG : GoodIn Ts ws := fun w h => hT w (by unfold wsV; exact List.mem_append_right _ h)
  have hc : Cond.codeWith y bytes maxL ret hh ∈ ws := by rw [hw]; exact List.mem_cons_self
  refine ⟨⟨hrc, hrs, hR.1, hR.2, pay_in ht hG, hc⟩, ht _ (hG _ hc).1, ok _ (by simp [wsV]), ⟨hd.1, hd.2.1⟩, fun sig h => ?_, ok _ (by simp [wsV]), ok _ (by simp [wsV]), ok _ (by simp [wsV])⟩
  have h2 := hd.2.2
  rw [h] at h2
  exact (Option.some.inj h2).symm
theorem vx_runVW {y : MethodName} {bytes cc : ByteArray} {maxL nL mc ms n index : Nat} {ret : Option FieldType} {hh : List (Nat × Nat × Nat × Nat)} {ws : List Cond} {rm : Room} {Pc : Array Value → State → Prop} {Qc : Array Value → State → Outcome → State → Prop} {free : Addr → Prop} {Ts : List Cond} {own C : String} {b : Addr} {As rest : List Value} {g : JFrame}
    (S : CallFix p m c cc nL s args Ts own) (hM : Met l y ws rm Pc Qc mc ms free) (cw : vx_CVW R s args own C index y bytes maxL ret hh ws rm mc ms n) (hp : PreV s H C b Pc As)
    (hg : g.method = m) (hn : As.length = n) (hsize : g.locals.size = nL) (hstack : g.stack = As.reverse ++ .ref b :: rest) (hW : 2 * g.monitorRoom + (rest.map fun v => v.category).sum ≤ 8) (hdg : decode cc g.pc = .ok (.invokevirtual index, 3)) (hf : cells + mc ≤ R.cells ∧ slots + ms ≤ R.slots) :
    va_Run p l e R s m args below meth c H locs cells slots mc ms g rest (Qc (Value.ref b :: As).toArray) free := by
  obtain ⟨⟨hrc, hrs, hfr, hlo, hws, hcw⟩, hcode, hini, hy, hlen, hl, hin, hse⟩ := cw
  have hK : Back l R p e below s args y 3 8 (PreOf R mc ms Pc) (PostOf Qc mc ms free) := va_backW (hh := hh) (bytes := bytes) (maxL := maxL) (ret := ret) hM hp.1 hrc hrs hfr hlo hws hcw (fun a' U hW => word_at hW (Or.inl (by first | rfl | simp [Cond.onTables, Cond.keeps, Cond.steady])) hini)
  obtain ⟨hx, hb, hml, ho, -⟩ := S
  obtain ⟨-, ⟨cellB, hcB, hoB, hclB⟩, hPc⟩ := hp
  intro T hT X
  obtain ⟨v, vm₁, ⟨U', l2, c2, s2⟩, hW₁, X', ⟨g', mk, t, L, e1, e2, hq, h1, hL, h2, h3⟩, st⟩ := vx_callVW X hx (C := C) (hh := hh) (bytes := bytes) (maxL := maxL) (ret := ret) ho hl hin hse hcode hy hK (by rw [hT]; exact hcB) hoB hclB hg (hsize.trans hml.symm) (argsL := As) (rest := rest) (fun sig h => hn.trans (hlen sig h)) hstack hW (by rw [hb]; exact hdg)
    (fun vm₁ hW₁ => ⟨hf.1, hf.2, hPc (T.setVm vm₁) hT hW₁⟩)
  dsimp only [Pt.U, Pt.locs, Pt.cells, Pt.slots] at X' e1 e2 h1 h2 h3 st
  subst h1; subst h2; subst h3
  exact ⟨v, (T.setVm vm₁).calling g' mk (Value.ref b :: As).toArray, t, U', L, hT, X', hL, e1, e2, hq, st⟩
section
variable {y : MethodName} {bytes cc : ByteArray} {maxL nL mc ms n index : Nat} {ret : Option FieldType} {ws : List Cond} {rm : Room} {Pc : Array Value → State → Prop} {Qc : Array Value → State → Outcome → State → Prop} {XC : String → State → State → Prop} {free : Addr → Prop} {Ts : List Cond} {own C : String} {b : Addr} {As rest : List Value} {g : JFrame}
theorem vx_runVX {hh : List (Nat × Nat × Nat × Nat)} (S : CallFix p m c cc nL s args Ts own) (hM : vx_Met l y ws rm Pc Qc XC mc ms free) (cw : vx_CVW R s args own C index y bytes maxL ret hh ws rm mc ms n) (hp : PreV s H C b Pc As)
    (hg : g.method = m) (hn : As.length = n) (hsize : g.locals.size = nL) (hstack : g.stack = As.reverse ++ .ref b :: rest) (hW : 2 * g.monitorRoom + (rest.map fun v => v.category).sum ≤ 8) (hdg : decode cc g.pc = .ok (.invokevirtual index, 3)) (hf : cells + mc ≤ R.cells ∧ slots + ms ≤ R.slots) :
    vx_Run p l e R s m args below meth c H locs cells slots mc ms g rest (Qc (Value.ref b :: As).toArray) XC free := by
  obtain ⟨⟨hrc, hrs, hfr, hlo, hws, hcw⟩, hcode, hini, hy, hlen, hl, hin, hse⟩ := cw
  have hK : vx_Back l R p e below s args y 3 8 (PreOf R mc ms Pc) (PostOf Qc mc ms free) (vx_Post XC mc ms free) := vx_backW (hh := hh) (bytes := bytes) (maxL := maxL) (ret := ret) hM hp.1 hrc hrs hfr hlo hws hcw (fun a' U hW => word_at hW (Or.inl (by first | rfl | simp [Cond.onTables, Cond.keeps, Cond.steady])) hini)
  obtain ⟨hx, hb, hml, ho, -⟩ := S
  obtain ⟨-, ⟨cellB, hcB, hoB, hclB⟩, hPc⟩ := hp
  intro T hT X
  rcases vx_callVX X hx (C := C) (hh := hh) (bytes := bytes) (maxL := maxL) (ret := ret) ho hl hin hse hcode hy hK (by rw [hT]; exact hcB) hoB hclB hg (hsize.trans hml.symm) (argsL := As) (rest := rest) (fun sig h => hn.trans (hlen sig h)) hstack hW (by rw [hb]; exact hdg)
    (fun vm₁ hW₁ => ⟨hf.1, hf.2, hPc (T.setVm vm₁) hT hW₁⟩) with ⟨v, vm₁, ⟨U', l2, c2, s2⟩, hW₁, X', ⟨g', mk, t, L, e1, e2, hq, h1, hL, h2, h3⟩, st⟩ | ⟨q, vm₁, ⟨U', l2, c2, s2⟩, hW₁, X', ⟨g', mk, t, L, E, ce, e1, e2, hq, hce, hcv, hcl, h1, hL, h2, h3⟩, st⟩
  · dsimp only [Pt.U, Pt.locs, Pt.cells, Pt.slots] at X' e1 e2 h1 h2 h3 st
    subst h1; subst h2; subst h3
    exact Or.inl ⟨v, (T.setVm vm₁).calling g' mk (Value.ref b :: As).toArray, t, U', L, hT, X', hL, e1, e2, hq, st⟩
  · dsimp only [Pt.U, Pt.locs, Pt.cells, Pt.slots] at X' e1 e2 h1 h2 h3 st hcl
    subst h1; subst h2; subst h3
    exact Or.inr ⟨q, (T.setVm vm₁).calling g' mk (Value.ref b :: As).toArray, t, U', L, E, ce, hT, X', hL, e1, e2, hq, hce, hcv, vx_cls hW₁ hcl, st⟩
theorem vx_runSX {hh : List (Nat × Nat × Nat × Nat)} (S : CallFix p m c cc nL s args Ts own) (hM : vx_Met l y ws rm Pc Qc XC mc ms free) (cw : vx_CSW R s args own index y bytes maxL ret hh ws rm mc ms n) (hp : PreS s H Pc As)
    (hg : g.method = m) (hn : As.length = n) (hsize : g.locals.size = nL) (hstack : g.stack = As.reverse ++ rest) (hW : 2 * g.monitorRoom + (rest.map fun v => v.category).sum ≤ 8) (hdg : decode cc g.pc = .ok (.invokestatic index, 3)) (hf : cells + mc ≤ R.cells ∧ slots + ms ≤ R.slots) :
    vx_Run p l e R s m args below meth c H locs cells slots mc ms g rest (Qc As.toArray) XC free := by
  obtain ⟨⟨hrc, hrs, hfr, hlo, hws, hcw⟩, hcode, hini, hy, hlen, hl, hstt⟩ := cw
  have hK : vx_Back l R p e below s args y 3 8 (PreOf R mc ms Pc) (PostOf Qc mc ms free) (vx_Post XC mc ms free) := vx_backW (hh := hh) (bytes := bytes) (maxL := maxL) (ret := ret) hM hp.1 hrc hrs hfr hlo hws hcw (fun a' U hW => word_at hW (Or.inl (by first | rfl | simp [Cond.onTables, Cond.keeps, Cond.steady])) hini)
  obtain ⟨hx, hb, hml, ho, -⟩ := S
  intro T hT X
  rcases vx_callSX X hx (hh := hh) (bytes := bytes) (maxL := maxL) (ret := ret) ho hl hstt hini hcode hy hK hg (hsize.trans hml.symm) (argsL := As) (rest := rest) (fun sig h => hn.trans (hlen sig h)) hstack hW (by rw [hb]; exact hdg)
    (fun vm₁ hW₁ => ⟨hf.1, hf.2, hp.2 (T.setVm vm₁) hT hW₁⟩) with ⟨v, vm₁, ⟨U', l2, c2, s2⟩, hW₁, X', ⟨g', mk, t, L, e1, e2, hq, h1, hL, h2, h3⟩, st⟩ | ⟨q, vm₁, ⟨U', l2, c2, s2⟩, hW₁, X', ⟨g', mk, t, L, E, ce, e1, e2, hq, hce, hcv, hcl, h1, hL, h2, h3⟩, st⟩
  · dsimp only [Pt.U, Pt.locs, Pt.cells, Pt.slots] at X' e1 e2 h1 h2 h3 st
    subst h1; subst h2; subst h3
    exact Or.inl ⟨v, (T.setVm vm₁).calling g' mk As.toArray, t, U', L, hT, X', hL, e1, e2, hq, st⟩
  · dsimp only [Pt.U, Pt.locs, Pt.cells, Pt.slots] at X' e1 e2 h1 h2 h3 st hcl
    subst h1; subst h2; subst h3
    exact Or.inr ⟨q, (T.setVm vm₁).calling g' mk As.toArray, t, U', L, E, ce, hT, X', hL, e1, e2, hq, hce, hcv, vx_cls hW₁ hcl, st⟩
end
end VXH
theorem vx_ofWH {l : Launch} {y : MethodName} {ws ws' : List Cond} {rm : Room} {Pc : Array Value → State → Prop} {Qc : Array Value → State → Outcome → State → Prop} {XC : String → State → State → Prop} {mc ms : Nat} {free : Addr → Prop} {cc : ByteArray} {maxL : Nat} {ret : Option FieldType} {hh : List (Nat × Nat × Nat × Nat)}
    (hy : plainName y.cls = true) (hw : ws = Cond.codeWith y cc maxL ret hh :: ws')
    (body : ∀ p e s m args below meth c s₁, BodyLoose p l y (headSpec ws rm) cc maxL ret e s m args below meth c s₁ → c.maxLocals = maxL → Pc args s →
      W p l e (headSpec ws rm).room s m args below meth c s.heap [] 0 0 (vx_MQ below Qc XC args s mc ms free) (entryFrame m args maxL)) : vx_Met l y ws rm Pc Qc XC mc ms free := by
  refine MetFree.of_bodyS (code := cc) (maxLocals := maxL) (ret := ret) hy ?_ ?_
  · intro args s m h hn
    obtain ⟨m9, meth, c, hn9, h1, h2, h3, h4, -, h5, h6, -⟩ := Cond.codeWith_spec (atoms_spec (ws := ws) h _ (by rw [hw]; exact List.mem_cons_self))
    cases hn.symm.trans hn9
    exact ⟨meth, c, h1, h2, h3, h4, h5, h6⟩
  · intro p e s m args below meth c s₁ B hml hP _
    have hh0 : s₁.heap = s.heap := by rw [B.state]; rfl
    obtain ⟨t, a1, o, b1, b2, b3⟩ := body p e s m args below meth c s₁ B hml hP s₁ hh0 (Stand.of_body B)
    exact ⟨t, o, a1, b1, b2, b3⟩
/-! ===== END ===== -/

/-! ===== BEGIN printed: names, fields, word lists, decode rows ===== -/
def RX0 : String := "ShutterBench$Exposure"
def TX0 : u_T := fun k => match k with
  | 0 => ("ShutterBench$Exposure", "leftAt", "[I", true)
  | 1 => ("ShutterBench$Exposure", "coveredAt", "[I", true)
  | 2 => ("ShutterBench$Exposure", "light", "[I", true)
  | 3 => ("ShutterBench$Exposure", "allLight", "I", false)
  | 4 => ("ShutterBench$Exposure", "leastLight", "I", false)
  | 5 => ("ShutterBench$Exposure", "mostLight", "I", false)
  | 6 => ("ShutterBench$Exposure", "allErrors", "I", false)
  | 7 => ("ShutterBench$Exposure", "worstError", "I", false)
  | 8 => ("ShutterBench$Exposure", "worstColumn", "I", false)
  | _ => ("ShutterBench$Exposure", "darkColumns", "I", false)
def tyX0 : Nat → FieldType := fun k => match k with
  | 0 => .array .int
  | 1 => .array .int
  | 2 => .array .int
  | 3 => .int
  | 4 => .int
  | 5 => .int
  | 6 => .int
  | 7 => .int
  | 8 => .int
  | _ => .int
abbrev wsX00 : List Cond := u_ws RX0 TX0 10
theorem nmX0 : ∀ a, a < 10 → ∀ b, b < 10 → a ≠ b → (TX0 a).2.1 ≠ (TX0 b).2.1 := by decide +kernel
theorem tyX0_ok : ∀ k, k < 10 → parseFieldDescriptor (TX0 k).2.2.1 = some (tyX0 k) := by decide +kernel
abbrev cX0_init : ByteArray := prog_2_method_1_code
def yX0_init : MethodName := ⟨RX0, "<init>", "()V"⟩
abbrev cX0_spread : ByteArray := prog_2_method_2_code
def yX0_spread : MethodName := ⟨RX0, "spread", "()I"⟩
abbrev cX0_expose : ByteArray := prog_2_method_3_code
def yX0_expose : MethodName := ⟨RX0, "expose", "(LShutterBench$Shutter;I)V"⟩
abbrev cX0_runCurtains : ByteArray := prog_2_method_4_code
def yX0_runCurtains : MethodName := ⟨RX0, "runCurtains", "(LShutterBench$Shutter;I)V"⟩
abbrev cX0_openColumns : ByteArray := prog_2_method_5_code
def yX0_openColumns : MethodName := ⟨RX0, "openColumns", "(LShutterBench$Shutter;)V"⟩
abbrev cX0_sumUp : ByteArray := prog_2_method_6_code
def yX0_sumUp : MethodName := ⟨RX0, "sumUp", "(I)V"⟩
def RX1 : String := "ShutterBench$Shutter"
def TX1 : u_T := fun k => match k with
  | 0 => ("ShutterBench$Shutter", "springs", "[I", true)
  | 1 => ("ShutterBench$Shutter", "sinceCleaned", "[I", true)
  | 2 => ("ShutterBench$Shutter", "firstDrags", "[I", true)
  | 3 => ("ShutterBench$Shutter", "secondDrags", "[I", true)
  | 4 => ("ShutterBench$Shutter", "corrections", "[I", true)
  | 5 => ("ShutterBench$Shutter", "settings", "[I", true)
  | 6 => ("ShutterBench$Shutter", "shotsWith", "[I", true)
  | 7 => ("ShutterBench$Shutter", "shots", "I", false)
  | 8 => ("ShutterBench$Shutter", "lastLight", "I", false)
  | _ => ("ShutterBench$Shutter", "greatestSpread", "I", false)
def tyX1 : Nat → FieldType := fun k => match k with
  | 0 => .array .int
  | 1 => .array .int
  | 2 => .array .int
  | 3 => .array .int
  | 4 => .array .int
  | 5 => .array .int
  | 6 => .array .int
  | 7 => .int
  | 8 => .int
  | _ => .int
abbrev wsX10 : List Cond := u_ws RX1 TX1 10
theorem nmX1 : ∀ a, a < 10 → ∀ b, b < 10 → a ≠ b → (TX1 a).2.1 ≠ (TX1 b).2.1 := by decide +kernel
theorem tyX1_ok : ∀ k, k < 10 → parseFieldDescriptor (TX1 k).2.2.1 = some (tyX1 k) := by decide +kernel
abbrev cX1_init : ByteArray := prog_3_method_1_code
def yX1_init : MethodName := ⟨RX1, "<init>", "()V"⟩
abbrev cX1_become : ByteArray := prog_3_method_2_code
def yX1_become : MethodName := ⟨RX1, "become", "(LShutterBench$Shutter;)V"⟩
abbrev cX1_dragsOf : ByteArray := prog_3_method_3_code
def yX1_dragsOf : MethodName := ⟨RX1, "dragsOf", "(I)[I"⟩
abbrev cX1_ticksWithoutDrag : ByteArray := prog_3_method_4_code
def yX1_ticksWithoutDrag : MethodName := ⟨RX1, "ticksWithoutDrag", "(I)I"⟩
abbrev cX1_ticksForAll : ByteArray := prog_3_method_5_code
def yX1_ticksForAll : MethodName := ⟨RX1, "ticksForAll", "(I)I"⟩
abbrev cX1_slowestColumn : ByteArray := prog_3_method_6_code
def yX1_slowestColumn : MethodName := ⟨RX1, "slowestColumn", "(I)I"⟩
abbrev cX1_startOfSecond : ByteArray := prog_3_method_7_code
def yX1_startOfSecond : MethodName := ⟨RX1, "startOfSecond", "(I)I"⟩
abbrev cX1_bounceColumns : ByteArray := prog_3_method_8_code
def yX1_bounceColumns : MethodName := ⟨RX1, "bounceColumns", "()I"⟩
abbrev cX1_tally : ByteArray := prog_3_method_9_code
def yX1_tally : MethodName := ⟨RX1, "tally", "(ILShutterBench$Exposure;)V"⟩
def RX2 : String := "ShutterBench"
def TX2 : u_T := fun k => match k with
  | 0 => ("ShutterBench", "now", "LShutterBench$Shutter;", true)
  | 1 => ("ShutterBench", "probe", "LShutterBench$Shutter;", true)
  | 2 => ("ShutterBench", "exposure", "LShutterBench$Exposure;", true)
  | 3 => ("ShutterBench", "saved", "[LShutterBench$Shutter;", true)
  | 4 => ("ShutterBench", "savedStates", "I", false)
  | 5 => ("ShutterBench", "nextSaved", "I", false)
  | 6 => ("ShutterBench", "buffer", "[I", true)
  | _ => ("ShutterBench", "length", "I", false)
def tyX2 : Nat → FieldType := fun k => match k with
  | 0 => .object "ShutterBench$Shutter"
  | 1 => .object "ShutterBench$Shutter"
  | 2 => .object "ShutterBench$Exposure"
  | 3 => .array (.object "ShutterBench$Shutter")
  | 4 => .int
  | 5 => .int
  | 6 => .array .int
  | _ => .int
abbrev wsX20 : List Cond := u_ws RX2 TX2 8
theorem nmX2 : ∀ a, a < 8 → ∀ b, b < 8 → a ≠ b → (TX2 a).2.1 ≠ (TX2 b).2.1 := by decide +kernel
theorem tyX2_ok : ∀ k, k < 8 → parseFieldDescriptor (TX2 k).2.2.1 = some (tyX2 k) := by decide +kernel
abbrev cX2_init : ByteArray := prog_1_method_1_code
def yX2_init : MethodName := ⟨RX2, "<init>", "()V"⟩
abbrev cX2_wind : ByteArray := prog_1_method_2_code
def yX2_wind : MethodName := ⟨RX2, "wind", "(II)I"⟩
abbrev cX2_drag : ByteArray := prog_1_method_3_code
def yX2_drag : MethodName := ⟨RX2, "drag", "(IIII)I"⟩
abbrev cX2_clean : ByteArray := prog_1_method_4_code
def yX2_clean : MethodName := ⟨RX2, "clean", "(I)I"⟩
abbrev cX2_correct : ByteArray := prog_1_method_5_code
def yX2_correct : MethodName := ⟨RX2, "correct", "(II)I"⟩
abbrev cX2_set : ByteArray := prog_1_method_6_code
def yX2_set : MethodName := ⟨RX2, "set", "(II)I"⟩
abbrev cX2_shoot : ByteArray := prog_1_method_7_code
def yX2_shoot : MethodName := ⟨RX2, "shoot", "(II)I"⟩
abbrev cX2_append : ByteArray := prog_1_method_8_code
def yX2_append : MethodName := ⟨RX2, "append", "(I)I"⟩
abbrev cX2_clearBuffer : ByteArray := prog_1_method_9_code
def yX2_clearBuffer : MethodName := ⟨RX2, "clearBuffer", "()I"⟩
abbrev cX2_firstError : ByteArray := prog_1_method_10_code
def yX2_firstError : MethodName := ⟨RX2, "firstError", "()I"⟩
abbrev cX2_play : ByteArray := prog_1_method_11_code
def yX2_play : MethodName := ⟨RX2, "play", "()I"⟩
abbrev cX2_undo : ByteArray := prog_1_method_12_code
def yX2_undo : MethodName := ⟨RX2, "undo", "()I"⟩
abbrev cX2_curtain : ByteArray := prog_1_method_13_code
def yX2_curtain : MethodName := ⟨RX2, "curtain", "(II)I"⟩
abbrev cX2_column : ByteArray := prog_1_method_14_code
def yX2_column : MethodName := ⟨RX2, "column", "(III)I"⟩
abbrev cX2_speed : ByteArray := prog_1_method_15_code
def yX2_speed : MethodName := ⟨RX2, "speed", "(II)I"⟩
abbrev cX2_count : ByteArray := prog_1_method_16_code
def yX2_count : MethodName := ⟨RX2, "count", "(I)I"⟩
abbrev cX2_setting : ByteArray := prog_1_method_17_code
def yX2_setting : MethodName := ⟨RX2, "setting", "(I)I"⟩
abbrev cX2_bestCorrection : ByteArray := prog_1_method_18_code
def yX2_bestCorrection : MethodName := ⟨RX2, "bestCorrection", "(I)I"⟩
abbrev cX2_bestSpring : ByteArray := prog_1_method_19_code
def yX2_bestSpring : MethodName := ⟨RX2, "bestSpring", "(II)I"⟩
abbrev cX2_ifShot : ByteArray := prog_1_method_20_code
def yX2_ifShot : MethodName := ⟨RX2, "ifShot", "(III)I"⟩
abbrev cX2_goodFor : ByteArray := prog_1_method_21_code
def yX2_goodFor : MethodName := ⟨RX2, "goodFor", "(II)I"⟩
abbrev cX2_evenness : ByteArray := prog_1_method_22_code
def yX2_evenness : MethodName := ⟨RX2, "evenness", "(I)D"⟩
abbrev cX2_digest : ByteArray := prog_1_method_23_code
def yX2_digest : MethodName := ⟨RX2, "digest", "()J"⟩
abbrev cX2_mixCurtains : ByteArray := prog_1_method_24_code
def yX2_mixCurtains : MethodName := ⟨RX2, "mixCurtains", "(J)J"⟩
abbrev cX2_mixSpeeds : ByteArray := prog_1_method_25_code
def yX2_mixSpeeds : MethodName := ⟨RX2, "mixSpeeds", "(J)J"⟩
abbrev cX2_mixColumn : ByteArray := prog_1_method_26_code
def yX2_mixColumn : MethodName := ⟨RX2, "mixColumn", "(JI)J"⟩
abbrev cX2_mix : ByteArray := prog_1_method_27_code
def yX2_mix : MethodName := ⟨RX2, "mix", "(JJ)J"⟩
abbrev cX2_bitsOfShare : ByteArray := prog_1_method_28_code
def yX2_bitsOfShare : MethodName := ⟨RX2, "bitsOfShare", "(D)J"⟩
abbrev cX2_fire : ByteArray := prog_1_method_29_code
def yX2_fire : MethodName := ⟨RX2, "fire", "(LShutterBench$Shutter;II)V"⟩
abbrev cX2_savedAt : ByteArray := prog_1_method_30_code
def yX2_savedAt : MethodName := ⟨RX2, "savedAt", "(I)LShutterBench$Shutter;"⟩
abbrev cX2_saveState : ByteArray := prog_1_method_31_code
def yX2_saveState : MethodName := ⟨RX2, "saveState", "()V"⟩
abbrev cX2_isComplete : ByteArray := prog_1_method_32_code
def yX2_isComplete : MethodName := ⟨RX2, "isComplete", "()Z"⟩
abbrev cX2_placeAfter : ByteArray := prog_1_method_33_code
def yX2_placeAfter : MethodName := ⟨RX2, "placeAfter", "(II)I"⟩
abbrev cX2_placeAfterFirst : ByteArray := prog_1_method_34_code
def yX2_placeAfterFirst : MethodName := ⟨RX2, "placeAfterFirst", "(I)I"⟩
abbrev cX2_placeAfterPart : ByteArray := prog_1_method_35_code
def yX2_placeAfterPart : MethodName := ⟨RX2, "placeAfterPart", "(I)I"⟩
abbrev cX2_isCurtainDigit : ByteArray := prog_1_method_36_code
def yX2_isCurtainDigit : MethodName := ⟨RX2, "isCurtainDigit", "(I)Z"⟩
abbrev cX2_playPart : ByteArray := prog_1_method_37_code
def yX2_playPart : MethodName := ⟨RX2, "playPart", "(II)I"⟩
abbrev cX2_springOfText : ByteArray := prog_1_method_38_code
def yX2_springOfText : MethodName := ⟨RX2, "springOfText", "(II)I"⟩
abbrev cX2_digitAt : ByteArray := prog_1_method_39_code
def yX2_digitAt : MethodName := ⟨RX2, "digitAt", "(I)I"⟩
abbrev cX2_needCurtain : ByteArray := prog_1_method_40_code
def yX2_needCurtain : MethodName := ⟨RX2, "needCurtain", "(I)V"⟩
abbrev cX2_needSpeed : ByteArray := prog_1_method_41_code
def yX2_needSpeed : MethodName := ⟨RX2, "needSpeed", "(I)V"⟩
abbrev cX2_needSetting : ByteArray := prog_1_method_42_code
def yX2_needSetting : MethodName := ⟨RX2, "needSetting", "(I)V"⟩
abbrev cX2_needIndex : ByteArray := prog_1_method_43_code
def yX2_needIndex : MethodName := ⟨RX2, "needIndex", "(II)V"⟩
abbrev cX2_needRange : ByteArray := prog_1_method_44_code
def yX2_needRange : MethodName := ⟨RX2, "needRange", "(III)V"⟩
abbrev cX2_leastValue : ByteArray := prog_1_method_45_code
def yX2_leastValue : MethodName := ⟨RX2, "leastValue", "(I)I"⟩
abbrev cX2_mostValue : ByteArray := prog_1_method_46_code
def yX2_mostValue : MethodName := ⟨RX2, "mostValue", "(I)I"⟩
abbrev cX2_wantedLight : ByteArray := prog_1_method_47_code
def yX2_wantedLight : MethodName := ⟨RX2, "wantedLight", "(I)I"⟩
abbrev cX2_at : ByteArray := prog_1_method_48_code
def yX2_at : MethodName := ⟨RX2, "at", "([II)I"⟩
abbrev cX2_put : ByteArray := prog_1_method_49_code
def yX2_put : MethodName := ⟨RX2, "put", "([III)V"⟩
abbrev cX2_copyRow : ByteArray := prog_1_method_50_code
def yX2_copyRow : MethodName := ⟨RX2, "copyRow", "([I[I)V"⟩
def RX3 : String := "ShutterBenchModel"
def TX3 : u_T := fun k => match k with
  | 0 => ("ShutterBenchModel", "now", "[I", true)
  | 1 => ("ShutterBenchModel", "then", "[I", true)
  | 2 => ("ShutterBenchModel", "past", "[I", true)
  | 3 => ("ShutterBenchModel", "kept", "I", false)
  | 4 => ("ShutterBenchModel", "text", "[I", true)
  | 5 => ("ShutterBenchModel", "typed", "I", false)
  | 6 => ("ShutterBenchModel", "thrown", "I", false)
  | 7 => ("ShutterBenchModel", "at", "I", false)
  | 8 => ("ShutterBenchModel", "isFault", "Z", false)
  | 9 => ("ShutterBenchModel", "told", "[I", true)
  | 10 => ("ShutterBenchModel", "tolds", "I", false)
  | 11 => ("ShutterBenchModel", "lefts", "[I", true)
  | 12 => ("ShutterBenchModel", "covers", "[I", true)
  | _ => ("ShutterBenchModel", "lights", "[I", true)
def tyX3 : Nat → FieldType := fun k => match k with
  | 0 => .array .int
  | 1 => .array .int
  | 2 => .array .int
  | 3 => .int
  | 4 => .array .int
  | 5 => .int
  | 6 => .int
  | 7 => .int
  | 8 => .boolean
  | 9 => .array .int
  | 10 => .int
  | 11 => .array .int
  | 12 => .array .int
  | _ => .array .int
abbrev wsX30 : List Cond := u_ws RX3 TX3 14
theorem nmX3 : ∀ a, a < 14 → ∀ b, b < 14 → a ≠ b → (TX3 a).2.1 ≠ (TX3 b).2.1 := by decide +kernel
theorem tyX3_ok : ∀ k, k < 14 → parseFieldDescriptor (TX3 k).2.2.1 = some (tyX3 k) := by decide +kernel
abbrev cX3_init : ByteArray := prog_5_method_1_code
def yX3_init : MethodName := ⟨RX3, "<init>", "()V"⟩
abbrev cX3_thrown : ByteArray := prog_5_method_2_code
def yX3_thrown : MethodName := ⟨RX3, "thrown", "()I"⟩
abbrev cX3_fails : ByteArray := prog_5_method_3_code
def yX3_fails : MethodName := ⟨RX3, "fails", "(I)I"⟩
abbrev cX3_in : ByteArray := prog_5_method_4_code
def yX3_in : MethodName := ⟨RX3, "in", "(III)Z"⟩
abbrev cX3_isCurtain : ByteArray := prog_5_method_5_code
def yX3_isCurtain : MethodName := ⟨RX3, "isCurtain", "(I)Z"⟩
abbrev cX3_isSpeed : ByteArray := prog_5_method_6_code
def yX3_isSpeed : MethodName := ⟨RX3, "isSpeed", "(I)Z"⟩
abbrev cX3_isColumn : ByteArray := prog_5_method_7_code
def yX3_isColumn : MethodName := ⟨RX3, "isColumn", "(I)Z"⟩
abbrev cX3_copies : ByteArray := prog_5_method_8_code
def yX3_copies : MethodName := ⟨RX3, "copies", "([II[II)V"⟩
abbrev cX3_saves : ByteArray := prog_5_method_9_code
def yX3_saves : MethodName := ⟨RX3, "saves", "()V"⟩
abbrev cX3_undo : ByteArray := prog_5_method_10_code
def yX3_undo : MethodName := ⟨RX3, "undo", "()I"⟩
abbrev cX3_takes : ByteArray := prog_5_method_11_code
def yX3_takes : MethodName := ⟨RX3, "takes", "([III)I"⟩
abbrev cX3_wanted : ByteArray := prog_5_method_12_code
def yX3_wanted : MethodName := ⟨RX3, "wanted", "(I)I"⟩
abbrev cX3_start : ByteArray := prog_5_method_13_code
def yX3_start : MethodName := ⟨RX3, "start", "([II)I"⟩
abbrev cX3_bounced : ByteArray := prog_5_method_14_code
def yX3_bounced : MethodName := ⟨RX3, "bounced", "([I)I"⟩
abbrev cX3_lays : ByteArray := prog_5_method_15_code
def yX3_lays : MethodName := ⟨RX3, "lays", "([II)V"⟩
abbrev cX3_size : ByteArray := prog_5_method_16_code
def yX3_size : MethodName := ⟨RX3, "size", "(I)I"⟩
abbrev cX3_tells : ByteArray := prog_5_method_17_code
def yX3_tells : MethodName := ⟨RX3, "tells", "(II)I"⟩
abbrev cX3_shoots : ByteArray := prog_5_method_18_code
def yX3_shoots : MethodName := ⟨RX3, "shoots", "([II)V"⟩
abbrev cX3_changes : ByteArray := prog_5_method_19_code
def yX3_changes : MethodName := ⟨RX3, "changes", "(II)I"⟩
abbrev cX3_wind : ByteArray := prog_5_method_20_code
def yX3_wind : MethodName := ⟨RX3, "wind", "(II)I"⟩
abbrev cX3_drag : ByteArray := prog_5_method_21_code
def yX3_drag : MethodName := ⟨RX3, "drag", "(IIII)I"⟩
abbrev cX3_clean : ByteArray := prog_5_method_22_code
def yX3_clean : MethodName := ⟨RX3, "clean", "(I)I"⟩
abbrev cX3_correct : ByteArray := prog_5_method_23_code
def yX3_correct : MethodName := ⟨RX3, "correct", "(II)I"⟩
abbrev cX3_isFor : ByteArray := prog_5_method_24_code
def yX3_isFor : MethodName := ⟨RX3, "isFor", "(II)Z"⟩
abbrev cX3_set : ByteArray := prog_5_method_25_code
def yX3_set : MethodName := ⟨RX3, "set", "(II)I"⟩
abbrev cX3_shots : ByteArray := prog_5_method_26_code
def yX3_shots : MethodName := ⟨RX3, "shots", "([III)V"⟩
abbrev cX3_shoot : ByteArray := prog_5_method_27_code
def yX3_shoot : MethodName := ⟨RX3, "shoot", "(II)I"⟩
abbrev cX3_append : ByteArray := prog_5_method_28_code
def yX3_append : MethodName := ⟨RX3, "append", "(I)I"⟩
abbrev cX3_clearBuffer : ByteArray := prog_5_method_29_code
def yX3_clearBuffer : MethodName := ⟨RX3, "clearBuffer", "()I"⟩
abbrev cX3_isAt : ByteArray := prog_5_method_30_code
def yX3_isAt : MethodName := ⟨RX3, "isAt", "(II)Z"⟩
abbrev cX3_stops : ByteArray := prog_5_method_31_code
def yX3_stops : MethodName := ⟨RX3, "stops", "()Z"⟩
abbrev cX3_isDigit : ByteArray := prog_5_method_32_code
def yX3_isDigit : MethodName := ⟨RX3, "isDigit", "(III)Z"⟩
abbrev cX3_isWinding : ByteArray := prog_5_method_33_code
def yX3_isWinding : MethodName := ⟨RX3, "isWinding", "()Z"⟩
abbrev cX3_isPart : ByteArray := prog_5_method_34_code
def yX3_isPart : MethodName := ⟨RX3, "isPart", "()Z"⟩
abbrev cX3_isText : ByteArray := prog_5_method_35_code
def yX3_isText : MethodName := ⟨RX3, "isText", "()Z"⟩
abbrev cX3_firstError : ByteArray := prog_5_method_36_code
def yX3_firstError : MethodName := ⟨RX3, "firstError", "()I"⟩
abbrev cX3_play : ByteArray := prog_5_method_37_code
def yX3_play : MethodName := ⟨RX3, "play", "()I"⟩
abbrev cX3_ofCurtain : ByteArray := prog_5_method_38_code
def yX3_ofCurtain : MethodName := ⟨RX3, "ofCurtain", "(II)I"⟩
abbrev cX3_curtain : ByteArray := prog_5_method_39_code
def yX3_curtain : MethodName := ⟨RX3, "curtain", "(II)I"⟩
abbrev cX3_ofColumn : ByteArray := prog_5_method_40_code
def yX3_ofColumn : MethodName := ⟨RX3, "ofColumn", "(III)I"⟩
abbrev cX3_column : ByteArray := prog_5_method_41_code
def yX3_column : MethodName := ⟨RX3, "column", "(III)I"⟩
abbrev cX3_ofSpeed : ByteArray := prog_5_method_42_code
def yX3_ofSpeed : MethodName := ⟨RX3, "ofSpeed", "(II)I"⟩
abbrev cX3_speed : ByteArray := prog_5_method_43_code
def yX3_speed : MethodName := ⟨RX3, "speed", "(II)I"⟩
abbrev cX3_counted : ByteArray := prog_5_method_44_code
def yX3_counted : MethodName := ⟨RX3, "counted", "(I)I"⟩
abbrev cX3_count : ByteArray := prog_5_method_45_code
def yX3_count : MethodName := ⟨RX3, "count", "(I)I"⟩
abbrev cX3_setting : ByteArray := prog_5_method_46_code
def yX3_setting : MethodName := ⟨RX3, "setting", "(I)I"⟩
abbrev cX3_best : ByteArray := prog_5_method_47_code
def yX3_best : MethodName := ⟨RX3, "best", "(IIIII)I"⟩
abbrev cX3_bestCorrection : ByteArray := prog_5_method_48_code
def yX3_bestCorrection : MethodName := ⟨RX3, "bestCorrection", "(I)I"⟩
abbrev cX3_bestSpring : ByteArray := prog_5_method_49_code
def yX3_bestSpring : MethodName := ⟨RX3, "bestSpring", "(II)I"⟩
abbrev cX3_byShooting : ByteArray := prog_5_method_50_code
def yX3_byShooting : MethodName := ⟨RX3, "byShooting", "(III)I"⟩
abbrev cX3_ifShot : ByteArray := prog_5_method_51_code
def yX3_ifShot : MethodName := ⟨RX3, "ifShot", "(III)I"⟩
abbrev cX3_good : ByteArray := prog_5_method_52_code
def yX3_good : MethodName := ⟨RX3, "good", "(II)I"⟩
abbrev cX3_goodFor : ByteArray := prog_5_method_53_code
def yX3_goodFor : MethodName := ⟨RX3, "goodFor", "(II)I"⟩
abbrev cX3_share : ByteArray := prog_5_method_54_code
def yX3_share : MethodName := ⟨RX3, "share", "(I)D"⟩
abbrev cX3_evenness : ByteArray := prog_5_method_55_code
def yX3_evenness : MethodName := ⟨RX3, "evenness", "(I)D"⟩
abbrev cX3_digest : ByteArray := prog_5_method_56_code
def yX3_digest : MethodName := ⟨RX3, "digest", "()J"⟩
def RJxe99ae : String := "java/lang/Double"
def TJxe99ae : u_T := fun k => match k with
  | _ => ("", "", "", false)
def tyJxe99ae : Nat → FieldType := fun k => match k with
  | _ => .int
abbrev wsJxe99ae0 : List Cond := u_ws RJxe99ae TJxe99ae 0
theorem nmJxe99ae : ∀ a, a < 0 → ∀ b, b < 0 → a ≠ b → (TJxe99ae a).2.1 ≠ (TJxe99ae b).2.1 := by decide +kernel
theorem tyJxe99ae_ok : ∀ k, k < 0 → parseFieldDescriptor (TJxe99ae k).2.2.1 = some (tyJxe99ae k) := by decide +kernel
abbrev cJxe99ae_isNaN_b9ae7 : ByteArray := prog_6_method_6_code
def yJxe99ae_isNaN_b9ae7 : MethodName := ⟨RJxe99ae, "isNaN", "(D)Z"⟩
abbrev cJxe99ae_doubleToLongBits_ccdee : ByteArray := prog_6_method_23_code
def yJxe99ae_doubleToLongBits_ccdee : MethodName := ⟨RJxe99ae, "doubleToLongBits", "(D)J"⟩
def RJ9 : String := "java/lang/Math"
def TJ9 : u_T := fun k => match k with
  | _ => ("", "", "", false)
def tyJ9 : Nat → FieldType := fun k => match k with
  | _ => .int
abbrev wsJ90 : List Cond := u_ws RJ9 TJ9 0
theorem nmJ9 : ∀ a, a < 0 → ∀ b, b < 0 → a ≠ b → (TJ9 a).2.1 ≠ (TJ9 b).2.1 := by decide +kernel
theorem tyJ9_ok : ∀ k, k < 0 → parseFieldDescriptor (TJ9 k).2.2.1 = some (tyJ9 k) := by decide +kernel
abbrev cJ9_abs_0f7a4 : ByteArray := prog_11_method_59_code
def yJ9_abs_0f7a4 : MethodName := ⟨RJ9, "abs", "(I)I"⟩
abbrev cJ9_max_7cf53 : ByteArray := prog_11_method_65_code
def yJ9_max_7cf53 : MethodName := ⟨RJ9, "max", "(II)I"⟩
abbrev cJ9_min_7cf53 : ByteArray := prog_11_method_69_code
def yJ9_min_7cf53 : MethodName := ⟨RJ9, "min", "(II)I"⟩
def RJ0 : String := "java/lang/String"
def TJ0 : u_T := fun k => match k with
  | _ => ("", "", "", false)
def tyJ0 : Nat → FieldType := fun k => match k with
  | _ => .int
abbrev wsJ00 : List Cond := u_ws RJ0 TJ0 0
theorem nmJ0 : ∀ a, a < 0 → ∀ b, b < 0 → a ≠ b → (TJ0 a).2.1 ≠ (TJ0 b).2.1 := by decide +kernel
theorem tyJ0_ok : ∀ k, k < 0 → parseFieldDescriptor (TJ0 k).2.2.1 = some (tyJ0 k) := by decide +kernel
def RL : String := "ShutterBenchLaw"
abbrev cL_wind : ByteArray := method_3_code
def yL_wind : MethodName := ⟨RL, "wind", "(LShutterBench;II[J)I"⟩
abbrev cL_drag : ByteArray := method_4_code
def yL_drag : MethodName := ⟨RL, "drag", "(LShutterBench;IIII[J)I"⟩
abbrev cL_clean : ByteArray := method_5_code
def yL_clean : MethodName := ⟨RL, "clean", "(LShutterBench;I[J)I"⟩
abbrev cL_correct : ByteArray := method_6_code
def yL_correct : MethodName := ⟨RL, "correct", "(LShutterBench;II[J)I"⟩
abbrev cL_set : ByteArray := method_7_code
def yL_set : MethodName := ⟨RL, "set", "(LShutterBench;II[J)I"⟩
abbrev cL_shoot : ByteArray := method_8_code
def yL_shoot : MethodName := ⟨RL, "shoot", "(LShutterBench;II[J)I"⟩
abbrev cL_append : ByteArray := method_9_code
def yL_append : MethodName := ⟨RL, "append", "(LShutterBench;I[J)I"⟩
abbrev cL_play : ByteArray := method_10_code
def yL_play : MethodName := ⟨RL, "play", "(LShutterBench;[J)I"⟩
abbrev cL_undo : ByteArray := method_11_code
def yL_undo : MethodName := ⟨RL, "undo", "(LShutterBench;[J)I"⟩
abbrev cL_curtain : ByteArray := method_12_code
def yL_curtain : MethodName := ⟨RL, "curtain", "(LShutterBench;II[J)I"⟩
abbrev cL_column : ByteArray := method_13_code
def yL_column : MethodName := ⟨RL, "column", "(LShutterBench;III[J)I"⟩
abbrev cL_speed : ByteArray := method_14_code
def yL_speed : MethodName := ⟨RL, "speed", "(LShutterBench;II[J)I"⟩
abbrev cL_count : ByteArray := method_15_code
def yL_count : MethodName := ⟨RL, "count", "(LShutterBench;I[J)I"⟩
abbrev cL_setting : ByteArray := method_16_code
def yL_setting : MethodName := ⟨RL, "setting", "(LShutterBench;I[J)I"⟩
abbrev cL_bestCorrection : ByteArray := method_17_code
def yL_bestCorrection : MethodName := ⟨RL, "bestCorrection", "(LShutterBench;I[J)I"⟩
abbrev cL_bestSpring : ByteArray := method_18_code
def yL_bestSpring : MethodName := ⟨RL, "bestSpring", "(LShutterBench;II[J)I"⟩
abbrev cL_ifShot : ByteArray := method_19_code
def yL_ifShot : MethodName := ⟨RL, "ifShot", "(LShutterBench;III[J)I"⟩
abbrev cL_goodFor : ByteArray := method_20_code
def yL_goodFor : MethodName := ⟨RL, "goodFor", "(LShutterBench;II[J)I"⟩
abbrev cL_evenness : ByteArray := method_21_code
def yL_evenness : MethodName := ⟨RL, "evenness", "(LShutterBench;I[D)I"⟩
abbrev cL_law : ByteArray := code
def yL_law : MethodName := ⟨RL, "law", "([I)Z"⟩
def wsJxe99ae_isNaN_b9ae7 : List Cond := .code yJxe99ae_isNaN_b9ae7 cJxe99ae_isNaN_b9ae7 2 (some .boolean) :: ([])
def wsJxe99ae_doubleToLongBits_ccdee : List Cond := .code yJxe99ae_doubleToLongBits_ccdee cJxe99ae_doubleToLongBits_ccdee 2 (some .long) :: ([.methodLink RJxe99ae 134 ⟨"java/lang/Double", "doubleToRawLongBits", "(D)J"⟩, .native ⟨"java/lang/Double", "doubleToRawLongBits", "(D)J"⟩, .static ⟨"java/lang/Double", "doubleToRawLongBits", "(D)J"⟩, .initialized "java/lang/Double", .constantLong RJxe99ae 137 (9221120237041090560), .methodLink RJxe99ae 122 yJxe99ae_isNaN_b9ae7, .static yJxe99ae_isNaN_b9ae7, .initialized RJxe99ae, .code yJxe99ae_isNaN_b9ae7 cJxe99ae_isNaN_b9ae7 2 (some .boolean)])
def wsJ9_abs_0f7a4 : List Cond := .code yJ9_abs_0f7a4 cJ9_abs_0f7a4 1 (some .int) :: ([])
def wsJ9_max_7cf53 : List Cond := .code yJ9_max_7cf53 cJ9_max_7cf53 2 (some .int) :: ([])
def wsJ9_min_7cf53 : List Cond := .code yJ9_min_7cf53 cJ9_min_7cf53 2 (some .int) :: ([])
def wsL_law0_r1 : List Cond := [Cond.classLink RL 8 RX2, Cond.instantiable RX2 8, Cond.initialized RX2, Cond.classLink RL 79 RX3, Cond.instantiable RX3 14, Cond.initialized RX3, Cond.arrayClass .long, Cond.arrayClass .double, Cond.methodLink RL 78 yX2_init, Cond.instanceMethod yX2_init, Cond.code yX2_init cX2_init 2 none, Cond.methodLink RX2 1 objectInit, Cond.instanceMethod objectInit, Cond.code objectInit ⟨#[0xb1]⟩ 1 none, Cond.classLink RX2 7 RX1, Cond.instantiable RX1 10, Cond.initialized RX1, Cond.fieldLink RX2 10 "ShutterBench" "now" "LShutterBench$Shutter;", Cond.fieldLink RX2 16 "ShutterBench" "probe" "LShutterBench$Shutter;", Cond.classLink RX2 19 RX0, Cond.instantiable RX0 10, Cond.initialized RX0, Cond.fieldLink RX2 22 "ShutterBench" "exposure" "LShutterBench$Exposure;", Cond.fieldLink RX2 26 "ShutterBench" "saved" "[LShutterBench$Shutter;"]
def wsL_law0_r2 : List Cond := [Cond.fieldLink RX2 30 "ShutterBench" "savedStates" "I", Cond.fieldLink RX2 34 "ShutterBench" "nextSaved" "I", Cond.arrayClass .int, Cond.fieldLink RX2 37 "ShutterBench" "buffer" "[I", Cond.fieldLink RX2 41 "ShutterBench" "length" "I", Cond.methodLink RX2 9 yX1_init, Cond.instanceMethod yX1_init, Cond.code yX1_init cX1_init 1 none, Cond.methodLink RX1 3 objectInit, Cond.fieldLink RX1 9 "ShutterBench$Shutter" "springs" "[I", Cond.fieldLink RX1 15 "ShutterBench$Shutter" "sinceCleaned" "[I", Cond.fieldLink RX1 18 "ShutterBench$Shutter" "firstDrags" "[I", Cond.fieldLink RX1 21 "ShutterBench$Shutter" "secondDrags" "[I", Cond.fieldLink RX1 24 "ShutterBench$Shutter" "corrections" "[I", Cond.fieldLink RX1 27 "ShutterBench$Shutter" "settings" "[I", Cond.fieldLink RX1 30 "ShutterBench$Shutter" "shotsWith" "[I", Cond.fieldLink RX1 33 "ShutterBench$Shutter" "shots" "I", Cond.fieldLink RX1 37 "ShutterBench$Shutter" "lastLight" "I", Cond.fieldLink RX1 40 "ShutterBench$Shutter" "greatestSpread" "I", Cond.methodLink RX2 21 yX0_init, Cond.instanceMethod yX0_init, Cond.code yX0_init cX0_init 1 none, Cond.methodLink RX0 3 objectInit, Cond.fieldLink RX0 9 "ShutterBench$Exposure" "leftAt" "[I"]
def wsL_law0_r3 : List Cond := [Cond.fieldLink RX0 15 "ShutterBench$Exposure" "coveredAt" "[I", Cond.fieldLink RX0 18 "ShutterBench$Exposure" "light" "[I", Cond.methodLink RL 81 yX3_init, Cond.instanceMethod yX3_init, Cond.code yX3_init cX3_init 1 none, Cond.methodLink RX3 1 objectInit, Cond.fieldLink RX3 7 "ShutterBenchModel" "now" "[I", Cond.fieldLink RX3 13 "ShutterBenchModel" "then" "[I", Cond.fieldLink RX3 16 "ShutterBenchModel" "past" "[I", Cond.fieldLink RX3 19 "ShutterBenchModel" "text" "[I", Cond.fieldLink RX3 22 "ShutterBenchModel" "told" "[I", Cond.fieldLink RX3 25 "ShutterBenchModel" "lefts" "[I", Cond.fieldLink RX3 28 "ShutterBenchModel" "covers" "[I", Cond.fieldLink RX3 31 "ShutterBenchModel" "lights" "[I", Cond.methodLink RL 82 yL_wind, Cond.static yL_wind, Cond.initialized RL, Cond.codeWith yL_wind cL_wind 5 (some .int) [(0, 10, 13, 13), (0, 10, 17, 15)], Cond.classLink RL 13 "java/lang/IndexOutOfBoundsException", Cond.classLink RL 15 "java/lang/IllegalArgumentException", Cond.methodLink RL 7 yX2_wind, Cond.instanceMethod yX2_wind, Cond.selects RX2 yX2_wind yX2_wind, Cond.code yX2_wind cX2_wind 4 (some .int)]
def wsL_law0_r4 : List Cond := [Cond.fieldLink RX2 55 "ShutterBench$Shutter" "springs" "[I", Cond.methodLink RX2 44 yX2_needCurtain, Cond.static yX2_needCurtain, Cond.code yX2_needCurtain cX2_needCurtain 1 none, Cond.methodLink RX2 139 yX2_needIndex, Cond.static yX2_needIndex, Cond.code yX2_needIndex cX2_needIndex 2 none, Cond.classLink RX2 287 "java/lang/IndexOutOfBoundsException", Cond.initialized "java/lang/IndexOutOfBoundsException", Cond.methodLink RX2 48 yX2_needRange, Cond.static yX2_needRange, Cond.code yX2_needRange cX2_needRange 3 none, Cond.classLink RX2 115 "java/lang/IllegalArgumentException", Cond.initialized "java/lang/IllegalArgumentException", Cond.methodLink RX2 52 yX2_saveState, Cond.instanceMethod yX2_saveState, Cond.selects RX2 yX2_saveState yX2_saveState, Cond.code yX2_saveState cX2_saveState 2 none, Cond.methodLink RX2 268 Lib.Math.min.name, Cond.static Lib.Math.min.name, Cond.initialized "java/lang/Math", Cond.code Lib.Math.min.name Lib.Math.min.code 2 (some .int), Cond.methodLink RX2 125 yX2_savedAt, Cond.instanceMethod yX2_savedAt]
def wsL_law0_r5 : List Cond := [Cond.selects RX2 yX2_savedAt yX2_savedAt, Cond.code yX2_savedAt cX2_savedAt 2 (some (.object "ShutterBench$Shutter")), Cond.methodLink RX2 129 yX1_become, Cond.instanceMethod yX1_become, Cond.selects RX1 yX1_become yX1_become, Cond.code yX1_become cX1_become 2 none, Cond.static yX2_copyRow, Cond.code yX2_copyRow cX2_copyRow 3 none, Cond.methodLink RX2 58 yX2_at, Cond.static yX2_at, Cond.code yX2_at cX2_at 2 (some .int), Cond.methodLink RX2 62 yX2_put, Cond.static yX2_put, Cond.code yX2_put cX2_put 3 none, Cond.methodLink RL 87 yX3_wind, Cond.instanceMethod yX3_wind, Cond.selects RX3 yX3_wind yX3_wind, Cond.code yX3_wind cX3_wind 3 (some .int), Cond.fieldLink RX3 34 "ShutterBenchModel" "thrown" "I", Cond.methodLink RX3 79 yX3_isCurtain, Cond.static yX3_isCurtain, Cond.code yX3_isCurtain cX3_isCurtain 1 (some .boolean), Cond.methodLink RX3 38 yX3_in, Cond.static yX3_in]
def wsL_law0_r6 : List Cond := [Cond.code yX3_in cX3_in 3 (some .boolean), Cond.methodLink RX3 49 yX3_fails, Cond.instanceMethod yX3_fails, Cond.selects RX3 yX3_fails yX3_fails, Cond.code yX3_fails cX3_fails 2 (some .int), Cond.methodLink RX3 83 yX3_saves, Cond.instanceMethod yX3_saves, Cond.selects RX3 yX3_saves yX3_saves, Cond.code yX3_saves cX3_saves 2 none, Cond.fieldLink RX3 42 "ShutterBenchModel" "kept" "I", Cond.methodLink RX3 45 yX3_copies, Cond.static yX3_copies, Cond.code yX3_copies cX3_copies 5 none, Cond.methodLink RX3 86 yX3_changes, Cond.instanceMethod yX3_changes, Cond.selects RX3 yX3_changes yX3_changes, Cond.code yX3_changes cX3_changes 4 (some .int), Cond.methodLink RL 88 yX3_thrown, Cond.instanceMethod yX3_thrown, Cond.selects RX3 yX3_thrown yX3_thrown, Cond.code yX3_thrown cX3_thrown 1 (some .int), Cond.methodLink RL 91 yL_drag, Cond.static yL_drag, Cond.codeWith yL_drag cL_drag 7 (some .int) [(0, 14, 17, 13), (0, 14, 21, 15)]]
def wsL_law0_r7 : List Cond := [Cond.methodLink RL 17 yX2_drag, Cond.instanceMethod yX2_drag, Cond.selects RX2 yX2_drag yX2_drag, Cond.code yX2_drag cX2_drag 8 (some .int), Cond.methodLink RX2 66 yX1_dragsOf, Cond.instanceMethod yX1_dragsOf, Cond.selects RX1 yX1_dragsOf yX1_dragsOf, Cond.code yX1_dragsOf cX1_dragsOf 2 (some (.array .int)), Cond.methodLink RL 94 yX3_drag, Cond.instanceMethod yX3_drag, Cond.selects RX3 yX3_drag yX3_drag, Cond.code yX3_drag cX3_drag 7 (some .int), Cond.methodLink RX3 89 yX3_isColumn, Cond.static yX3_isColumn, Cond.code yX3_isColumn cX3_isColumn 1 (some .boolean), Cond.methodLink RL 95 yL_clean, Cond.static yL_clean, Cond.codeWith yL_clean cL_clean 4 (some .int) [(0, 9, 12, 13)], Cond.methodLink RL 21 yX2_clean, Cond.instanceMethod yX2_clean, Cond.selects RX2 yX2_clean yX2_clean, Cond.code yX2_clean cX2_clean 3 (some .int), Cond.fieldLink RX2 70 "ShutterBench$Shutter" "sinceCleaned" "[I", Cond.methodLink RL 98 yX3_clean]
def wsL_law0_r8 : List Cond := [Cond.instanceMethod yX3_clean, Cond.selects RX3 yX3_clean yX3_clean, Cond.code yX3_clean cX3_clean 2 (some .int), Cond.methodLink RL 99 yL_correct, Cond.static yL_correct, Cond.codeWith yL_correct cL_correct 5 (some .int) [(0, 10, 13, 13), (0, 10, 17, 15)], Cond.methodLink RL 25 yX2_correct, Cond.instanceMethod yX2_correct, Cond.selects RX2 yX2_correct yX2_correct, Cond.code yX2_correct cX2_correct 4 (some .int), Cond.fieldLink RX2 76 "ShutterBench$Shutter" "corrections" "[I", Cond.methodLink RX2 73 yX2_needSpeed, Cond.static yX2_needSpeed, Cond.code yX2_needSpeed cX2_needSpeed 1 none, Cond.methodLink RL 101 yX3_correct, Cond.instanceMethod yX3_correct, Cond.selects RX3 yX3_correct yX3_correct, Cond.code yX3_correct cX3_correct 3 (some .int), Cond.methodLink RX3 92 yX3_isSpeed, Cond.static yX3_isSpeed, Cond.code yX3_isSpeed cX3_isSpeed 1 (some .boolean), Cond.methodLink RL 102 yL_set, Cond.static yL_set, Cond.codeWith yL_set cL_set 5 (some .int) [(0, 10, 13, 13), (0, 10, 17, 15)]]
def wsL_law0_r9 : List Cond := [Cond.methodLink RL 28 yX2_set, Cond.instanceMethod yX2_set, Cond.selects RX2 yX2_set yX2_set, Cond.code yX2_set cX2_set 4 (some .int), Cond.fieldLink RX2 89 "ShutterBench$Shutter" "settings" "[I", Cond.methodLink RX2 79 yX2_needSetting, Cond.static yX2_needSetting, Cond.code yX2_needSetting cX2_needSetting 1 none, Cond.methodLink RX2 82 yX2_leastValue, Cond.static yX2_leastValue, Cond.code yX2_leastValue cX2_leastValue 1 (some .int), Cond.methodLink RX2 86 yX2_mostValue, Cond.static yX2_mostValue, Cond.code yX2_mostValue cX2_mostValue 1 (some .int), Cond.methodLink RL 104 yX3_set, Cond.instanceMethod yX3_set, Cond.selects RX3 yX3_set yX3_set, Cond.code yX3_set cX3_set 3 (some .int), Cond.methodLink RX3 95 yX3_isFor, Cond.static yX3_isFor, Cond.code yX3_isFor cX3_isFor 2 (some .boolean), Cond.methodLink RL 105 yL_shoot, Cond.static yL_shoot, Cond.codeWith yL_shoot cL_shoot 5 (some .int) [(0, 10, 13, 13), (0, 10, 17, 15)]]
def wsL_law0_r10 : List Cond := [Cond.methodLink RL 31 yX2_shoot, Cond.instanceMethod yX2_shoot, Cond.selects RX2 yX2_shoot yX2_shoot, Cond.code yX2_shoot cX2_shoot 3 (some .int), Cond.methodLink RX2 92 yX2_fire, Cond.instanceMethod yX2_fire, Cond.selects RX2 yX2_fire yX2_fire, Cond.code yX2_fire cX2_fire 5 none, Cond.methodLink RX2 143 yX0_expose, Cond.instanceMethod yX0_expose, Cond.selects RX0 yX0_expose yX0_expose, Cond.code yX0_expose cX0_expose 3 none, Cond.methodLink RX0 28 yX0_runCurtains, Cond.instanceMethod yX0_runCurtains, Cond.selects RX0 yX0_runCurtains yX0_runCurtains, Cond.code yX0_runCurtains cX0_runCurtains 8 none, Cond.fieldLink RX0 52 "ShutterBench$Shutter" "firstDrags" "[I", Cond.fieldLink RX0 59 "ShutterBench$Shutter" "secondDrags" "[I", Cond.methodLink RX0 62 Lib.Math.max.name, Cond.static Lib.Math.max.name, Cond.code Lib.Math.max.name Lib.Math.max.code 2 (some .int), Cond.methodLink RX0 44 yX1_ticksWithoutDrag, Cond.instanceMethod yX1_ticksWithoutDrag, Cond.selects RX1 yX1_ticksWithoutDrag yX1_ticksWithoutDrag]
def wsL_law0_r11 : List Cond := [Cond.code yX1_ticksWithoutDrag cX1_ticksWithoutDrag 4 (some .int), Cond.methodLink RX0 49 yX1_startOfSecond, Cond.instanceMethod yX1_startOfSecond, Cond.selects RX1 yX1_startOfSecond yX1_startOfSecond, Cond.code yX1_startOfSecond cX1_startOfSecond 2 (some .int), Cond.methodLink RX1 62 Lib.Math.max.name, Cond.static yX2_wantedLight, Cond.code yX2_wantedLight cX2_wantedLight 1 (some .int), Cond.methodLink RX0 32 yX0_openColumns, Cond.instanceMethod yX0_openColumns, Cond.selects RX0 yX0_openColumns yX0_openColumns, Cond.code yX0_openColumns cX0_openColumns 9 none, Cond.fieldLink RX0 68 "ShutterBench$Shutter" "settings" "[I", Cond.methodLink RX0 75 Lib.Math.min.name, Cond.methodLink RX0 71 yX1_bounceColumns, Cond.instanceMethod yX1_bounceColumns, Cond.selects RX1 yX1_bounceColumns yX1_bounceColumns, Cond.code yX1_bounceColumns cX1_bounceColumns 2 (some .int), Cond.methodLink RX1 68 Lib.Math.min.name, Cond.methodLink RX0 40 yX0_sumUp, Cond.instanceMethod yX0_sumUp, Cond.selects RX0 yX0_sumUp yX0_sumUp, Cond.code yX0_sumUp cX0_sumUp 4 none, Cond.fieldLink RX0 78 "ShutterBench$Exposure" "allLight" "I"]
def wsL_law0_r12 : List Cond := [Cond.fieldLink RX0 25 "ShutterBench$Exposure" "leastLight" "I", Cond.fieldLink RX0 21 "ShutterBench$Exposure" "mostLight" "I", Cond.fieldLink RX0 81 "ShutterBench$Exposure" "allErrors" "I", Cond.fieldLink RX0 84 "ShutterBench$Exposure" "worstError" "I", Cond.fieldLink RX0 87 "ShutterBench$Exposure" "worstColumn" "I", Cond.fieldLink RX0 90 "ShutterBench$Exposure" "darkColumns" "I", Cond.methodLink RX0 93 Lib.Math.abs.name, Cond.static Lib.Math.abs.name, Cond.code Lib.Math.abs.name Lib.Math.abs.code 1 (some .int), Cond.methodLink RX2 197 yX1_tally, Cond.instanceMethod yX1_tally, Cond.selects RX1 yX1_tally yX1_tally, Cond.code yX1_tally cX1_tally 6 none, Cond.fieldLink RX1 75 "ShutterBench$Exposure" "allLight" "I", Cond.methodLink RX1 80 yX0_spread, Cond.instanceMethod yX0_spread, Cond.selects RX0 yX0_spread yX0_spread, Cond.code yX0_spread cX0_spread 1 (some .int), Cond.methodLink RX2 96 yX0_spread, Cond.methodLink RL 107 yX3_shoot, Cond.instanceMethod yX3_shoot, Cond.selects RX3 yX3_shoot yX3_shoot, Cond.code yX3_shoot cX3_shoot 3 (some .int), Cond.methodLink RX3 102 yX3_shots]
def wsL_law0_r13 : List Cond := [Cond.instanceMethod yX3_shots, Cond.selects RX3 yX3_shots yX3_shots, Cond.code yX3_shots cX3_shots 5 none, Cond.methodLink RX3 99 yX3_shoots, Cond.instanceMethod yX3_shoots, Cond.selects RX3 yX3_shoots yX3_shoots, Cond.code yX3_shoots cX3_shoots 5 none, Cond.methodLink RX3 71 yX3_lays, Cond.instanceMethod yX3_lays, Cond.selects RX3 yX3_lays yX3_lays, Cond.code yX3_lays cX3_lays 7 none, Cond.methodLink RX3 56 yX3_start, Cond.static yX3_start, Cond.code yX3_start cX3_start 3 (some .int), Cond.methodLink RX3 53 yX3_wanted, Cond.static yX3_wanted, Cond.code yX3_wanted cX3_wanted 1 (some .int), Cond.methodLink RX3 60 yX3_takes, Cond.static yX3_takes, Cond.code yX3_takes cX3_takes 3 (some .int), Cond.methodLink RX3 64 yX3_bounced, Cond.static yX3_bounced, Cond.code yX3_bounced cX3_bounced 2 (some .int), Cond.methodLink RX3 75 yX3_tells]
def wsL_law0_r14 : List Cond := [Cond.instanceMethod yX3_tells, Cond.selects RX3 yX3_tells yX3_tells, Cond.code yX3_tells cX3_tells 12 (some .int), Cond.methodLink RX3 68 yX3_size, Cond.static yX3_size, Cond.code yX3_size cX3_size 1 (some .int), Cond.methodLink RL 108 yL_append, Cond.static yL_append, Cond.codeWith yL_append cL_append 4 (some .int) [(0, 9, 12, 15), (0, 9, 15, 37)], Cond.classLink RL 37 "java/lang/IllegalStateException", Cond.methodLink RL 34 yX2_append, Cond.instanceMethod yX2_append, Cond.selects RX2 yX2_append yX2_append, Cond.code yX2_append cX2_append 2 (some .int), Cond.classLink RX2 100 "java/lang/IllegalStateException", Cond.initialized "java/lang/IllegalStateException", Cond.methodLink RL 110 yX3_append, Cond.instanceMethod yX3_append, Cond.selects RX3 yX3_append yX3_append, Cond.code yX3_append cX3_append 2 (some .int), Cond.fieldLink RX3 106 "ShutterBenchModel" "typed" "I", Cond.methodLink RL 111 yX2_clearBuffer, Cond.instanceMethod yX2_clearBuffer, Cond.selects RX2 yX2_clearBuffer yX2_clearBuffer]
def wsL_law0_r15 : List Cond := [Cond.code yX2_clearBuffer cX2_clearBuffer 2 (some .int), Cond.methodLink RL 114 yX3_clearBuffer, Cond.instanceMethod yX3_clearBuffer, Cond.selects RX3 yX3_clearBuffer yX3_clearBuffer, Cond.code yX3_clearBuffer cX3_clearBuffer 2 (some .int), Cond.methodLink RL 115 yX2_firstError, Cond.instanceMethod yX2_firstError, Cond.selects RX2 yX2_firstError yX2_firstError, Cond.code yX2_firstError cX2_firstError 3 (some .int), Cond.methodLink RX2 107 yX2_placeAfter, Cond.static yX2_placeAfter, Cond.code yX2_placeAfter cX2_placeAfter 2 (some .int), Cond.methodLink RX2 271 yX2_placeAfterFirst, Cond.static yX2_placeAfterFirst, Cond.code yX2_placeAfterFirst cX2_placeAfterFirst 1 (some .int), Cond.methodLink RX2 274 yX2_placeAfterPart, Cond.static yX2_placeAfterPart, Cond.code yX2_placeAfterPart cX2_placeAfterPart 1 (some .int), Cond.methodLink RX2 277 yX2_isCurtainDigit, Cond.static yX2_isCurtainDigit, Cond.code yX2_isCurtainDigit cX2_isCurtainDigit 1 (some .boolean), Cond.methodLink RL 118 yX3_firstError, Cond.instanceMethod yX3_firstError, Cond.selects RX3 yX3_firstError yX3_firstError]
def wsL_law0_r16 : List Cond := [Cond.code yX3_firstError cX3_firstError 2 (some .int), Cond.fieldLink RX3 112 "ShutterBenchModel" "isFault" "Z", Cond.fieldLink RX3 109 "ShutterBenchModel" "at" "I", Cond.methodLink RX3 135 yX3_isText, Cond.instanceMethod yX3_isText, Cond.selects RX3 yX3_isText yX3_isText, Cond.code yX3_isText cX3_isText 2 (some .boolean), Cond.fieldLink RX3 123 "ShutterBenchModel" "tolds" "I", Cond.methodLink RX3 132 yX3_isPart, Cond.instanceMethod yX3_isPart, Cond.selects RX3 yX3_isPart yX3_isPart, Cond.code yX3_isPart cX3_isPart 2 (some .boolean), Cond.methodLink RX3 129 yX3_isWinding, Cond.instanceMethod yX3_isWinding, Cond.selects RX3 yX3_isWinding yX3_isWinding, Cond.code yX3_isWinding cX3_isWinding 1 (some .boolean), Cond.methodLink RX3 126 yX3_isDigit, Cond.instanceMethod yX3_isDigit, Cond.selects RX3 yX3_isDigit yX3_isDigit, Cond.code yX3_isDigit cX3_isDigit 4 (some .boolean), Cond.methodLink RX3 116 yX3_isAt, Cond.instanceMethod yX3_isAt, Cond.selects RX3 yX3_isAt yX3_isAt, Cond.code yX3_isAt cX3_isAt 3 (some .boolean)]
def wsL_law0_r17 : List Cond := [Cond.methodLink RX3 119 yX3_stops, Cond.instanceMethod yX3_stops, Cond.selects RX3 yX3_stops yX3_stops, Cond.code yX3_stops cX3_stops 1 (some .boolean), Cond.methodLink RL 119 yL_play, Cond.static yL_play, Cond.codeWith yL_play cL_play 3 (some .int) [(0, 8, 11, 15)], Cond.methodLink RL 39 yX2_play, Cond.instanceMethod yX2_play, Cond.selects RX2 yX2_play yX2_play, Cond.code yX2_play cX2_play 4 (some .int), Cond.methodLink RX2 111 yX2_isComplete, Cond.instanceMethod yX2_isComplete, Cond.selects RX2 yX2_isComplete yX2_isComplete, Cond.code yX2_isComplete cX2_isComplete 3 (some .boolean), Cond.methodLink RX2 120 yX2_playPart, Cond.instanceMethod yX2_playPart, Cond.selects RX2 yX2_playPart yX2_playPart, Cond.code yX2_playPart cX2_playPart 5 (some .int), Cond.methodLink RX2 281 yX2_digitAt, Cond.instanceMethod yX2_digitAt, Cond.selects RX2 yX2_digitAt yX2_digitAt, Cond.code yX2_digitAt cX2_digitAt 2 (some .int), Cond.methodLink RX2 284 yX2_springOfText]
def wsL_law0_r18 : List Cond := [Cond.instanceMethod yX2_springOfText, Cond.selects RX2 yX2_springOfText yX2_springOfText, Cond.code yX2_springOfText cX2_springOfText 4 (some .int), Cond.methodLink RL 122 yX3_play, Cond.instanceMethod yX3_play, Cond.selects RX3 yX3_play yX3_play, Cond.code yX3_play cX3_play 4 (some .int), Cond.methodLink RL 123 yL_undo, Cond.static yL_undo, Cond.codeWith yL_undo cL_undo 3 (some .int) [(0, 8, 11, 37)], Cond.methodLink RL 43 yX2_undo, Cond.instanceMethod yX2_undo, Cond.selects RX2 yX2_undo yX2_undo, Cond.code yX2_undo cX2_undo 2 (some .int), Cond.methodLink RL 125 yX3_undo, Cond.instanceMethod yX3_undo, Cond.selects RX3 yX3_undo yX3_undo, Cond.code yX3_undo cX3_undo 1 (some .int), Cond.methodLink RL 126 yL_curtain, Cond.static yL_curtain, Cond.codeWith yL_curtain cL_curtain 5 (some .int) [(0, 10, 13, 13), (0, 10, 17, 15)], Cond.methodLink RL 46 yX2_curtain, Cond.instanceMethod yX2_curtain, Cond.selects RX2 yX2_curtain yX2_curtain]
def wsL_law0_r19 : List Cond := [Cond.code yX2_curtain cX2_curtain 3 (some .int), Cond.methodLink RX2 133 yX1_ticksForAll, Cond.instanceMethod yX1_ticksForAll, Cond.selects RX1 yX1_ticksForAll yX1_ticksForAll, Cond.code yX1_ticksForAll cX1_ticksForAll 5 (some .int), Cond.methodLink RX1 51 yX1_dragsOf, Cond.methodLink RX1 55 yX1_ticksWithoutDrag, Cond.methodLink RX2 136 yX1_slowestColumn, Cond.instanceMethod yX1_slowestColumn, Cond.selects RX1 yX1_slowestColumn yX1_slowestColumn, Cond.code yX1_slowestColumn cX1_slowestColumn 5 (some .int), Cond.methodLink RL 128 yX3_curtain, Cond.instanceMethod yX3_curtain, Cond.selects RX3 yX3_curtain yX3_curtain, Cond.code yX3_curtain cX3_curtain 3 (some .int), Cond.methodLink RX3 138 yX3_ofCurtain, Cond.instanceMethod yX3_ofCurtain, Cond.selects RX3 yX3_ofCurtain yX3_ofCurtain, Cond.code yX3_ofCurtain cX3_ofCurtain 6 (some .int), Cond.methodLink RL 129 yL_column, Cond.static yL_column, Cond.codeWith yL_column cL_column 6 (some .int) [(0, 12, 15, 13), (0, 12, 19, 15)], Cond.methodLink RL 49 yX2_column, Cond.instanceMethod yX2_column]
def wsL_law0_r20 : List Cond := [Cond.selects RX2 yX2_column yX2_column, Cond.code yX2_column cX2_column 4 (some .int), Cond.fieldLink RX2 147 "ShutterBench$Exposure" "leftAt" "[I", Cond.fieldLink RX2 150 "ShutterBench$Exposure" "coveredAt" "[I", Cond.fieldLink RX2 153 "ShutterBench$Exposure" "light" "[I", Cond.methodLink RX2 159 Lib.Math.abs.name, Cond.methodLink RX2 156 yX2_wantedLight, Cond.methodLink RL 132 yX3_column, Cond.instanceMethod yX3_column, Cond.selects RX3 yX3_column yX3_column, Cond.code yX3_column cX3_column 4 (some .int), Cond.methodLink RX3 141 yX3_ofColumn, Cond.instanceMethod yX3_ofColumn, Cond.selects RX3 yX3_ofColumn yX3_ofColumn, Cond.code yX3_ofColumn cX3_ofColumn 4 (some .int), Cond.methodLink RL 133 yL_speed, Cond.static yL_speed, Cond.codeWith yL_speed cL_speed 5 (some .int) [(0, 10, 13, 13), (0, 10, 17, 15)], Cond.methodLink RL 53 yX2_speed, Cond.instanceMethod yX2_speed, Cond.selects RX2 yX2_speed yX2_speed, Cond.code yX2_speed cX2_speed 3 (some .int), Cond.fieldLink RX2 167 "ShutterBench$Exposure" "allLight" "I", Cond.fieldLink RX2 170 "ShutterBench$Exposure" "worstError" "I"]
def wsL_law0_r21 : List Cond := [Cond.fieldLink RX2 173 "ShutterBench$Exposure" "worstColumn" "I", Cond.fieldLink RX2 176 "ShutterBench$Exposure" "darkColumns" "I", Cond.fieldLink RX2 179 "ShutterBench$Shutter" "shotsWith" "[I", Cond.methodLink RX2 164 yX1_startOfSecond, Cond.methodLink RL 135 yX3_speed, Cond.instanceMethod yX3_speed, Cond.selects RX3 yX3_speed yX3_speed, Cond.code yX3_speed cX3_speed 3 (some .int), Cond.methodLink RX3 145 yX3_ofSpeed, Cond.instanceMethod yX3_ofSpeed, Cond.selects RX3 yX3_ofSpeed yX3_ofSpeed, Cond.code yX3_ofSpeed cX3_ofSpeed 3 (some .int), Cond.methodLink RL 136 yL_count, Cond.static yL_count, Cond.codeWith yL_count cL_count 4 (some .int) [(0, 9, 12, 15)], Cond.methodLink RL 56 yX2_count, Cond.instanceMethod yX2_count, Cond.selects RX2 yX2_count yX2_count, Cond.code yX2_count cX2_count 2 (some .int), Cond.fieldLink RX2 182 "ShutterBench$Shutter" "shots" "I", Cond.fieldLink RX2 185 "ShutterBench$Shutter" "lastLight" "I", Cond.fieldLink RX2 191 "ShutterBench$Shutter" "greatestSpread" "I", Cond.methodLink RX2 188 yX1_bounceColumns, Cond.methodLink RL 138 yX3_count]
def wsL_law0_r22 : List Cond := [Cond.instanceMethod yX3_count, Cond.selects RX3 yX3_count yX3_count, Cond.code yX3_count cX3_count 2 (some .int), Cond.methodLink RX3 148 yX3_counted, Cond.instanceMethod yX3_counted, Cond.selects RX3 yX3_counted yX3_counted, Cond.code yX3_counted cX3_counted 2 (some .int), Cond.methodLink RL 139 yL_setting, Cond.static yL_setting, Cond.codeWith yL_setting cL_setting 4 (some .int) [(0, 9, 12, 13)], Cond.methodLink RL 59 yX2_setting, Cond.instanceMethod yX2_setting, Cond.selects RX2 yX2_setting yX2_setting, Cond.code yX2_setting cX2_setting 2 (some .int), Cond.methodLink RL 141 yX3_setting, Cond.instanceMethod yX3_setting, Cond.selects RX3 yX3_setting yX3_setting, Cond.code yX3_setting cX3_setting 2 (some .int), Cond.methodLink RL 142 yL_bestCorrection, Cond.static yL_bestCorrection, Cond.codeWith yL_bestCorrection cL_bestCorrection 4 (some .int) [(0, 9, 12, 13)], Cond.methodLink RL 62 yX2_bestCorrection, Cond.instanceMethod yX2_bestCorrection, Cond.selects RX2 yX2_bestCorrection yX2_bestCorrection]
def wsL_law0_r23 : List Cond := [Cond.code yX2_bestCorrection cX2_bestCorrection 5 (some .int), Cond.fieldLink RX2 194 "ShutterBench$Exposure" "allErrors" "I", Cond.methodLink RL 144 yX3_bestCorrection, Cond.instanceMethod yX3_bestCorrection, Cond.selects RX3 yX3_bestCorrection yX3_bestCorrection, Cond.code yX3_bestCorrection cX3_bestCorrection 2 (some .int), Cond.methodLink RX3 151 yX3_best, Cond.instanceMethod yX3_best, Cond.selects RX3 yX3_best yX3_best, Cond.code yX3_best cX3_best 10 (some .int), Cond.methodLink RL 145 yL_bestSpring, Cond.static yL_bestSpring, Cond.codeWith yL_bestSpring cL_bestSpring 5 (some .int) [(0, 10, 13, 13)], Cond.methodLink RL 65 yX2_bestSpring, Cond.instanceMethod yX2_bestSpring, Cond.selects RX2 yX2_bestSpring yX2_bestSpring, Cond.code yX2_bestSpring cX2_bestSpring 6 (some .int), Cond.methodLink RL 147 yX3_bestSpring, Cond.instanceMethod yX3_bestSpring, Cond.selects RX3 yX3_bestSpring yX3_bestSpring, Cond.code yX3_bestSpring cX3_bestSpring 3 (some .int), Cond.methodLink RL 148 yL_ifShot, Cond.static yL_ifShot, Cond.codeWith yL_ifShot cL_ifShot 6 (some .int) [(0, 12, 15, 13), (0, 12, 19, 15)]]
def wsL_law0_r24 : List Cond := [Cond.methodLink RL 68 yX2_ifShot, Cond.instanceMethod yX2_ifShot, Cond.selects RX2 yX2_ifShot yX2_ifShot, Cond.code yX2_ifShot cX2_ifShot 4 (some .int), Cond.methodLink RL 150 yX3_ifShot, Cond.instanceMethod yX3_ifShot, Cond.selects RX3 yX3_ifShot yX3_ifShot, Cond.code yX3_ifShot cX3_ifShot 4 (some .int), Cond.methodLink RX3 155 yX3_byShooting, Cond.instanceMethod yX3_byShooting, Cond.selects RX3 yX3_byShooting yX3_byShooting, Cond.code yX3_byShooting cX3_byShooting 4 (some .int), Cond.methodLink RL 151 yL_goodFor, Cond.static yL_goodFor, Cond.codeWith yL_goodFor cL_goodFor 5 (some .int) [(0, 10, 13, 13), (0, 10, 17, 15)], Cond.methodLink RL 71 yX2_goodFor, Cond.instanceMethod yX2_goodFor, Cond.selects RX2 yX2_goodFor yX2_goodFor, Cond.code yX2_goodFor cX2_goodFor 4 (some .int), Cond.methodLink RL 153 yX3_goodFor, Cond.instanceMethod yX3_goodFor, Cond.selects RX3 yX3_goodFor yX3_goodFor, Cond.code yX3_goodFor cX3_goodFor 3 (some .int), Cond.methodLink RX3 158 yX3_good]
def wsL_law0_r25 : List Cond := [Cond.instanceMethod yX3_good, Cond.selects RX3 yX3_good yX3_good, Cond.code yX3_good cX3_good 5 (some .int), Cond.methodLink RL 154 yL_evenness, Cond.static yL_evenness, Cond.codeWith yL_evenness cL_evenness 4 (some .int) [(0, 8, 11, 13)], Cond.methodLink RL 74 yX2_evenness, Cond.instanceMethod yX2_evenness, Cond.selects RX2 yX2_evenness yX2_evenness, Cond.code yX2_evenness cX2_evenness 2 (some .double), Cond.fieldLink RX2 201 "ShutterBench$Exposure" "mostLight" "I", Cond.fieldLink RX2 204 "ShutterBench$Exposure" "leastLight" "I", Cond.methodLink RL 157 yX3_evenness, Cond.instanceMethod yX3_evenness, Cond.selects RX3 yX3_evenness yX3_evenness, Cond.code yX3_evenness cX3_evenness 2 (some .double), Cond.methodLink RX3 161 yX3_share, Cond.instanceMethod yX3_share, Cond.selects RX3 yX3_share yX3_share, Cond.code yX3_share cX3_share 3 (some .double), Cond.methodLink RL 158 yX2_digest, Cond.instanceMethod yX2_digest, Cond.selects RX2 yX2_digest yX2_digest, Cond.code yX2_digest cX2_digest 4 (some .long)]
def wsL_law0_r26 : List Cond := [Cond.constantLong RX2 207 (3191), Cond.methodLink RX2 209 yX2_count, Cond.methodLink RX2 212 yX2_mix, Cond.static yX2_mix, Cond.code yX2_mix cX2_mix 4 (some .long), Cond.constantLong RX2 260 (31), Cond.methodLink RX2 216 yX2_setting, Cond.methodLink RX2 219 yX2_mixCurtains, Cond.instanceMethod yX2_mixCurtains, Cond.selects RX2 yX2_mixCurtains yX2_mixCurtains, Cond.code yX2_mixCurtains cX2_mixCurtains 7 (some .long), Cond.methodLink RX2 251 yX2_curtain, Cond.methodLink RX2 223 yX2_mixSpeeds, Cond.instanceMethod yX2_mixSpeeds, Cond.selects RX2 yX2_mixSpeeds yX2_mixSpeeds, Cond.code yX2_mixSpeeds cX2_mixSpeeds 7 (some .long), Cond.methodLink RX2 254 yX2_speed, Cond.methodLink RX2 226 yX2_mixColumn, Cond.instanceMethod yX2_mixColumn, Cond.selects RX2 yX2_mixColumn yX2_mixColumn, Cond.code yX2_mixColumn cX2_mixColumn 7 (some .long), Cond.methodLink RX2 257 yX2_column, Cond.methodLink RX2 230 yX2_bestCorrection, Cond.methodLink RX2 233 yX2_bestSpring]
def wsL_law0_r27 : List Cond := [Cond.methodLink RX2 236 yX2_ifShot, Cond.methodLink RX2 240 yX2_goodFor, Cond.methodLink RX2 243 yX2_evenness, Cond.methodLink RX2 247 yX2_bitsOfShare, Cond.static yX2_bitsOfShare, Cond.code yX2_bitsOfShare cX2_bitsOfShare 7 (some .long), Cond.constantLong RX2 262 (1023), Cond.constantDouble RX2 264 (4611686018427387904), Cond.constantDouble RX2 266 (4841369599423283200), Cond.methodLink RL 162 yX3_digest, Cond.instanceMethod yX3_digest, Cond.selects RX3 yX3_digest yX3_digest, Cond.code yX3_digest cX3_digest 5 (some .long), Cond.constantLong RX3 165 (3191), Cond.constantLong RX3 167 (31), Cond.constantLong RX3 169 (100), Cond.methodLink RX3 171 yJxe99ae_doubleToLongBits_ccdee, Cond.static yJxe99ae_doubleToLongBits_ccdee, Cond.initialized RJxe99ae, Cond.code yJxe99ae_doubleToLongBits_ccdee cJxe99ae_doubleToLongBits_ccdee 2 (some .long), Cond.methodLink RJxe99ae 134 ⟨"java/lang/Double", "doubleToRawLongBits", "(D)J"⟩, Cond.native ⟨"java/lang/Double", "doubleToRawLongBits", "(D)J"⟩, Cond.static ⟨"java/lang/Double", "doubleToRawLongBits", "(D)J"⟩, Cond.initialized "java/lang/Double"]
def wsL_law0_r28 : List Cond := [Cond.constantLong RJxe99ae 137 (9221120237041090560), Cond.methodLink RJxe99ae 122 yJxe99ae_isNaN_b9ae7, Cond.static yJxe99ae_isNaN_b9ae7, Cond.code yJxe99ae_isNaN_b9ae7 cJxe99ae_isNaN_b9ae7 2 (some .boolean)]
def wsL_law0 : List Cond := (wsL_law0_r1 ++ (wsL_law0_r2 ++ (wsL_law0_r3 ++ (wsL_law0_r4 ++ (wsL_law0_r5 ++ (wsL_law0_r6 ++ (wsL_law0_r7 ++ (wsL_law0_r8 ++ (wsL_law0_r9 ++ (wsL_law0_r10 ++ (wsL_law0_r11 ++ (wsL_law0_r12 ++ (wsL_law0_r13 ++ (wsL_law0_r14 ++ (wsL_law0_r15 ++ (wsL_law0_r16 ++ (wsL_law0_r17 ++ (wsL_law0_r18 ++ (wsL_law0_r19 ++ (wsL_law0_r20 ++ (wsL_law0_r21 ++ (wsL_law0_r22 ++ (wsL_law0_r23 ++ (wsL_law0_r24 ++ (wsL_law0_r25 ++ (wsL_law0_r26 ++ (wsL_law0_r27 ++ wsL_law0_r28))))))))))))))))))))))))))) ++ wsX20 ++ wsX30 ++ wsX10 ++ wsX00 ++ ([] : List Cond)
def wsL_law : List Cond := wsL_law0 ++ (vx_atS RX2 291 "java/lang/IndexOutOfBoundsException" ["java/lang/RuntimeException", "java/lang/Exception"]).filter goodWord ++ (vx_atS RX2 119 "java/lang/IllegalArgumentException" ["java/lang/RuntimeException", "java/lang/Exception"]).filter goodWord ++ (vx_atS RX2 104 "java/lang/IllegalStateException" ["java/lang/RuntimeException", "java/lang/Exception"]).filter goodWord
theorem inlX0 : ∀ w ∈ wsX00, w ∈ wsL_law := fun _ h => List.mem_append_left _ (List.mem_append_left _ (List.mem_append_left _ (List.mem_append_left _ (List.mem_append_right _ h))))
theorem inlX1 : ∀ w ∈ wsX10, w ∈ wsL_law := fun _ h => List.mem_append_left _ (List.mem_append_left _ (List.mem_append_left _ (List.mem_append_left _ (List.mem_append_left _ (List.mem_append_right _ h)))))
theorem inlX2 : ∀ w ∈ wsX20, w ∈ wsL_law := fun _ h => List.mem_append_left _ (List.mem_append_left _ (List.mem_append_left _ (List.mem_append_left _ (List.mem_append_left _ (List.mem_append_left _ (List.mem_append_left _ (List.mem_append_right _ h)))))))
theorem inlX3 : ∀ w ∈ wsX30, w ∈ wsL_law := fun _ h => List.mem_append_left _ (List.mem_append_left _ (List.mem_append_left _ (List.mem_append_left _ (List.mem_append_left _ (List.mem_append_left _ (List.mem_append_right _ h))))))
theorem dJxe99ae_isNaN_b9ae7_0 : decode cJxe99ae_isNaN_b9ae7 0 = .ok (.dload_n 0, 1) := by decide +kernel
theorem dJxe99ae_isNaN_b9ae7_1 : decode cJxe99ae_isNaN_b9ae7 1 = .ok (.dload_n 0, 1) := by decide +kernel
theorem dJxe99ae_isNaN_b9ae7_2 : decode cJxe99ae_isNaN_b9ae7 2 = .ok (.dcmp .l, 1) := by decide +kernel
theorem dJxe99ae_isNaN_b9ae7_3 : decode cJxe99ae_isNaN_b9ae7 3 = .ok (.ifCond .eq 7, 3) := by decide +kernel
theorem dJxe99ae_isNaN_b9ae7_6 : decode cJxe99ae_isNaN_b9ae7 6 = .ok (.iconst 1, 1) := by decide +kernel
theorem dJxe99ae_isNaN_b9ae7_7 : decode cJxe99ae_isNaN_b9ae7 7 = .ok (.goto 4, 3) := by decide +kernel
theorem dJxe99ae_isNaN_b9ae7_10 : decode cJxe99ae_isNaN_b9ae7 10 = .ok (.iconst 0, 1) := by decide +kernel
theorem dJxe99ae_isNaN_b9ae7_11 : decode cJxe99ae_isNaN_b9ae7 11 = .ok (.ireturn, 1) := by decide +kernel
set_option maxRecDepth 20000 in
theorem ggJxe99ae_doubleToLongBits_ccdee_Jxe99ae_isNaN_b9ae7 : GoodIn wsJxe99ae_doubleToLongBits_ccdee wsJxe99ae_isNaN_b9ae7 := goodIn_r _ [9] (by decide +kernel) (by decide +kernel)
set_option maxRecDepth 20000 in
theorem gJxe99ae_doubleToLongBits_ccdee_Jxe99ae_isNaN_b9ae7 : GoodIn wsJxe99ae_doubleToLongBits_ccdee (va_wsS RJxe99ae 122 yJxe99ae_isNaN_b9ae7 wsJxe99ae_isNaN_b9ae7) := goodIn_app (goodIn_of _ (by decide +kernel)) ggJxe99ae_doubleToLongBits_ccdee_Jxe99ae_isNaN_b9ae7
theorem dJxe99ae_doubleToLongBits_ccdee_0 : decode cJxe99ae_doubleToLongBits_ccdee 0 = .ok (.dload_n 0, 1) := by decide +kernel
theorem dJxe99ae_doubleToLongBits_ccdee_1 : decode cJxe99ae_doubleToLongBits_ccdee 1 = .ok (.invokestatic 122, 3) := by decide +kernel
theorem dJxe99ae_doubleToLongBits_ccdee_4 : decode cJxe99ae_doubleToLongBits_ccdee 4 = .ok (.ifCond .ne 8, 3) := by decide +kernel
theorem dJxe99ae_doubleToLongBits_ccdee_7 : decode cJxe99ae_doubleToLongBits_ccdee 7 = .ok (.dload_n 0, 1) := by decide +kernel
theorem dJxe99ae_doubleToLongBits_ccdee_8 : decode cJxe99ae_doubleToLongBits_ccdee 8 = .ok (.invokestatic 134, 3) := by decide +kernel
theorem dJxe99ae_doubleToLongBits_ccdee_11 : decode cJxe99ae_doubleToLongBits_ccdee 11 = .ok (.lreturn, 1) := by decide +kernel
theorem dJxe99ae_doubleToLongBits_ccdee_12 : decode cJxe99ae_doubleToLongBits_ccdee 12 = .ok (.ldc2_w 137, 3) := by decide +kernel
theorem dJxe99ae_doubleToLongBits_ccdee_15 : decode cJxe99ae_doubleToLongBits_ccdee 15 = .ok (.lreturn, 1) := by decide +kernel
theorem dJ9_abs_0f7a4_0 : decode cJ9_abs_0f7a4 0 = .ok (.iload_n 0, 1) := by decide +kernel
theorem dJ9_abs_0f7a4_1 : decode cJ9_abs_0f7a4 1 = .ok (.ifCond .ge 8, 3) := by decide +kernel
theorem dJ9_abs_0f7a4_4 : decode cJ9_abs_0f7a4 4 = .ok (.iload_n 0, 1) := by decide +kernel
theorem dJ9_abs_0f7a4_5 : decode cJ9_abs_0f7a4 5 = .ok (.ineg, 1) := by decide +kernel
theorem dJ9_abs_0f7a4_6 : decode cJ9_abs_0f7a4 6 = .ok (.goto 4, 3) := by decide +kernel
theorem dJ9_abs_0f7a4_9 : decode cJ9_abs_0f7a4 9 = .ok (.iload_n 0, 1) := by decide +kernel
theorem dJ9_abs_0f7a4_10 : decode cJ9_abs_0f7a4 10 = .ok (.ireturn, 1) := by decide +kernel
theorem dJ9_max_7cf53_0 : decode cJ9_max_7cf53 0 = .ok (.iload_n 0, 1) := by decide +kernel
theorem dJ9_max_7cf53_1 : decode cJ9_max_7cf53 1 = .ok (.iload_n 1, 1) := by decide +kernel
theorem dJ9_max_7cf53_2 : decode cJ9_max_7cf53 2 = .ok (.if_icmp .lt 7, 3) := by decide +kernel
theorem dJ9_max_7cf53_5 : decode cJ9_max_7cf53 5 = .ok (.iload_n 0, 1) := by decide +kernel
theorem dJ9_max_7cf53_6 : decode cJ9_max_7cf53 6 = .ok (.goto 4, 3) := by decide +kernel
theorem dJ9_max_7cf53_9 : decode cJ9_max_7cf53 9 = .ok (.iload_n 1, 1) := by decide +kernel
theorem dJ9_max_7cf53_10 : decode cJ9_max_7cf53 10 = .ok (.ireturn, 1) := by decide +kernel
theorem dJ9_min_7cf53_0 : decode cJ9_min_7cf53 0 = .ok (.iload_n 0, 1) := by decide +kernel
theorem dJ9_min_7cf53_1 : decode cJ9_min_7cf53 1 = .ok (.iload_n 1, 1) := by decide +kernel
theorem dJ9_min_7cf53_2 : decode cJ9_min_7cf53 2 = .ok (.if_icmp .gt 7, 3) := by decide +kernel
theorem dJ9_min_7cf53_5 : decode cJ9_min_7cf53 5 = .ok (.iload_n 0, 1) := by decide +kernel
theorem dJ9_min_7cf53_6 : decode cJ9_min_7cf53 6 = .ok (.goto 4, 3) := by decide +kernel
theorem dJ9_min_7cf53_9 : decode cJ9_min_7cf53 9 = .ok (.iload_n 1, 1) := by decide +kernel
theorem dJ9_min_7cf53_10 : decode cJ9_min_7cf53 10 = .ok (.ireturn, 1) := by decide +kernel
abbrev vwCl : List vw_C := [(RX0, TX0, 10), (RX1, TX1, 10), (RX2, TX2, 8), (RX3, TX3, 14)]
end
section
/-! every method's words: its own code's, then all that the law's walk has -/
abbrev BIG : List Cond := wsL_law
theorem big_good : BIG.all goodWord = true := by decide +kernel
theorem gB {w0 w1 : Cond} (h1 : w1 ∈ BIG) : GoodIn (w0 :: BIG) (w1 :: BIG) := fun w h => by
  have h2 : w ∈ BIG := by
    rcases List.mem_cons.mp h with e | h
    · rw [e]; exact h1
    · exact h
  exact ⟨List.mem_cons_of_mem _ h2, good_of_word (List.all_eq_true.mp big_good w h2)⟩
theorem gBs {w0 : Cond} {ws : List Cond} (h : ∀ w ∈ ws, w ∈ BIG) : GoodIn (w0 :: BIG) ws := fun w h1 => ⟨List.mem_cons_of_mem _ (h w h1), good_of_word (List.all_eq_true.mp big_good w (h w h1))⟩
theorem gBS {w0 w1 : Cond} {own : String} {idx : Nat} {y : MethodName} (h1 : Cond.methodLink own idx y ∈ BIG) (h2 : Cond.static y ∈ BIG) (h3 : Cond.initialized y.cls ∈ BIG) (h4 : w1 ∈ BIG) : GoodIn (w0 :: BIG) (va_wsS own idx y (w1 :: BIG)) := by
  refine goodIn_app (gBs (fun w h => ?_)) (gB h4)
  rcases List.mem_cons.mp h with rfl | h
  · exact h1
  rcases List.mem_cons.mp h with rfl | h
  · exact h2
  rcases List.mem_cons.mp h with rfl | h
  · exact h3
  · cases h
theorem gBV {w0 w1 : Cond} {own C : String} {idx : Nat} {y : MethodName} (h1 : Cond.methodLink own idx y ∈ BIG) (h2 : Cond.instanceMethod y ∈ BIG) (h3 : Cond.selects C y y ∈ BIG) (h4 : Cond.initialized C ∈ BIG) (h5 : w1 ∈ BIG) : GoodIn (w0 :: BIG) (wsV own idx C y (w1 :: BIG)) := by
  refine goodIn_app (gBs (fun w h => ?_)) (gB h5)
  rcases List.mem_cons.mp h with rfl | h
  · exact h1
  rcases List.mem_cons.mp h with rfl | h
  · exact h2
  rcases List.mem_cons.mp h with rfl | h
  · exact h3
  rcases List.mem_cons.mp h with rfl | h
  · exact h4
  · cases h
theorem kw0 : Cond.classLink RL 8 RX2 ∈ wsL_law := List.mem_of_getElem? (i := 0) (by decide +kernel)
theorem kw1 : Cond.instantiable RX2 8 ∈ wsL_law := List.mem_of_getElem? (i := 1) (by decide +kernel)
theorem kw2 : Cond.initialized RX2 ∈ wsL_law := List.mem_of_getElem? (i := 2) (by decide +kernel)
theorem kw3 : Cond.classLink RL 79 RX3 ∈ wsL_law := List.mem_of_getElem? (i := 3) (by decide +kernel)
theorem kw4 : Cond.instantiable RX3 14 ∈ wsL_law := List.mem_of_getElem? (i := 4) (by decide +kernel)
theorem kw5 : Cond.initialized RX3 ∈ wsL_law := List.mem_of_getElem? (i := 5) (by decide +kernel)
theorem kw6 : Cond.arrayClass .long ∈ wsL_law := List.mem_of_getElem? (i := 6) (by decide +kernel)
theorem kw7 : Cond.arrayClass .double ∈ wsL_law := List.mem_of_getElem? (i := 7) (by decide +kernel)
theorem kw8 : Cond.methodLink RL 78 yX2_init ∈ wsL_law := List.mem_of_getElem? (i := 8) (by decide +kernel)
theorem kw9 : Cond.instanceMethod yX2_init ∈ wsL_law := List.mem_of_getElem? (i := 9) (by decide +kernel)
theorem kw10 : Cond.code yX2_init cX2_init 2 none ∈ wsL_law := List.mem_of_getElem? (i := 10) (by decide +kernel)
theorem kw11 : Cond.methodLink RX2 1 objectInit ∈ wsL_law := List.mem_of_getElem? (i := 11) (by decide +kernel)
theorem kw12 : Cond.instanceMethod objectInit ∈ wsL_law := List.mem_of_getElem? (i := 12) (by decide +kernel)
theorem kw13 : Cond.code objectInit ⟨#[0xb1]⟩ 1 none ∈ wsL_law := List.mem_of_getElem? (i := 13) (by decide +kernel)
theorem kw14 : Cond.classLink RX2 7 RX1 ∈ wsL_law := List.mem_of_getElem? (i := 14) (by decide +kernel)
theorem kw15 : Cond.instantiable RX1 10 ∈ wsL_law := List.mem_of_getElem? (i := 15) (by decide +kernel)
theorem kw16 : Cond.initialized RX1 ∈ wsL_law := List.mem_of_getElem? (i := 16) (by decide +kernel)
theorem kw17 : Cond.fieldLink RX2 10 "ShutterBench" "now" "LShutterBench$Shutter;" ∈ wsL_law := List.mem_of_getElem? (i := 17) (by decide +kernel)
theorem kw18 : Cond.fieldLink RX2 16 "ShutterBench" "probe" "LShutterBench$Shutter;" ∈ wsL_law := List.mem_of_getElem? (i := 18) (by decide +kernel)
theorem kw19 : Cond.classLink RX2 19 RX0 ∈ wsL_law := List.mem_of_getElem? (i := 19) (by decide +kernel)
theorem kw20 : Cond.instantiable RX0 10 ∈ wsL_law := List.mem_of_getElem? (i := 20) (by decide +kernel)
theorem kw21 : Cond.initialized RX0 ∈ wsL_law := List.mem_of_getElem? (i := 21) (by decide +kernel)
theorem kw22 : Cond.fieldLink RX2 22 "ShutterBench" "exposure" "LShutterBench$Exposure;" ∈ wsL_law := List.mem_of_getElem? (i := 22) (by decide +kernel)
theorem kw23 : Cond.fieldLink RX2 26 "ShutterBench" "saved" "[LShutterBench$Shutter;" ∈ wsL_law := List.mem_of_getElem? (i := 23) (by decide +kernel)
theorem kw24 : Cond.fieldLink RX2 30 "ShutterBench" "savedStates" "I" ∈ wsL_law := List.mem_of_getElem? (i := 24) (by decide +kernel)
theorem kw25 : Cond.fieldLink RX2 34 "ShutterBench" "nextSaved" "I" ∈ wsL_law := List.mem_of_getElem? (i := 25) (by decide +kernel)
theorem kw26 : Cond.arrayClass .int ∈ wsL_law := List.mem_of_getElem? (i := 26) (by decide +kernel)
theorem kw27 : Cond.fieldLink RX2 37 "ShutterBench" "buffer" "[I" ∈ wsL_law := List.mem_of_getElem? (i := 27) (by decide +kernel)
theorem kw28 : Cond.fieldLink RX2 41 "ShutterBench" "length" "I" ∈ wsL_law := List.mem_of_getElem? (i := 28) (by decide +kernel)
theorem kw29 : Cond.methodLink RX2 9 yX1_init ∈ wsL_law := List.mem_of_getElem? (i := 29) (by decide +kernel)
theorem kw30 : Cond.instanceMethod yX1_init ∈ wsL_law := List.mem_of_getElem? (i := 30) (by decide +kernel)
theorem kw31 : Cond.code yX1_init cX1_init 1 none ∈ wsL_law := List.mem_of_getElem? (i := 31) (by decide +kernel)
theorem kw32 : Cond.methodLink RX1 3 objectInit ∈ wsL_law := List.mem_of_getElem? (i := 32) (by decide +kernel)
theorem kw33 : Cond.fieldLink RX1 9 "ShutterBench$Shutter" "springs" "[I" ∈ wsL_law := List.mem_of_getElem? (i := 33) (by decide +kernel)
theorem kw34 : Cond.fieldLink RX1 15 "ShutterBench$Shutter" "sinceCleaned" "[I" ∈ wsL_law := List.mem_of_getElem? (i := 34) (by decide +kernel)
theorem kw35 : Cond.fieldLink RX1 18 "ShutterBench$Shutter" "firstDrags" "[I" ∈ wsL_law := List.mem_of_getElem? (i := 35) (by decide +kernel)
theorem kw36 : Cond.fieldLink RX1 21 "ShutterBench$Shutter" "secondDrags" "[I" ∈ wsL_law := List.mem_of_getElem? (i := 36) (by decide +kernel)
theorem kw37 : Cond.fieldLink RX1 24 "ShutterBench$Shutter" "corrections" "[I" ∈ wsL_law := List.mem_of_getElem? (i := 37) (by decide +kernel)
theorem kw38 : Cond.fieldLink RX1 27 "ShutterBench$Shutter" "settings" "[I" ∈ wsL_law := List.mem_of_getElem? (i := 38) (by decide +kernel)
theorem kw39 : Cond.fieldLink RX1 30 "ShutterBench$Shutter" "shotsWith" "[I" ∈ wsL_law := List.mem_of_getElem? (i := 39) (by decide +kernel)
theorem kw40 : Cond.fieldLink RX1 33 "ShutterBench$Shutter" "shots" "I" ∈ wsL_law := List.mem_of_getElem? (i := 40) (by decide +kernel)
theorem kw41 : Cond.fieldLink RX1 37 "ShutterBench$Shutter" "lastLight" "I" ∈ wsL_law := List.mem_of_getElem? (i := 41) (by decide +kernel)
theorem kw42 : Cond.fieldLink RX1 40 "ShutterBench$Shutter" "greatestSpread" "I" ∈ wsL_law := List.mem_of_getElem? (i := 42) (by decide +kernel)
theorem kw43 : Cond.methodLink RX2 21 yX0_init ∈ wsL_law := List.mem_of_getElem? (i := 43) (by decide +kernel)
theorem kw44 : Cond.instanceMethod yX0_init ∈ wsL_law := List.mem_of_getElem? (i := 44) (by decide +kernel)
theorem kw45 : Cond.code yX0_init cX0_init 1 none ∈ wsL_law := List.mem_of_getElem? (i := 45) (by decide +kernel)
theorem kw46 : Cond.methodLink RX0 3 objectInit ∈ wsL_law := List.mem_of_getElem? (i := 46) (by decide +kernel)
theorem kw47 : Cond.fieldLink RX0 9 "ShutterBench$Exposure" "leftAt" "[I" ∈ wsL_law := List.mem_of_getElem? (i := 47) (by decide +kernel)
theorem kw48 : Cond.fieldLink RX0 15 "ShutterBench$Exposure" "coveredAt" "[I" ∈ wsL_law := List.mem_of_getElem? (i := 48) (by decide +kernel)
theorem kw49 : Cond.fieldLink RX0 18 "ShutterBench$Exposure" "light" "[I" ∈ wsL_law := List.mem_of_getElem? (i := 49) (by decide +kernel)
theorem kw50 : Cond.methodLink RL 81 yX3_init ∈ wsL_law := List.mem_of_getElem? (i := 50) (by decide +kernel)
theorem kw51 : Cond.instanceMethod yX3_init ∈ wsL_law := List.mem_of_getElem? (i := 51) (by decide +kernel)
theorem kw52 : Cond.code yX3_init cX3_init 1 none ∈ wsL_law := List.mem_of_getElem? (i := 52) (by decide +kernel)
theorem kw53 : Cond.methodLink RX3 1 objectInit ∈ wsL_law := List.mem_of_getElem? (i := 53) (by decide +kernel)
theorem kw54 : Cond.fieldLink RX3 7 "ShutterBenchModel" "now" "[I" ∈ wsL_law := List.mem_of_getElem? (i := 54) (by decide +kernel)
theorem kw55 : Cond.fieldLink RX3 13 "ShutterBenchModel" "then" "[I" ∈ wsL_law := List.mem_of_getElem? (i := 55) (by decide +kernel)
theorem kw56 : Cond.fieldLink RX3 16 "ShutterBenchModel" "past" "[I" ∈ wsL_law := List.mem_of_getElem? (i := 56) (by decide +kernel)
theorem kw57 : Cond.fieldLink RX3 19 "ShutterBenchModel" "text" "[I" ∈ wsL_law := List.mem_of_getElem? (i := 57) (by decide +kernel)
theorem kw58 : Cond.fieldLink RX3 22 "ShutterBenchModel" "told" "[I" ∈ wsL_law := List.mem_of_getElem? (i := 58) (by decide +kernel)
theorem kw59 : Cond.fieldLink RX3 25 "ShutterBenchModel" "lefts" "[I" ∈ wsL_law := List.mem_of_getElem? (i := 59) (by decide +kernel)
theorem kw60 : Cond.fieldLink RX3 28 "ShutterBenchModel" "covers" "[I" ∈ wsL_law := List.mem_of_getElem? (i := 60) (by decide +kernel)
theorem kw61 : Cond.fieldLink RX3 31 "ShutterBenchModel" "lights" "[I" ∈ wsL_law := List.mem_of_getElem? (i := 61) (by decide +kernel)
theorem kw62 : Cond.methodLink RL 82 yL_wind ∈ wsL_law := List.mem_of_getElem? (i := 62) (by decide +kernel)
theorem kw63 : Cond.static yL_wind ∈ wsL_law := List.mem_of_getElem? (i := 63) (by decide +kernel)
theorem kw64 : Cond.initialized RL ∈ wsL_law := List.mem_of_getElem? (i := 64) (by decide +kernel)
theorem kw65 : Cond.codeWith yL_wind cL_wind 5 (some .int) [(0, 10, 13, 13), (0, 10, 17, 15)] ∈ wsL_law := List.mem_of_getElem? (i := 65) (by decide +kernel)
theorem kw66 : Cond.classLink RL 13 "java/lang/IndexOutOfBoundsException" ∈ wsL_law := List.mem_of_getElem? (i := 66) (by decide +kernel)
theorem kw67 : Cond.classLink RL 15 "java/lang/IllegalArgumentException" ∈ wsL_law := List.mem_of_getElem? (i := 67) (by decide +kernel)
theorem kw68 : Cond.methodLink RL 7 yX2_wind ∈ wsL_law := List.mem_of_getElem? (i := 68) (by decide +kernel)
theorem kw69 : Cond.instanceMethod yX2_wind ∈ wsL_law := List.mem_of_getElem? (i := 69) (by decide +kernel)
theorem kw70 : Cond.selects RX2 yX2_wind yX2_wind ∈ wsL_law := List.mem_of_getElem? (i := 70) (by decide +kernel)
theorem kw71 : Cond.code yX2_wind cX2_wind 4 (some .int) ∈ wsL_law := List.mem_of_getElem? (i := 71) (by decide +kernel)
theorem kw72 : Cond.fieldLink RX2 55 "ShutterBench$Shutter" "springs" "[I" ∈ wsL_law := List.mem_of_getElem? (i := 72) (by decide +kernel)
theorem kw73 : Cond.methodLink RX2 44 yX2_needCurtain ∈ wsL_law := List.mem_of_getElem? (i := 73) (by decide +kernel)
theorem kw74 : Cond.static yX2_needCurtain ∈ wsL_law := List.mem_of_getElem? (i := 74) (by decide +kernel)
theorem kw75 : Cond.code yX2_needCurtain cX2_needCurtain 1 none ∈ wsL_law := List.mem_of_getElem? (i := 75) (by decide +kernel)
theorem kw76 : Cond.methodLink RX2 139 yX2_needIndex ∈ wsL_law := List.mem_of_getElem? (i := 76) (by decide +kernel)
theorem kw77 : Cond.static yX2_needIndex ∈ wsL_law := List.mem_of_getElem? (i := 77) (by decide +kernel)
theorem kw78 : Cond.code yX2_needIndex cX2_needIndex 2 none ∈ wsL_law := List.mem_of_getElem? (i := 78) (by decide +kernel)
theorem kw79 : Cond.classLink RX2 287 "java/lang/IndexOutOfBoundsException" ∈ wsL_law := List.mem_of_getElem? (i := 79) (by decide +kernel)
theorem kw80 : Cond.initialized "java/lang/IndexOutOfBoundsException" ∈ wsL_law := List.mem_of_getElem? (i := 80) (by decide +kernel)
theorem kw81 : Cond.methodLink RX2 48 yX2_needRange ∈ wsL_law := List.mem_of_getElem? (i := 81) (by decide +kernel)
theorem kw82 : Cond.static yX2_needRange ∈ wsL_law := List.mem_of_getElem? (i := 82) (by decide +kernel)
theorem kw83 : Cond.code yX2_needRange cX2_needRange 3 none ∈ wsL_law := List.mem_of_getElem? (i := 83) (by decide +kernel)
theorem kw84 : Cond.classLink RX2 115 "java/lang/IllegalArgumentException" ∈ wsL_law := List.mem_of_getElem? (i := 84) (by decide +kernel)
theorem kw85 : Cond.initialized "java/lang/IllegalArgumentException" ∈ wsL_law := List.mem_of_getElem? (i := 85) (by decide +kernel)
theorem kw86 : Cond.methodLink RX2 52 yX2_saveState ∈ wsL_law := List.mem_of_getElem? (i := 86) (by decide +kernel)
theorem kw87 : Cond.instanceMethod yX2_saveState ∈ wsL_law := List.mem_of_getElem? (i := 87) (by decide +kernel)
theorem kw88 : Cond.selects RX2 yX2_saveState yX2_saveState ∈ wsL_law := List.mem_of_getElem? (i := 88) (by decide +kernel)
theorem kw89 : Cond.code yX2_saveState cX2_saveState 2 none ∈ wsL_law := List.mem_of_getElem? (i := 89) (by decide +kernel)
theorem kw90 : Cond.methodLink RX2 268 Lib.Math.min.name ∈ wsL_law := List.mem_of_getElem? (i := 90) (by decide +kernel)
theorem kw91 : Cond.static Lib.Math.min.name ∈ wsL_law := List.mem_of_getElem? (i := 91) (by decide +kernel)
theorem kw92 : Cond.initialized "java/lang/Math" ∈ wsL_law := List.mem_of_getElem? (i := 92) (by decide +kernel)
theorem kw93 : Cond.code Lib.Math.min.name Lib.Math.min.code 2 (some .int) ∈ wsL_law := List.mem_of_getElem? (i := 93) (by decide +kernel)
theorem kw94 : Cond.methodLink RX2 125 yX2_savedAt ∈ wsL_law := List.mem_of_getElem? (i := 94) (by decide +kernel)
theorem kw95 : Cond.instanceMethod yX2_savedAt ∈ wsL_law := List.mem_of_getElem? (i := 95) (by decide +kernel)
theorem kw96 : Cond.selects RX2 yX2_savedAt yX2_savedAt ∈ wsL_law := List.mem_of_getElem? (i := 96) (by decide +kernel)
theorem kw97 : Cond.code yX2_savedAt cX2_savedAt 2 (some (.object "ShutterBench$Shutter")) ∈ wsL_law := List.mem_of_getElem? (i := 97) (by decide +kernel)
theorem kw98 : Cond.methodLink RX2 129 yX1_become ∈ wsL_law := List.mem_of_getElem? (i := 98) (by decide +kernel)
theorem kw99 : Cond.instanceMethod yX1_become ∈ wsL_law := List.mem_of_getElem? (i := 99) (by decide +kernel)
theorem kw100 : Cond.selects RX1 yX1_become yX1_become ∈ wsL_law := List.mem_of_getElem? (i := 100) (by decide +kernel)
theorem kw101 : Cond.code yX1_become cX1_become 2 none ∈ wsL_law := List.mem_of_getElem? (i := 101) (by decide +kernel)
theorem kw102 : Cond.static yX2_copyRow ∈ wsL_law := List.mem_of_getElem? (i := 102) (by decide +kernel)
theorem kw103 : Cond.code yX2_copyRow cX2_copyRow 3 none ∈ wsL_law := List.mem_of_getElem? (i := 103) (by decide +kernel)
theorem kw104 : Cond.methodLink RX2 58 yX2_at ∈ wsL_law := List.mem_of_getElem? (i := 104) (by decide +kernel)
theorem kw105 : Cond.static yX2_at ∈ wsL_law := List.mem_of_getElem? (i := 105) (by decide +kernel)
theorem kw106 : Cond.code yX2_at cX2_at 2 (some .int) ∈ wsL_law := List.mem_of_getElem? (i := 106) (by decide +kernel)
theorem kw107 : Cond.methodLink RX2 62 yX2_put ∈ wsL_law := List.mem_of_getElem? (i := 107) (by decide +kernel)
theorem kw108 : Cond.static yX2_put ∈ wsL_law := List.mem_of_getElem? (i := 108) (by decide +kernel)
theorem kw109 : Cond.code yX2_put cX2_put 3 none ∈ wsL_law := List.mem_of_getElem? (i := 109) (by decide +kernel)
theorem kw110 : Cond.methodLink RL 87 yX3_wind ∈ wsL_law := List.mem_of_getElem? (i := 110) (by decide +kernel)
theorem kw111 : Cond.instanceMethod yX3_wind ∈ wsL_law := List.mem_of_getElem? (i := 111) (by decide +kernel)
theorem kw112 : Cond.selects RX3 yX3_wind yX3_wind ∈ wsL_law := List.mem_of_getElem? (i := 112) (by decide +kernel)
theorem kw113 : Cond.code yX3_wind cX3_wind 3 (some .int) ∈ wsL_law := List.mem_of_getElem? (i := 113) (by decide +kernel)
theorem kw114 : Cond.fieldLink RX3 34 "ShutterBenchModel" "thrown" "I" ∈ wsL_law := List.mem_of_getElem? (i := 114) (by decide +kernel)
theorem kw115 : Cond.methodLink RX3 79 yX3_isCurtain ∈ wsL_law := List.mem_of_getElem? (i := 115) (by decide +kernel)
theorem kw116 : Cond.static yX3_isCurtain ∈ wsL_law := List.mem_of_getElem? (i := 116) (by decide +kernel)
theorem kw117 : Cond.code yX3_isCurtain cX3_isCurtain 1 (some .boolean) ∈ wsL_law := List.mem_of_getElem? (i := 117) (by decide +kernel)
theorem kw118 : Cond.methodLink RX3 38 yX3_in ∈ wsL_law := List.mem_of_getElem? (i := 118) (by decide +kernel)
theorem kw119 : Cond.static yX3_in ∈ wsL_law := List.mem_of_getElem? (i := 119) (by decide +kernel)
theorem kw120 : Cond.code yX3_in cX3_in 3 (some .boolean) ∈ wsL_law := List.mem_of_getElem? (i := 120) (by decide +kernel)
theorem kw121 : Cond.methodLink RX3 49 yX3_fails ∈ wsL_law := List.mem_of_getElem? (i := 121) (by decide +kernel)
theorem kw122 : Cond.instanceMethod yX3_fails ∈ wsL_law := List.mem_of_getElem? (i := 122) (by decide +kernel)
theorem kw123 : Cond.selects RX3 yX3_fails yX3_fails ∈ wsL_law := List.mem_of_getElem? (i := 123) (by decide +kernel)
theorem kw124 : Cond.code yX3_fails cX3_fails 2 (some .int) ∈ wsL_law := List.mem_of_getElem? (i := 124) (by decide +kernel)
theorem kw125 : Cond.methodLink RX3 83 yX3_saves ∈ wsL_law := List.mem_of_getElem? (i := 125) (by decide +kernel)
theorem kw126 : Cond.instanceMethod yX3_saves ∈ wsL_law := List.mem_of_getElem? (i := 126) (by decide +kernel)
theorem kw127 : Cond.selects RX3 yX3_saves yX3_saves ∈ wsL_law := List.mem_of_getElem? (i := 127) (by decide +kernel)
theorem kw128 : Cond.code yX3_saves cX3_saves 2 none ∈ wsL_law := List.mem_of_getElem? (i := 128) (by decide +kernel)
theorem kw129 : Cond.fieldLink RX3 42 "ShutterBenchModel" "kept" "I" ∈ wsL_law := List.mem_of_getElem? (i := 129) (by decide +kernel)
theorem kw130 : Cond.methodLink RX3 45 yX3_copies ∈ wsL_law := List.mem_of_getElem? (i := 130) (by decide +kernel)
theorem kw131 : Cond.static yX3_copies ∈ wsL_law := List.mem_of_getElem? (i := 131) (by decide +kernel)
theorem kw132 : Cond.code yX3_copies cX3_copies 5 none ∈ wsL_law := List.mem_of_getElem? (i := 132) (by decide +kernel)
theorem kw133 : Cond.methodLink RX3 86 yX3_changes ∈ wsL_law := List.mem_of_getElem? (i := 133) (by decide +kernel)
theorem kw134 : Cond.instanceMethod yX3_changes ∈ wsL_law := List.mem_of_getElem? (i := 134) (by decide +kernel)
theorem kw135 : Cond.selects RX3 yX3_changes yX3_changes ∈ wsL_law := List.mem_of_getElem? (i := 135) (by decide +kernel)
theorem kw136 : Cond.code yX3_changes cX3_changes 4 (some .int) ∈ wsL_law := List.mem_of_getElem? (i := 136) (by decide +kernel)
theorem kw137 : Cond.methodLink RL 88 yX3_thrown ∈ wsL_law := List.mem_of_getElem? (i := 137) (by decide +kernel)
theorem kw138 : Cond.instanceMethod yX3_thrown ∈ wsL_law := List.mem_of_getElem? (i := 138) (by decide +kernel)
theorem kw139 : Cond.selects RX3 yX3_thrown yX3_thrown ∈ wsL_law := List.mem_of_getElem? (i := 139) (by decide +kernel)
theorem kw140 : Cond.code yX3_thrown cX3_thrown 1 (some .int) ∈ wsL_law := List.mem_of_getElem? (i := 140) (by decide +kernel)
theorem kw141 : Cond.methodLink RL 91 yL_drag ∈ wsL_law := List.mem_of_getElem? (i := 141) (by decide +kernel)
theorem kw142 : Cond.static yL_drag ∈ wsL_law := List.mem_of_getElem? (i := 142) (by decide +kernel)
theorem kw143 : Cond.codeWith yL_drag cL_drag 7 (some .int) [(0, 14, 17, 13), (0, 14, 21, 15)] ∈ wsL_law := List.mem_of_getElem? (i := 143) (by decide +kernel)
theorem kw144 : Cond.methodLink RL 17 yX2_drag ∈ wsL_law := List.mem_of_getElem? (i := 144) (by decide +kernel)
theorem kw145 : Cond.instanceMethod yX2_drag ∈ wsL_law := List.mem_of_getElem? (i := 145) (by decide +kernel)
theorem kw146 : Cond.selects RX2 yX2_drag yX2_drag ∈ wsL_law := List.mem_of_getElem? (i := 146) (by decide +kernel)
theorem kw147 : Cond.code yX2_drag cX2_drag 8 (some .int) ∈ wsL_law := List.mem_of_getElem? (i := 147) (by decide +kernel)
theorem kw148 : Cond.methodLink RX2 66 yX1_dragsOf ∈ wsL_law := List.mem_of_getElem? (i := 148) (by decide +kernel)
theorem kw149 : Cond.instanceMethod yX1_dragsOf ∈ wsL_law := List.mem_of_getElem? (i := 149) (by decide +kernel)
theorem kw150 : Cond.selects RX1 yX1_dragsOf yX1_dragsOf ∈ wsL_law := List.mem_of_getElem? (i := 150) (by decide +kernel)
theorem kw151 : Cond.code yX1_dragsOf cX1_dragsOf 2 (some (.array .int)) ∈ wsL_law := List.mem_of_getElem? (i := 151) (by decide +kernel)
theorem kw152 : Cond.methodLink RL 94 yX3_drag ∈ wsL_law := List.mem_of_getElem? (i := 152) (by decide +kernel)
theorem kw153 : Cond.instanceMethod yX3_drag ∈ wsL_law := List.mem_of_getElem? (i := 153) (by decide +kernel)
theorem kw154 : Cond.selects RX3 yX3_drag yX3_drag ∈ wsL_law := List.mem_of_getElem? (i := 154) (by decide +kernel)
theorem kw155 : Cond.code yX3_drag cX3_drag 7 (some .int) ∈ wsL_law := List.mem_of_getElem? (i := 155) (by decide +kernel)
theorem kw156 : Cond.methodLink RX3 89 yX3_isColumn ∈ wsL_law := List.mem_of_getElem? (i := 156) (by decide +kernel)
theorem kw157 : Cond.static yX3_isColumn ∈ wsL_law := List.mem_of_getElem? (i := 157) (by decide +kernel)
theorem kw158 : Cond.code yX3_isColumn cX3_isColumn 1 (some .boolean) ∈ wsL_law := List.mem_of_getElem? (i := 158) (by decide +kernel)
theorem kw159 : Cond.methodLink RL 95 yL_clean ∈ wsL_law := List.mem_of_getElem? (i := 159) (by decide +kernel)
theorem kw160 : Cond.static yL_clean ∈ wsL_law := List.mem_of_getElem? (i := 160) (by decide +kernel)
theorem kw161 : Cond.codeWith yL_clean cL_clean 4 (some .int) [(0, 9, 12, 13)] ∈ wsL_law := List.mem_of_getElem? (i := 161) (by decide +kernel)
theorem kw162 : Cond.methodLink RL 21 yX2_clean ∈ wsL_law := List.mem_of_getElem? (i := 162) (by decide +kernel)
theorem kw163 : Cond.instanceMethod yX2_clean ∈ wsL_law := List.mem_of_getElem? (i := 163) (by decide +kernel)
theorem kw164 : Cond.selects RX2 yX2_clean yX2_clean ∈ wsL_law := List.mem_of_getElem? (i := 164) (by decide +kernel)
theorem kw165 : Cond.code yX2_clean cX2_clean 3 (some .int) ∈ wsL_law := List.mem_of_getElem? (i := 165) (by decide +kernel)
theorem kw166 : Cond.fieldLink RX2 70 "ShutterBench$Shutter" "sinceCleaned" "[I" ∈ wsL_law := List.mem_of_getElem? (i := 166) (by decide +kernel)
theorem kw167 : Cond.methodLink RL 98 yX3_clean ∈ wsL_law := List.mem_of_getElem? (i := 167) (by decide +kernel)
theorem kw168 : Cond.instanceMethod yX3_clean ∈ wsL_law := List.mem_of_getElem? (i := 168) (by decide +kernel)
theorem kw169 : Cond.selects RX3 yX3_clean yX3_clean ∈ wsL_law := List.mem_of_getElem? (i := 169) (by decide +kernel)
theorem kw170 : Cond.code yX3_clean cX3_clean 2 (some .int) ∈ wsL_law := List.mem_of_getElem? (i := 170) (by decide +kernel)
theorem kw171 : Cond.methodLink RL 99 yL_correct ∈ wsL_law := List.mem_of_getElem? (i := 171) (by decide +kernel)
theorem kw172 : Cond.static yL_correct ∈ wsL_law := List.mem_of_getElem? (i := 172) (by decide +kernel)
theorem kw173 : Cond.codeWith yL_correct cL_correct 5 (some .int) [(0, 10, 13, 13), (0, 10, 17, 15)] ∈ wsL_law := List.mem_of_getElem? (i := 173) (by decide +kernel)
theorem kw174 : Cond.methodLink RL 25 yX2_correct ∈ wsL_law := List.mem_of_getElem? (i := 174) (by decide +kernel)
theorem kw175 : Cond.instanceMethod yX2_correct ∈ wsL_law := List.mem_of_getElem? (i := 175) (by decide +kernel)
theorem kw176 : Cond.selects RX2 yX2_correct yX2_correct ∈ wsL_law := List.mem_of_getElem? (i := 176) (by decide +kernel)
theorem kw177 : Cond.code yX2_correct cX2_correct 4 (some .int) ∈ wsL_law := List.mem_of_getElem? (i := 177) (by decide +kernel)
theorem kw178 : Cond.fieldLink RX2 76 "ShutterBench$Shutter" "corrections" "[I" ∈ wsL_law := List.mem_of_getElem? (i := 178) (by decide +kernel)
theorem kw179 : Cond.methodLink RX2 73 yX2_needSpeed ∈ wsL_law := List.mem_of_getElem? (i := 179) (by decide +kernel)
theorem kw180 : Cond.static yX2_needSpeed ∈ wsL_law := List.mem_of_getElem? (i := 180) (by decide +kernel)
theorem kw181 : Cond.code yX2_needSpeed cX2_needSpeed 1 none ∈ wsL_law := List.mem_of_getElem? (i := 181) (by decide +kernel)
theorem kw182 : Cond.methodLink RL 101 yX3_correct ∈ wsL_law := List.mem_of_getElem? (i := 182) (by decide +kernel)
theorem kw183 : Cond.instanceMethod yX3_correct ∈ wsL_law := List.mem_of_getElem? (i := 183) (by decide +kernel)
theorem kw184 : Cond.selects RX3 yX3_correct yX3_correct ∈ wsL_law := List.mem_of_getElem? (i := 184) (by decide +kernel)
theorem kw185 : Cond.code yX3_correct cX3_correct 3 (some .int) ∈ wsL_law := List.mem_of_getElem? (i := 185) (by decide +kernel)
theorem kw186 : Cond.methodLink RX3 92 yX3_isSpeed ∈ wsL_law := List.mem_of_getElem? (i := 186) (by decide +kernel)
theorem kw187 : Cond.static yX3_isSpeed ∈ wsL_law := List.mem_of_getElem? (i := 187) (by decide +kernel)
theorem kw188 : Cond.code yX3_isSpeed cX3_isSpeed 1 (some .boolean) ∈ wsL_law := List.mem_of_getElem? (i := 188) (by decide +kernel)
theorem kw189 : Cond.methodLink RL 102 yL_set ∈ wsL_law := List.mem_of_getElem? (i := 189) (by decide +kernel)
theorem kw190 : Cond.static yL_set ∈ wsL_law := List.mem_of_getElem? (i := 190) (by decide +kernel)
theorem kw191 : Cond.codeWith yL_set cL_set 5 (some .int) [(0, 10, 13, 13), (0, 10, 17, 15)] ∈ wsL_law := List.mem_of_getElem? (i := 191) (by decide +kernel)
theorem kw192 : Cond.methodLink RL 28 yX2_set ∈ wsL_law := List.mem_of_getElem? (i := 192) (by decide +kernel)
theorem kw193 : Cond.instanceMethod yX2_set ∈ wsL_law := List.mem_of_getElem? (i := 193) (by decide +kernel)
theorem kw194 : Cond.selects RX2 yX2_set yX2_set ∈ wsL_law := List.mem_of_getElem? (i := 194) (by decide +kernel)
theorem kw195 : Cond.code yX2_set cX2_set 4 (some .int) ∈ wsL_law := List.mem_of_getElem? (i := 195) (by decide +kernel)
theorem kw196 : Cond.fieldLink RX2 89 "ShutterBench$Shutter" "settings" "[I" ∈ wsL_law := List.mem_of_getElem? (i := 196) (by decide +kernel)
theorem kw197 : Cond.methodLink RX2 79 yX2_needSetting ∈ wsL_law := List.mem_of_getElem? (i := 197) (by decide +kernel)
theorem kw198 : Cond.static yX2_needSetting ∈ wsL_law := List.mem_of_getElem? (i := 198) (by decide +kernel)
theorem kw199 : Cond.code yX2_needSetting cX2_needSetting 1 none ∈ wsL_law := List.mem_of_getElem? (i := 199) (by decide +kernel)
theorem kw200 : Cond.methodLink RX2 82 yX2_leastValue ∈ wsL_law := List.mem_of_getElem? (i := 200) (by decide +kernel)
theorem kw201 : Cond.static yX2_leastValue ∈ wsL_law := List.mem_of_getElem? (i := 201) (by decide +kernel)
theorem kw202 : Cond.code yX2_leastValue cX2_leastValue 1 (some .int) ∈ wsL_law := List.mem_of_getElem? (i := 202) (by decide +kernel)
theorem kw203 : Cond.methodLink RX2 86 yX2_mostValue ∈ wsL_law := List.mem_of_getElem? (i := 203) (by decide +kernel)
theorem kw204 : Cond.static yX2_mostValue ∈ wsL_law := List.mem_of_getElem? (i := 204) (by decide +kernel)
theorem kw205 : Cond.code yX2_mostValue cX2_mostValue 1 (some .int) ∈ wsL_law := List.mem_of_getElem? (i := 205) (by decide +kernel)
theorem kw206 : Cond.methodLink RL 104 yX3_set ∈ wsL_law := List.mem_of_getElem? (i := 206) (by decide +kernel)
theorem kw207 : Cond.instanceMethod yX3_set ∈ wsL_law := List.mem_of_getElem? (i := 207) (by decide +kernel)
theorem kw208 : Cond.selects RX3 yX3_set yX3_set ∈ wsL_law := List.mem_of_getElem? (i := 208) (by decide +kernel)
theorem kw209 : Cond.code yX3_set cX3_set 3 (some .int) ∈ wsL_law := List.mem_of_getElem? (i := 209) (by decide +kernel)
theorem kw210 : Cond.methodLink RX3 95 yX3_isFor ∈ wsL_law := List.mem_of_getElem? (i := 210) (by decide +kernel)
theorem kw211 : Cond.static yX3_isFor ∈ wsL_law := List.mem_of_getElem? (i := 211) (by decide +kernel)
theorem kw212 : Cond.code yX3_isFor cX3_isFor 2 (some .boolean) ∈ wsL_law := List.mem_of_getElem? (i := 212) (by decide +kernel)
theorem kw213 : Cond.methodLink RL 105 yL_shoot ∈ wsL_law := List.mem_of_getElem? (i := 213) (by decide +kernel)
theorem kw214 : Cond.static yL_shoot ∈ wsL_law := List.mem_of_getElem? (i := 214) (by decide +kernel)
theorem kw215 : Cond.codeWith yL_shoot cL_shoot 5 (some .int) [(0, 10, 13, 13), (0, 10, 17, 15)] ∈ wsL_law := List.mem_of_getElem? (i := 215) (by decide +kernel)
theorem kw216 : Cond.methodLink RL 31 yX2_shoot ∈ wsL_law := List.mem_of_getElem? (i := 216) (by decide +kernel)
theorem kw217 : Cond.instanceMethod yX2_shoot ∈ wsL_law := List.mem_of_getElem? (i := 217) (by decide +kernel)
theorem kw218 : Cond.selects RX2 yX2_shoot yX2_shoot ∈ wsL_law := List.mem_of_getElem? (i := 218) (by decide +kernel)
theorem kw219 : Cond.code yX2_shoot cX2_shoot 3 (some .int) ∈ wsL_law := List.mem_of_getElem? (i := 219) (by decide +kernel)
theorem kw220 : Cond.methodLink RX2 92 yX2_fire ∈ wsL_law := List.mem_of_getElem? (i := 220) (by decide +kernel)
theorem kw221 : Cond.instanceMethod yX2_fire ∈ wsL_law := List.mem_of_getElem? (i := 221) (by decide +kernel)
theorem kw222 : Cond.selects RX2 yX2_fire yX2_fire ∈ wsL_law := List.mem_of_getElem? (i := 222) (by decide +kernel)
theorem kw223 : Cond.code yX2_fire cX2_fire 5 none ∈ wsL_law := List.mem_of_getElem? (i := 223) (by decide +kernel)
theorem kw224 : Cond.methodLink RX2 143 yX0_expose ∈ wsL_law := List.mem_of_getElem? (i := 224) (by decide +kernel)
theorem kw225 : Cond.instanceMethod yX0_expose ∈ wsL_law := List.mem_of_getElem? (i := 225) (by decide +kernel)
theorem kw226 : Cond.selects RX0 yX0_expose yX0_expose ∈ wsL_law := List.mem_of_getElem? (i := 226) (by decide +kernel)
theorem kw227 : Cond.code yX0_expose cX0_expose 3 none ∈ wsL_law := List.mem_of_getElem? (i := 227) (by decide +kernel)
theorem kw228 : Cond.methodLink RX0 28 yX0_runCurtains ∈ wsL_law := List.mem_of_getElem? (i := 228) (by decide +kernel)
theorem kw229 : Cond.instanceMethod yX0_runCurtains ∈ wsL_law := List.mem_of_getElem? (i := 229) (by decide +kernel)
theorem kw230 : Cond.selects RX0 yX0_runCurtains yX0_runCurtains ∈ wsL_law := List.mem_of_getElem? (i := 230) (by decide +kernel)
theorem kw231 : Cond.code yX0_runCurtains cX0_runCurtains 8 none ∈ wsL_law := List.mem_of_getElem? (i := 231) (by decide +kernel)
theorem kw232 : Cond.fieldLink RX0 52 "ShutterBench$Shutter" "firstDrags" "[I" ∈ wsL_law := List.mem_of_getElem? (i := 232) (by decide +kernel)
theorem kw233 : Cond.fieldLink RX0 59 "ShutterBench$Shutter" "secondDrags" "[I" ∈ wsL_law := List.mem_of_getElem? (i := 233) (by decide +kernel)
theorem kw234 : Cond.methodLink RX0 62 Lib.Math.max.name ∈ wsL_law := List.mem_of_getElem? (i := 234) (by decide +kernel)
theorem kw235 : Cond.static Lib.Math.max.name ∈ wsL_law := List.mem_of_getElem? (i := 235) (by decide +kernel)
theorem kw236 : Cond.code Lib.Math.max.name Lib.Math.max.code 2 (some .int) ∈ wsL_law := List.mem_of_getElem? (i := 236) (by decide +kernel)
theorem kw237 : Cond.methodLink RX0 44 yX1_ticksWithoutDrag ∈ wsL_law := List.mem_of_getElem? (i := 237) (by decide +kernel)
theorem kw238 : Cond.instanceMethod yX1_ticksWithoutDrag ∈ wsL_law := List.mem_of_getElem? (i := 238) (by decide +kernel)
theorem kw239 : Cond.selects RX1 yX1_ticksWithoutDrag yX1_ticksWithoutDrag ∈ wsL_law := List.mem_of_getElem? (i := 239) (by decide +kernel)
theorem kw240 : Cond.code yX1_ticksWithoutDrag cX1_ticksWithoutDrag 4 (some .int) ∈ wsL_law := List.mem_of_getElem? (i := 240) (by decide +kernel)
theorem kw241 : Cond.methodLink RX0 49 yX1_startOfSecond ∈ wsL_law := List.mem_of_getElem? (i := 241) (by decide +kernel)
theorem kw242 : Cond.instanceMethod yX1_startOfSecond ∈ wsL_law := List.mem_of_getElem? (i := 242) (by decide +kernel)
theorem kw243 : Cond.selects RX1 yX1_startOfSecond yX1_startOfSecond ∈ wsL_law := List.mem_of_getElem? (i := 243) (by decide +kernel)
theorem kw244 : Cond.code yX1_startOfSecond cX1_startOfSecond 2 (some .int) ∈ wsL_law := List.mem_of_getElem? (i := 244) (by decide +kernel)
theorem kw245 : Cond.methodLink RX1 62 Lib.Math.max.name ∈ wsL_law := List.mem_of_getElem? (i := 245) (by decide +kernel)
theorem kw246 : Cond.static yX2_wantedLight ∈ wsL_law := List.mem_of_getElem? (i := 246) (by decide +kernel)
theorem kw247 : Cond.code yX2_wantedLight cX2_wantedLight 1 (some .int) ∈ wsL_law := List.mem_of_getElem? (i := 247) (by decide +kernel)
theorem kw248 : Cond.methodLink RX0 32 yX0_openColumns ∈ wsL_law := List.mem_of_getElem? (i := 248) (by decide +kernel)
theorem kw249 : Cond.instanceMethod yX0_openColumns ∈ wsL_law := List.mem_of_getElem? (i := 249) (by decide +kernel)
theorem kw250 : Cond.selects RX0 yX0_openColumns yX0_openColumns ∈ wsL_law := List.mem_of_getElem? (i := 250) (by decide +kernel)
theorem kw251 : Cond.code yX0_openColumns cX0_openColumns 9 none ∈ wsL_law := List.mem_of_getElem? (i := 251) (by decide +kernel)
theorem kw252 : Cond.fieldLink RX0 68 "ShutterBench$Shutter" "settings" "[I" ∈ wsL_law := List.mem_of_getElem? (i := 252) (by decide +kernel)
theorem kw253 : Cond.methodLink RX0 75 Lib.Math.min.name ∈ wsL_law := List.mem_of_getElem? (i := 253) (by decide +kernel)
theorem kw254 : Cond.methodLink RX0 71 yX1_bounceColumns ∈ wsL_law := List.mem_of_getElem? (i := 254) (by decide +kernel)
theorem kw255 : Cond.instanceMethod yX1_bounceColumns ∈ wsL_law := List.mem_of_getElem? (i := 255) (by decide +kernel)
theorem kw256 : Cond.selects RX1 yX1_bounceColumns yX1_bounceColumns ∈ wsL_law := List.mem_of_getElem? (i := 256) (by decide +kernel)
theorem kw257 : Cond.code yX1_bounceColumns cX1_bounceColumns 2 (some .int) ∈ wsL_law := List.mem_of_getElem? (i := 257) (by decide +kernel)
theorem kw258 : Cond.methodLink RX1 68 Lib.Math.min.name ∈ wsL_law := List.mem_of_getElem? (i := 258) (by decide +kernel)
theorem kw259 : Cond.methodLink RX0 40 yX0_sumUp ∈ wsL_law := List.mem_of_getElem? (i := 259) (by decide +kernel)
theorem kw260 : Cond.instanceMethod yX0_sumUp ∈ wsL_law := List.mem_of_getElem? (i := 260) (by decide +kernel)
theorem kw261 : Cond.selects RX0 yX0_sumUp yX0_sumUp ∈ wsL_law := List.mem_of_getElem? (i := 261) (by decide +kernel)
theorem kw262 : Cond.code yX0_sumUp cX0_sumUp 4 none ∈ wsL_law := List.mem_of_getElem? (i := 262) (by decide +kernel)
theorem kw263 : Cond.fieldLink RX0 78 "ShutterBench$Exposure" "allLight" "I" ∈ wsL_law := List.mem_of_getElem? (i := 263) (by decide +kernel)
theorem kw264 : Cond.fieldLink RX0 25 "ShutterBench$Exposure" "leastLight" "I" ∈ wsL_law := List.mem_of_getElem? (i := 264) (by decide +kernel)
theorem kw265 : Cond.fieldLink RX0 21 "ShutterBench$Exposure" "mostLight" "I" ∈ wsL_law := List.mem_of_getElem? (i := 265) (by decide +kernel)
theorem kw266 : Cond.fieldLink RX0 81 "ShutterBench$Exposure" "allErrors" "I" ∈ wsL_law := List.mem_of_getElem? (i := 266) (by decide +kernel)
theorem kw267 : Cond.fieldLink RX0 84 "ShutterBench$Exposure" "worstError" "I" ∈ wsL_law := List.mem_of_getElem? (i := 267) (by decide +kernel)
theorem kw268 : Cond.fieldLink RX0 87 "ShutterBench$Exposure" "worstColumn" "I" ∈ wsL_law := List.mem_of_getElem? (i := 268) (by decide +kernel)
theorem kw269 : Cond.fieldLink RX0 90 "ShutterBench$Exposure" "darkColumns" "I" ∈ wsL_law := List.mem_of_getElem? (i := 269) (by decide +kernel)
theorem kw270 : Cond.methodLink RX0 93 Lib.Math.abs.name ∈ wsL_law := List.mem_of_getElem? (i := 270) (by decide +kernel)
theorem kw271 : Cond.static Lib.Math.abs.name ∈ wsL_law := List.mem_of_getElem? (i := 271) (by decide +kernel)
theorem kw272 : Cond.code Lib.Math.abs.name Lib.Math.abs.code 1 (some .int) ∈ wsL_law := List.mem_of_getElem? (i := 272) (by decide +kernel)
theorem kw273 : Cond.methodLink RX2 197 yX1_tally ∈ wsL_law := List.mem_of_getElem? (i := 273) (by decide +kernel)
theorem kw274 : Cond.instanceMethod yX1_tally ∈ wsL_law := List.mem_of_getElem? (i := 274) (by decide +kernel)
theorem kw275 : Cond.selects RX1 yX1_tally yX1_tally ∈ wsL_law := List.mem_of_getElem? (i := 275) (by decide +kernel)
theorem kw276 : Cond.code yX1_tally cX1_tally 6 none ∈ wsL_law := List.mem_of_getElem? (i := 276) (by decide +kernel)
theorem kw277 : Cond.fieldLink RX1 75 "ShutterBench$Exposure" "allLight" "I" ∈ wsL_law := List.mem_of_getElem? (i := 277) (by decide +kernel)
theorem kw278 : Cond.methodLink RX1 80 yX0_spread ∈ wsL_law := List.mem_of_getElem? (i := 278) (by decide +kernel)
theorem kw279 : Cond.instanceMethod yX0_spread ∈ wsL_law := List.mem_of_getElem? (i := 279) (by decide +kernel)
theorem kw280 : Cond.selects RX0 yX0_spread yX0_spread ∈ wsL_law := List.mem_of_getElem? (i := 280) (by decide +kernel)
theorem kw281 : Cond.code yX0_spread cX0_spread 1 (some .int) ∈ wsL_law := List.mem_of_getElem? (i := 281) (by decide +kernel)
theorem kw282 : Cond.methodLink RX2 96 yX0_spread ∈ wsL_law := List.mem_of_getElem? (i := 282) (by decide +kernel)
theorem kw283 : Cond.methodLink RL 107 yX3_shoot ∈ wsL_law := List.mem_of_getElem? (i := 283) (by decide +kernel)
theorem kw284 : Cond.instanceMethod yX3_shoot ∈ wsL_law := List.mem_of_getElem? (i := 284) (by decide +kernel)
theorem kw285 : Cond.selects RX3 yX3_shoot yX3_shoot ∈ wsL_law := List.mem_of_getElem? (i := 285) (by decide +kernel)
theorem kw286 : Cond.code yX3_shoot cX3_shoot 3 (some .int) ∈ wsL_law := List.mem_of_getElem? (i := 286) (by decide +kernel)
theorem kw287 : Cond.methodLink RX3 102 yX3_shots ∈ wsL_law := List.mem_of_getElem? (i := 287) (by decide +kernel)
theorem kw288 : Cond.instanceMethod yX3_shots ∈ wsL_law := List.mem_of_getElem? (i := 288) (by decide +kernel)
theorem kw289 : Cond.selects RX3 yX3_shots yX3_shots ∈ wsL_law := List.mem_of_getElem? (i := 289) (by decide +kernel)
theorem kw290 : Cond.code yX3_shots cX3_shots 5 none ∈ wsL_law := List.mem_of_getElem? (i := 290) (by decide +kernel)
theorem kw291 : Cond.methodLink RX3 99 yX3_shoots ∈ wsL_law := List.mem_of_getElem? (i := 291) (by decide +kernel)
theorem kw292 : Cond.instanceMethod yX3_shoots ∈ wsL_law := List.mem_of_getElem? (i := 292) (by decide +kernel)
theorem kw293 : Cond.selects RX3 yX3_shoots yX3_shoots ∈ wsL_law := List.mem_of_getElem? (i := 293) (by decide +kernel)
theorem kw294 : Cond.code yX3_shoots cX3_shoots 5 none ∈ wsL_law := List.mem_of_getElem? (i := 294) (by decide +kernel)
theorem kw295 : Cond.methodLink RX3 71 yX3_lays ∈ wsL_law := List.mem_of_getElem? (i := 295) (by decide +kernel)
theorem kw296 : Cond.instanceMethod yX3_lays ∈ wsL_law := List.mem_of_getElem? (i := 296) (by decide +kernel)
theorem kw297 : Cond.selects RX3 yX3_lays yX3_lays ∈ wsL_law := List.mem_of_getElem? (i := 297) (by decide +kernel)
theorem kw298 : Cond.code yX3_lays cX3_lays 7 none ∈ wsL_law := List.mem_of_getElem? (i := 298) (by decide +kernel)
theorem kw299 : Cond.methodLink RX3 56 yX3_start ∈ wsL_law := List.mem_of_getElem? (i := 299) (by decide +kernel)
theorem kw300 : Cond.static yX3_start ∈ wsL_law := List.mem_of_getElem? (i := 300) (by decide +kernel)
theorem kw301 : Cond.code yX3_start cX3_start 3 (some .int) ∈ wsL_law := List.mem_of_getElem? (i := 301) (by decide +kernel)
theorem kw302 : Cond.methodLink RX3 53 yX3_wanted ∈ wsL_law := List.mem_of_getElem? (i := 302) (by decide +kernel)
theorem kw303 : Cond.static yX3_wanted ∈ wsL_law := List.mem_of_getElem? (i := 303) (by decide +kernel)
theorem kw304 : Cond.code yX3_wanted cX3_wanted 1 (some .int) ∈ wsL_law := List.mem_of_getElem? (i := 304) (by decide +kernel)
theorem kw305 : Cond.methodLink RX3 60 yX3_takes ∈ wsL_law := List.mem_of_getElem? (i := 305) (by decide +kernel)
theorem kw306 : Cond.static yX3_takes ∈ wsL_law := List.mem_of_getElem? (i := 306) (by decide +kernel)
theorem kw307 : Cond.code yX3_takes cX3_takes 3 (some .int) ∈ wsL_law := List.mem_of_getElem? (i := 307) (by decide +kernel)
theorem kw308 : Cond.methodLink RX3 64 yX3_bounced ∈ wsL_law := List.mem_of_getElem? (i := 308) (by decide +kernel)
theorem kw309 : Cond.static yX3_bounced ∈ wsL_law := List.mem_of_getElem? (i := 309) (by decide +kernel)
theorem kw310 : Cond.code yX3_bounced cX3_bounced 2 (some .int) ∈ wsL_law := List.mem_of_getElem? (i := 310) (by decide +kernel)
theorem kw311 : Cond.methodLink RX3 75 yX3_tells ∈ wsL_law := List.mem_of_getElem? (i := 311) (by decide +kernel)
theorem kw312 : Cond.instanceMethod yX3_tells ∈ wsL_law := List.mem_of_getElem? (i := 312) (by decide +kernel)
theorem kw313 : Cond.selects RX3 yX3_tells yX3_tells ∈ wsL_law := List.mem_of_getElem? (i := 313) (by decide +kernel)
theorem kw314 : Cond.code yX3_tells cX3_tells 12 (some .int) ∈ wsL_law := List.mem_of_getElem? (i := 314) (by decide +kernel)
theorem kw315 : Cond.methodLink RX3 68 yX3_size ∈ wsL_law := List.mem_of_getElem? (i := 315) (by decide +kernel)
theorem kw316 : Cond.static yX3_size ∈ wsL_law := List.mem_of_getElem? (i := 316) (by decide +kernel)
theorem kw317 : Cond.code yX3_size cX3_size 1 (some .int) ∈ wsL_law := List.mem_of_getElem? (i := 317) (by decide +kernel)
theorem kw318 : Cond.methodLink RL 108 yL_append ∈ wsL_law := List.mem_of_getElem? (i := 318) (by decide +kernel)
theorem kw319 : Cond.static yL_append ∈ wsL_law := List.mem_of_getElem? (i := 319) (by decide +kernel)
theorem kw320 : Cond.codeWith yL_append cL_append 4 (some .int) [(0, 9, 12, 15), (0, 9, 15, 37)] ∈ wsL_law := List.mem_of_getElem? (i := 320) (by decide +kernel)
theorem kw321 : Cond.classLink RL 37 "java/lang/IllegalStateException" ∈ wsL_law := List.mem_of_getElem? (i := 321) (by decide +kernel)
theorem kw322 : Cond.methodLink RL 34 yX2_append ∈ wsL_law := List.mem_of_getElem? (i := 322) (by decide +kernel)
theorem kw323 : Cond.instanceMethod yX2_append ∈ wsL_law := List.mem_of_getElem? (i := 323) (by decide +kernel)
theorem kw324 : Cond.selects RX2 yX2_append yX2_append ∈ wsL_law := List.mem_of_getElem? (i := 324) (by decide +kernel)
theorem kw325 : Cond.code yX2_append cX2_append 2 (some .int) ∈ wsL_law := List.mem_of_getElem? (i := 325) (by decide +kernel)
theorem kw326 : Cond.classLink RX2 100 "java/lang/IllegalStateException" ∈ wsL_law := List.mem_of_getElem? (i := 326) (by decide +kernel)
theorem kw327 : Cond.initialized "java/lang/IllegalStateException" ∈ wsL_law := List.mem_of_getElem? (i := 327) (by decide +kernel)
theorem kw328 : Cond.methodLink RL 110 yX3_append ∈ wsL_law := List.mem_of_getElem? (i := 328) (by decide +kernel)
theorem kw329 : Cond.instanceMethod yX3_append ∈ wsL_law := List.mem_of_getElem? (i := 329) (by decide +kernel)
theorem kw330 : Cond.selects RX3 yX3_append yX3_append ∈ wsL_law := List.mem_of_getElem? (i := 330) (by decide +kernel)
theorem kw331 : Cond.code yX3_append cX3_append 2 (some .int) ∈ wsL_law := List.mem_of_getElem? (i := 331) (by decide +kernel)
theorem kw332 : Cond.fieldLink RX3 106 "ShutterBenchModel" "typed" "I" ∈ wsL_law := List.mem_of_getElem? (i := 332) (by decide +kernel)
theorem kw333 : Cond.methodLink RL 111 yX2_clearBuffer ∈ wsL_law := List.mem_of_getElem? (i := 333) (by decide +kernel)
theorem kw334 : Cond.instanceMethod yX2_clearBuffer ∈ wsL_law := List.mem_of_getElem? (i := 334) (by decide +kernel)
theorem kw335 : Cond.selects RX2 yX2_clearBuffer yX2_clearBuffer ∈ wsL_law := List.mem_of_getElem? (i := 335) (by decide +kernel)
theorem kw336 : Cond.code yX2_clearBuffer cX2_clearBuffer 2 (some .int) ∈ wsL_law := List.mem_of_getElem? (i := 336) (by decide +kernel)
theorem kw337 : Cond.methodLink RL 114 yX3_clearBuffer ∈ wsL_law := List.mem_of_getElem? (i := 337) (by decide +kernel)
theorem kw338 : Cond.instanceMethod yX3_clearBuffer ∈ wsL_law := List.mem_of_getElem? (i := 338) (by decide +kernel)
theorem kw339 : Cond.selects RX3 yX3_clearBuffer yX3_clearBuffer ∈ wsL_law := List.mem_of_getElem? (i := 339) (by decide +kernel)
theorem kw340 : Cond.code yX3_clearBuffer cX3_clearBuffer 2 (some .int) ∈ wsL_law := List.mem_of_getElem? (i := 340) (by decide +kernel)
theorem kw341 : Cond.methodLink RL 115 yX2_firstError ∈ wsL_law := List.mem_of_getElem? (i := 341) (by decide +kernel)
theorem kw342 : Cond.instanceMethod yX2_firstError ∈ wsL_law := List.mem_of_getElem? (i := 342) (by decide +kernel)
theorem kw343 : Cond.selects RX2 yX2_firstError yX2_firstError ∈ wsL_law := List.mem_of_getElem? (i := 343) (by decide +kernel)
theorem kw344 : Cond.code yX2_firstError cX2_firstError 3 (some .int) ∈ wsL_law := List.mem_of_getElem? (i := 344) (by decide +kernel)
theorem kw345 : Cond.methodLink RX2 107 yX2_placeAfter ∈ wsL_law := List.mem_of_getElem? (i := 345) (by decide +kernel)
theorem kw346 : Cond.static yX2_placeAfter ∈ wsL_law := List.mem_of_getElem? (i := 346) (by decide +kernel)
theorem kw347 : Cond.code yX2_placeAfter cX2_placeAfter 2 (some .int) ∈ wsL_law := List.mem_of_getElem? (i := 347) (by decide +kernel)
theorem kw348 : Cond.methodLink RX2 271 yX2_placeAfterFirst ∈ wsL_law := List.mem_of_getElem? (i := 348) (by decide +kernel)
theorem kw349 : Cond.static yX2_placeAfterFirst ∈ wsL_law := List.mem_of_getElem? (i := 349) (by decide +kernel)
theorem kw350 : Cond.code yX2_placeAfterFirst cX2_placeAfterFirst 1 (some .int) ∈ wsL_law := List.mem_of_getElem? (i := 350) (by decide +kernel)
theorem kw351 : Cond.methodLink RX2 274 yX2_placeAfterPart ∈ wsL_law := List.mem_of_getElem? (i := 351) (by decide +kernel)
theorem kw352 : Cond.static yX2_placeAfterPart ∈ wsL_law := List.mem_of_getElem? (i := 352) (by decide +kernel)
theorem kw353 : Cond.code yX2_placeAfterPart cX2_placeAfterPart 1 (some .int) ∈ wsL_law := List.mem_of_getElem? (i := 353) (by decide +kernel)
theorem kw354 : Cond.methodLink RX2 277 yX2_isCurtainDigit ∈ wsL_law := List.mem_of_getElem? (i := 354) (by decide +kernel)
theorem kw355 : Cond.static yX2_isCurtainDigit ∈ wsL_law := List.mem_of_getElem? (i := 355) (by decide +kernel)
theorem kw356 : Cond.code yX2_isCurtainDigit cX2_isCurtainDigit 1 (some .boolean) ∈ wsL_law := List.mem_of_getElem? (i := 356) (by decide +kernel)
theorem kw357 : Cond.methodLink RL 118 yX3_firstError ∈ wsL_law := List.mem_of_getElem? (i := 357) (by decide +kernel)
theorem kw358 : Cond.instanceMethod yX3_firstError ∈ wsL_law := List.mem_of_getElem? (i := 358) (by decide +kernel)
theorem kw359 : Cond.selects RX3 yX3_firstError yX3_firstError ∈ wsL_law := List.mem_of_getElem? (i := 359) (by decide +kernel)
theorem kw360 : Cond.code yX3_firstError cX3_firstError 2 (some .int) ∈ wsL_law := List.mem_of_getElem? (i := 360) (by decide +kernel)
theorem kw361 : Cond.fieldLink RX3 112 "ShutterBenchModel" "isFault" "Z" ∈ wsL_law := List.mem_of_getElem? (i := 361) (by decide +kernel)
theorem kw362 : Cond.fieldLink RX3 109 "ShutterBenchModel" "at" "I" ∈ wsL_law := List.mem_of_getElem? (i := 362) (by decide +kernel)
theorem kw363 : Cond.methodLink RX3 135 yX3_isText ∈ wsL_law := List.mem_of_getElem? (i := 363) (by decide +kernel)
theorem kw364 : Cond.instanceMethod yX3_isText ∈ wsL_law := List.mem_of_getElem? (i := 364) (by decide +kernel)
theorem kw365 : Cond.selects RX3 yX3_isText yX3_isText ∈ wsL_law := List.mem_of_getElem? (i := 365) (by decide +kernel)
theorem kw366 : Cond.code yX3_isText cX3_isText 2 (some .boolean) ∈ wsL_law := List.mem_of_getElem? (i := 366) (by decide +kernel)
theorem kw367 : Cond.fieldLink RX3 123 "ShutterBenchModel" "tolds" "I" ∈ wsL_law := List.mem_of_getElem? (i := 367) (by decide +kernel)
theorem kw368 : Cond.methodLink RX3 132 yX3_isPart ∈ wsL_law := List.mem_of_getElem? (i := 368) (by decide +kernel)
theorem kw369 : Cond.instanceMethod yX3_isPart ∈ wsL_law := List.mem_of_getElem? (i := 369) (by decide +kernel)
theorem kw370 : Cond.selects RX3 yX3_isPart yX3_isPart ∈ wsL_law := List.mem_of_getElem? (i := 370) (by decide +kernel)
theorem kw371 : Cond.code yX3_isPart cX3_isPart 2 (some .boolean) ∈ wsL_law := List.mem_of_getElem? (i := 371) (by decide +kernel)
theorem kw372 : Cond.methodLink RX3 129 yX3_isWinding ∈ wsL_law := List.mem_of_getElem? (i := 372) (by decide +kernel)
theorem kw373 : Cond.instanceMethod yX3_isWinding ∈ wsL_law := List.mem_of_getElem? (i := 373) (by decide +kernel)
theorem kw374 : Cond.selects RX3 yX3_isWinding yX3_isWinding ∈ wsL_law := List.mem_of_getElem? (i := 374) (by decide +kernel)
theorem kw375 : Cond.code yX3_isWinding cX3_isWinding 1 (some .boolean) ∈ wsL_law := List.mem_of_getElem? (i := 375) (by decide +kernel)
theorem kw376 : Cond.methodLink RX3 126 yX3_isDigit ∈ wsL_law := List.mem_of_getElem? (i := 376) (by decide +kernel)
theorem kw377 : Cond.instanceMethod yX3_isDigit ∈ wsL_law := List.mem_of_getElem? (i := 377) (by decide +kernel)
theorem kw378 : Cond.selects RX3 yX3_isDigit yX3_isDigit ∈ wsL_law := List.mem_of_getElem? (i := 378) (by decide +kernel)
theorem kw379 : Cond.code yX3_isDigit cX3_isDigit 4 (some .boolean) ∈ wsL_law := List.mem_of_getElem? (i := 379) (by decide +kernel)
theorem kw380 : Cond.methodLink RX3 116 yX3_isAt ∈ wsL_law := List.mem_of_getElem? (i := 380) (by decide +kernel)
theorem kw381 : Cond.instanceMethod yX3_isAt ∈ wsL_law := List.mem_of_getElem? (i := 381) (by decide +kernel)
theorem kw382 : Cond.selects RX3 yX3_isAt yX3_isAt ∈ wsL_law := List.mem_of_getElem? (i := 382) (by decide +kernel)
theorem kw383 : Cond.code yX3_isAt cX3_isAt 3 (some .boolean) ∈ wsL_law := List.mem_of_getElem? (i := 383) (by decide +kernel)
theorem kw384 : Cond.methodLink RX3 119 yX3_stops ∈ wsL_law := List.mem_of_getElem? (i := 384) (by decide +kernel)
theorem kw385 : Cond.instanceMethod yX3_stops ∈ wsL_law := List.mem_of_getElem? (i := 385) (by decide +kernel)
theorem kw386 : Cond.selects RX3 yX3_stops yX3_stops ∈ wsL_law := List.mem_of_getElem? (i := 386) (by decide +kernel)
theorem kw387 : Cond.code yX3_stops cX3_stops 1 (some .boolean) ∈ wsL_law := List.mem_of_getElem? (i := 387) (by decide +kernel)
theorem kw388 : Cond.methodLink RL 119 yL_play ∈ wsL_law := List.mem_of_getElem? (i := 388) (by decide +kernel)
theorem kw389 : Cond.static yL_play ∈ wsL_law := List.mem_of_getElem? (i := 389) (by decide +kernel)
theorem kw390 : Cond.codeWith yL_play cL_play 3 (some .int) [(0, 8, 11, 15)] ∈ wsL_law := List.mem_of_getElem? (i := 390) (by decide +kernel)
theorem kw391 : Cond.methodLink RL 39 yX2_play ∈ wsL_law := List.mem_of_getElem? (i := 391) (by decide +kernel)
theorem kw392 : Cond.instanceMethod yX2_play ∈ wsL_law := List.mem_of_getElem? (i := 392) (by decide +kernel)
theorem kw393 : Cond.selects RX2 yX2_play yX2_play ∈ wsL_law := List.mem_of_getElem? (i := 393) (by decide +kernel)
theorem kw394 : Cond.code yX2_play cX2_play 4 (some .int) ∈ wsL_law := List.mem_of_getElem? (i := 394) (by decide +kernel)
theorem kw395 : Cond.methodLink RX2 111 yX2_isComplete ∈ wsL_law := List.mem_of_getElem? (i := 395) (by decide +kernel)
theorem kw396 : Cond.instanceMethod yX2_isComplete ∈ wsL_law := List.mem_of_getElem? (i := 396) (by decide +kernel)
theorem kw397 : Cond.selects RX2 yX2_isComplete yX2_isComplete ∈ wsL_law := List.mem_of_getElem? (i := 397) (by decide +kernel)
theorem kw398 : Cond.code yX2_isComplete cX2_isComplete 3 (some .boolean) ∈ wsL_law := List.mem_of_getElem? (i := 398) (by decide +kernel)
theorem kw399 : Cond.methodLink RX2 120 yX2_playPart ∈ wsL_law := List.mem_of_getElem? (i := 399) (by decide +kernel)
theorem kw400 : Cond.instanceMethod yX2_playPart ∈ wsL_law := List.mem_of_getElem? (i := 400) (by decide +kernel)
theorem kw401 : Cond.selects RX2 yX2_playPart yX2_playPart ∈ wsL_law := List.mem_of_getElem? (i := 401) (by decide +kernel)
theorem kw402 : Cond.code yX2_playPart cX2_playPart 5 (some .int) ∈ wsL_law := List.mem_of_getElem? (i := 402) (by decide +kernel)
theorem kw403 : Cond.methodLink RX2 281 yX2_digitAt ∈ wsL_law := List.mem_of_getElem? (i := 403) (by decide +kernel)
theorem kw404 : Cond.instanceMethod yX2_digitAt ∈ wsL_law := List.mem_of_getElem? (i := 404) (by decide +kernel)
theorem kw405 : Cond.selects RX2 yX2_digitAt yX2_digitAt ∈ wsL_law := List.mem_of_getElem? (i := 405) (by decide +kernel)
theorem kw406 : Cond.code yX2_digitAt cX2_digitAt 2 (some .int) ∈ wsL_law := List.mem_of_getElem? (i := 406) (by decide +kernel)
theorem kw407 : Cond.methodLink RX2 284 yX2_springOfText ∈ wsL_law := List.mem_of_getElem? (i := 407) (by decide +kernel)
theorem kw408 : Cond.instanceMethod yX2_springOfText ∈ wsL_law := List.mem_of_getElem? (i := 408) (by decide +kernel)
theorem kw409 : Cond.selects RX2 yX2_springOfText yX2_springOfText ∈ wsL_law := List.mem_of_getElem? (i := 409) (by decide +kernel)
theorem kw410 : Cond.code yX2_springOfText cX2_springOfText 4 (some .int) ∈ wsL_law := List.mem_of_getElem? (i := 410) (by decide +kernel)
theorem kw411 : Cond.methodLink RL 122 yX3_play ∈ wsL_law := List.mem_of_getElem? (i := 411) (by decide +kernel)
theorem kw412 : Cond.instanceMethod yX3_play ∈ wsL_law := List.mem_of_getElem? (i := 412) (by decide +kernel)
theorem kw413 : Cond.selects RX3 yX3_play yX3_play ∈ wsL_law := List.mem_of_getElem? (i := 413) (by decide +kernel)
theorem kw414 : Cond.code yX3_play cX3_play 4 (some .int) ∈ wsL_law := List.mem_of_getElem? (i := 414) (by decide +kernel)
theorem kw415 : Cond.methodLink RL 123 yL_undo ∈ wsL_law := List.mem_of_getElem? (i := 415) (by decide +kernel)
theorem kw416 : Cond.static yL_undo ∈ wsL_law := List.mem_of_getElem? (i := 416) (by decide +kernel)
theorem kw417 : Cond.codeWith yL_undo cL_undo 3 (some .int) [(0, 8, 11, 37)] ∈ wsL_law := List.mem_of_getElem? (i := 417) (by decide +kernel)
theorem kw418 : Cond.methodLink RL 43 yX2_undo ∈ wsL_law := List.mem_of_getElem? (i := 418) (by decide +kernel)
theorem kw419 : Cond.instanceMethod yX2_undo ∈ wsL_law := List.mem_of_getElem? (i := 419) (by decide +kernel)
theorem kw420 : Cond.selects RX2 yX2_undo yX2_undo ∈ wsL_law := List.mem_of_getElem? (i := 420) (by decide +kernel)
theorem kw421 : Cond.code yX2_undo cX2_undo 2 (some .int) ∈ wsL_law := List.mem_of_getElem? (i := 421) (by decide +kernel)
theorem kw422 : Cond.methodLink RL 125 yX3_undo ∈ wsL_law := List.mem_of_getElem? (i := 422) (by decide +kernel)
theorem kw423 : Cond.instanceMethod yX3_undo ∈ wsL_law := List.mem_of_getElem? (i := 423) (by decide +kernel)
theorem kw424 : Cond.selects RX3 yX3_undo yX3_undo ∈ wsL_law := List.mem_of_getElem? (i := 424) (by decide +kernel)
theorem kw425 : Cond.code yX3_undo cX3_undo 1 (some .int) ∈ wsL_law := List.mem_of_getElem? (i := 425) (by decide +kernel)
theorem kw426 : Cond.methodLink RL 126 yL_curtain ∈ wsL_law := List.mem_of_getElem? (i := 426) (by decide +kernel)
theorem kw427 : Cond.static yL_curtain ∈ wsL_law := List.mem_of_getElem? (i := 427) (by decide +kernel)
theorem kw428 : Cond.codeWith yL_curtain cL_curtain 5 (some .int) [(0, 10, 13, 13), (0, 10, 17, 15)] ∈ wsL_law := List.mem_of_getElem? (i := 428) (by decide +kernel)
theorem kw429 : Cond.methodLink RL 46 yX2_curtain ∈ wsL_law := List.mem_of_getElem? (i := 429) (by decide +kernel)
theorem kw430 : Cond.instanceMethod yX2_curtain ∈ wsL_law := List.mem_of_getElem? (i := 430) (by decide +kernel)
theorem kw431 : Cond.selects RX2 yX2_curtain yX2_curtain ∈ wsL_law := List.mem_of_getElem? (i := 431) (by decide +kernel)
theorem kw432 : Cond.code yX2_curtain cX2_curtain 3 (some .int) ∈ wsL_law := List.mem_of_getElem? (i := 432) (by decide +kernel)
theorem kw433 : Cond.methodLink RX2 133 yX1_ticksForAll ∈ wsL_law := List.mem_of_getElem? (i := 433) (by decide +kernel)
theorem kw434 : Cond.instanceMethod yX1_ticksForAll ∈ wsL_law := List.mem_of_getElem? (i := 434) (by decide +kernel)
theorem kw435 : Cond.selects RX1 yX1_ticksForAll yX1_ticksForAll ∈ wsL_law := List.mem_of_getElem? (i := 435) (by decide +kernel)
theorem kw436 : Cond.code yX1_ticksForAll cX1_ticksForAll 5 (some .int) ∈ wsL_law := List.mem_of_getElem? (i := 436) (by decide +kernel)
theorem kw437 : Cond.methodLink RX1 51 yX1_dragsOf ∈ wsL_law := List.mem_of_getElem? (i := 437) (by decide +kernel)
theorem kw438 : Cond.methodLink RX1 55 yX1_ticksWithoutDrag ∈ wsL_law := List.mem_of_getElem? (i := 438) (by decide +kernel)
theorem kw439 : Cond.methodLink RX2 136 yX1_slowestColumn ∈ wsL_law := List.mem_of_getElem? (i := 439) (by decide +kernel)
theorem kw440 : Cond.instanceMethod yX1_slowestColumn ∈ wsL_law := List.mem_of_getElem? (i := 440) (by decide +kernel)
theorem kw441 : Cond.selects RX1 yX1_slowestColumn yX1_slowestColumn ∈ wsL_law := List.mem_of_getElem? (i := 441) (by decide +kernel)
theorem kw442 : Cond.code yX1_slowestColumn cX1_slowestColumn 5 (some .int) ∈ wsL_law := List.mem_of_getElem? (i := 442) (by decide +kernel)
theorem kw443 : Cond.methodLink RL 128 yX3_curtain ∈ wsL_law := List.mem_of_getElem? (i := 443) (by decide +kernel)
theorem kw444 : Cond.instanceMethod yX3_curtain ∈ wsL_law := List.mem_of_getElem? (i := 444) (by decide +kernel)
theorem kw445 : Cond.selects RX3 yX3_curtain yX3_curtain ∈ wsL_law := List.mem_of_getElem? (i := 445) (by decide +kernel)
theorem kw446 : Cond.code yX3_curtain cX3_curtain 3 (some .int) ∈ wsL_law := List.mem_of_getElem? (i := 446) (by decide +kernel)
theorem kw447 : Cond.methodLink RX3 138 yX3_ofCurtain ∈ wsL_law := List.mem_of_getElem? (i := 447) (by decide +kernel)
theorem kw448 : Cond.instanceMethod yX3_ofCurtain ∈ wsL_law := List.mem_of_getElem? (i := 448) (by decide +kernel)
theorem kw449 : Cond.selects RX3 yX3_ofCurtain yX3_ofCurtain ∈ wsL_law := List.mem_of_getElem? (i := 449) (by decide +kernel)
theorem kw450 : Cond.code yX3_ofCurtain cX3_ofCurtain 6 (some .int) ∈ wsL_law := List.mem_of_getElem? (i := 450) (by decide +kernel)
theorem kw451 : Cond.methodLink RL 129 yL_column ∈ wsL_law := List.mem_of_getElem? (i := 451) (by decide +kernel)
theorem kw452 : Cond.static yL_column ∈ wsL_law := List.mem_of_getElem? (i := 452) (by decide +kernel)
theorem kw453 : Cond.codeWith yL_column cL_column 6 (some .int) [(0, 12, 15, 13), (0, 12, 19, 15)] ∈ wsL_law := List.mem_of_getElem? (i := 453) (by decide +kernel)
theorem kw454 : Cond.methodLink RL 49 yX2_column ∈ wsL_law := List.mem_of_getElem? (i := 454) (by decide +kernel)
theorem kw455 : Cond.instanceMethod yX2_column ∈ wsL_law := List.mem_of_getElem? (i := 455) (by decide +kernel)
theorem kw456 : Cond.selects RX2 yX2_column yX2_column ∈ wsL_law := List.mem_of_getElem? (i := 456) (by decide +kernel)
theorem kw457 : Cond.code yX2_column cX2_column 4 (some .int) ∈ wsL_law := List.mem_of_getElem? (i := 457) (by decide +kernel)
theorem kw458 : Cond.fieldLink RX2 147 "ShutterBench$Exposure" "leftAt" "[I" ∈ wsL_law := List.mem_of_getElem? (i := 458) (by decide +kernel)
theorem kw459 : Cond.fieldLink RX2 150 "ShutterBench$Exposure" "coveredAt" "[I" ∈ wsL_law := List.mem_of_getElem? (i := 459) (by decide +kernel)
theorem kw460 : Cond.fieldLink RX2 153 "ShutterBench$Exposure" "light" "[I" ∈ wsL_law := List.mem_of_getElem? (i := 460) (by decide +kernel)
theorem kw461 : Cond.methodLink RX2 159 Lib.Math.abs.name ∈ wsL_law := List.mem_of_getElem? (i := 461) (by decide +kernel)
theorem kw462 : Cond.methodLink RX2 156 yX2_wantedLight ∈ wsL_law := List.mem_of_getElem? (i := 462) (by decide +kernel)
theorem kw463 : Cond.methodLink RL 132 yX3_column ∈ wsL_law := List.mem_of_getElem? (i := 463) (by decide +kernel)
theorem kw464 : Cond.instanceMethod yX3_column ∈ wsL_law := List.mem_of_getElem? (i := 464) (by decide +kernel)
theorem kw465 : Cond.selects RX3 yX3_column yX3_column ∈ wsL_law := List.mem_of_getElem? (i := 465) (by decide +kernel)
theorem kw466 : Cond.code yX3_column cX3_column 4 (some .int) ∈ wsL_law := List.mem_of_getElem? (i := 466) (by decide +kernel)
theorem kw467 : Cond.methodLink RX3 141 yX3_ofColumn ∈ wsL_law := List.mem_of_getElem? (i := 467) (by decide +kernel)
theorem kw468 : Cond.instanceMethod yX3_ofColumn ∈ wsL_law := List.mem_of_getElem? (i := 468) (by decide +kernel)
theorem kw469 : Cond.selects RX3 yX3_ofColumn yX3_ofColumn ∈ wsL_law := List.mem_of_getElem? (i := 469) (by decide +kernel)
theorem kw470 : Cond.code yX3_ofColumn cX3_ofColumn 4 (some .int) ∈ wsL_law := List.mem_of_getElem? (i := 470) (by decide +kernel)
theorem kw471 : Cond.methodLink RL 133 yL_speed ∈ wsL_law := List.mem_of_getElem? (i := 471) (by decide +kernel)
theorem kw472 : Cond.static yL_speed ∈ wsL_law := List.mem_of_getElem? (i := 472) (by decide +kernel)
theorem kw473 : Cond.codeWith yL_speed cL_speed 5 (some .int) [(0, 10, 13, 13), (0, 10, 17, 15)] ∈ wsL_law := List.mem_of_getElem? (i := 473) (by decide +kernel)
theorem kw474 : Cond.methodLink RL 53 yX2_speed ∈ wsL_law := List.mem_of_getElem? (i := 474) (by decide +kernel)
theorem kw475 : Cond.instanceMethod yX2_speed ∈ wsL_law := List.mem_of_getElem? (i := 475) (by decide +kernel)
theorem kw476 : Cond.selects RX2 yX2_speed yX2_speed ∈ wsL_law := List.mem_of_getElem? (i := 476) (by decide +kernel)
theorem kw477 : Cond.code yX2_speed cX2_speed 3 (some .int) ∈ wsL_law := List.mem_of_getElem? (i := 477) (by decide +kernel)
theorem kw478 : Cond.fieldLink RX2 167 "ShutterBench$Exposure" "allLight" "I" ∈ wsL_law := List.mem_of_getElem? (i := 478) (by decide +kernel)
theorem kw479 : Cond.fieldLink RX2 170 "ShutterBench$Exposure" "worstError" "I" ∈ wsL_law := List.mem_of_getElem? (i := 479) (by decide +kernel)
theorem kw480 : Cond.fieldLink RX2 173 "ShutterBench$Exposure" "worstColumn" "I" ∈ wsL_law := List.mem_of_getElem? (i := 480) (by decide +kernel)
theorem kw481 : Cond.fieldLink RX2 176 "ShutterBench$Exposure" "darkColumns" "I" ∈ wsL_law := List.mem_of_getElem? (i := 481) (by decide +kernel)
theorem kw482 : Cond.fieldLink RX2 179 "ShutterBench$Shutter" "shotsWith" "[I" ∈ wsL_law := List.mem_of_getElem? (i := 482) (by decide +kernel)
theorem kw483 : Cond.methodLink RX2 164 yX1_startOfSecond ∈ wsL_law := List.mem_of_getElem? (i := 483) (by decide +kernel)
theorem kw484 : Cond.methodLink RL 135 yX3_speed ∈ wsL_law := List.mem_of_getElem? (i := 484) (by decide +kernel)
theorem kw485 : Cond.instanceMethod yX3_speed ∈ wsL_law := List.mem_of_getElem? (i := 485) (by decide +kernel)
theorem kw486 : Cond.selects RX3 yX3_speed yX3_speed ∈ wsL_law := List.mem_of_getElem? (i := 486) (by decide +kernel)
theorem kw487 : Cond.code yX3_speed cX3_speed 3 (some .int) ∈ wsL_law := List.mem_of_getElem? (i := 487) (by decide +kernel)
theorem kw488 : Cond.methodLink RX3 145 yX3_ofSpeed ∈ wsL_law := List.mem_of_getElem? (i := 488) (by decide +kernel)
theorem kw489 : Cond.instanceMethod yX3_ofSpeed ∈ wsL_law := List.mem_of_getElem? (i := 489) (by decide +kernel)
theorem kw490 : Cond.selects RX3 yX3_ofSpeed yX3_ofSpeed ∈ wsL_law := List.mem_of_getElem? (i := 490) (by decide +kernel)
theorem kw491 : Cond.code yX3_ofSpeed cX3_ofSpeed 3 (some .int) ∈ wsL_law := List.mem_of_getElem? (i := 491) (by decide +kernel)
theorem kw492 : Cond.methodLink RL 136 yL_count ∈ wsL_law := List.mem_of_getElem? (i := 492) (by decide +kernel)
theorem kw493 : Cond.static yL_count ∈ wsL_law := List.mem_of_getElem? (i := 493) (by decide +kernel)
theorem kw494 : Cond.codeWith yL_count cL_count 4 (some .int) [(0, 9, 12, 15)] ∈ wsL_law := List.mem_of_getElem? (i := 494) (by decide +kernel)
theorem kw495 : Cond.methodLink RL 56 yX2_count ∈ wsL_law := List.mem_of_getElem? (i := 495) (by decide +kernel)
theorem kw496 : Cond.instanceMethod yX2_count ∈ wsL_law := List.mem_of_getElem? (i := 496) (by decide +kernel)
theorem kw497 : Cond.selects RX2 yX2_count yX2_count ∈ wsL_law := List.mem_of_getElem? (i := 497) (by decide +kernel)
theorem kw498 : Cond.code yX2_count cX2_count 2 (some .int) ∈ wsL_law := List.mem_of_getElem? (i := 498) (by decide +kernel)
theorem kw499 : Cond.fieldLink RX2 182 "ShutterBench$Shutter" "shots" "I" ∈ wsL_law := List.mem_of_getElem? (i := 499) (by decide +kernel)
theorem kw500 : Cond.fieldLink RX2 185 "ShutterBench$Shutter" "lastLight" "I" ∈ wsL_law := List.mem_of_getElem? (i := 500) (by decide +kernel)
theorem kw501 : Cond.fieldLink RX2 191 "ShutterBench$Shutter" "greatestSpread" "I" ∈ wsL_law := List.mem_of_getElem? (i := 501) (by decide +kernel)
theorem kw502 : Cond.methodLink RX2 188 yX1_bounceColumns ∈ wsL_law := List.mem_of_getElem? (i := 502) (by decide +kernel)
theorem kw503 : Cond.methodLink RL 138 yX3_count ∈ wsL_law := List.mem_of_getElem? (i := 503) (by decide +kernel)
theorem kw504 : Cond.instanceMethod yX3_count ∈ wsL_law := List.mem_of_getElem? (i := 504) (by decide +kernel)
theorem kw505 : Cond.selects RX3 yX3_count yX3_count ∈ wsL_law := List.mem_of_getElem? (i := 505) (by decide +kernel)
theorem kw506 : Cond.code yX3_count cX3_count 2 (some .int) ∈ wsL_law := List.mem_of_getElem? (i := 506) (by decide +kernel)
theorem kw507 : Cond.methodLink RX3 148 yX3_counted ∈ wsL_law := List.mem_of_getElem? (i := 507) (by decide +kernel)
theorem kw508 : Cond.instanceMethod yX3_counted ∈ wsL_law := List.mem_of_getElem? (i := 508) (by decide +kernel)
theorem kw509 : Cond.selects RX3 yX3_counted yX3_counted ∈ wsL_law := List.mem_of_getElem? (i := 509) (by decide +kernel)
theorem kw510 : Cond.code yX3_counted cX3_counted 2 (some .int) ∈ wsL_law := List.mem_of_getElem? (i := 510) (by decide +kernel)
theorem kw511 : Cond.methodLink RL 139 yL_setting ∈ wsL_law := List.mem_of_getElem? (i := 511) (by decide +kernel)
theorem kw512 : Cond.static yL_setting ∈ wsL_law := List.mem_of_getElem? (i := 512) (by decide +kernel)
theorem kw513 : Cond.codeWith yL_setting cL_setting 4 (some .int) [(0, 9, 12, 13)] ∈ wsL_law := List.mem_of_getElem? (i := 513) (by decide +kernel)
theorem kw514 : Cond.methodLink RL 59 yX2_setting ∈ wsL_law := List.mem_of_getElem? (i := 514) (by decide +kernel)
theorem kw515 : Cond.instanceMethod yX2_setting ∈ wsL_law := List.mem_of_getElem? (i := 515) (by decide +kernel)
theorem kw516 : Cond.selects RX2 yX2_setting yX2_setting ∈ wsL_law := List.mem_of_getElem? (i := 516) (by decide +kernel)
theorem kw517 : Cond.code yX2_setting cX2_setting 2 (some .int) ∈ wsL_law := List.mem_of_getElem? (i := 517) (by decide +kernel)
theorem kw518 : Cond.methodLink RL 141 yX3_setting ∈ wsL_law := List.mem_of_getElem? (i := 518) (by decide +kernel)
theorem kw519 : Cond.instanceMethod yX3_setting ∈ wsL_law := List.mem_of_getElem? (i := 519) (by decide +kernel)
theorem kw520 : Cond.selects RX3 yX3_setting yX3_setting ∈ wsL_law := List.mem_of_getElem? (i := 520) (by decide +kernel)
theorem kw521 : Cond.code yX3_setting cX3_setting 2 (some .int) ∈ wsL_law := List.mem_of_getElem? (i := 521) (by decide +kernel)
theorem kw522 : Cond.methodLink RL 142 yL_bestCorrection ∈ wsL_law := List.mem_of_getElem? (i := 522) (by decide +kernel)
theorem kw523 : Cond.static yL_bestCorrection ∈ wsL_law := List.mem_of_getElem? (i := 523) (by decide +kernel)
theorem kw524 : Cond.codeWith yL_bestCorrection cL_bestCorrection 4 (some .int) [(0, 9, 12, 13)] ∈ wsL_law := List.mem_of_getElem? (i := 524) (by decide +kernel)
theorem kw525 : Cond.methodLink RL 62 yX2_bestCorrection ∈ wsL_law := List.mem_of_getElem? (i := 525) (by decide +kernel)
theorem kw526 : Cond.instanceMethod yX2_bestCorrection ∈ wsL_law := List.mem_of_getElem? (i := 526) (by decide +kernel)
theorem kw527 : Cond.selects RX2 yX2_bestCorrection yX2_bestCorrection ∈ wsL_law := List.mem_of_getElem? (i := 527) (by decide +kernel)
theorem kw528 : Cond.code yX2_bestCorrection cX2_bestCorrection 5 (some .int) ∈ wsL_law := List.mem_of_getElem? (i := 528) (by decide +kernel)
theorem kw529 : Cond.fieldLink RX2 194 "ShutterBench$Exposure" "allErrors" "I" ∈ wsL_law := List.mem_of_getElem? (i := 529) (by decide +kernel)
theorem kw530 : Cond.methodLink RL 144 yX3_bestCorrection ∈ wsL_law := List.mem_of_getElem? (i := 530) (by decide +kernel)
theorem kw531 : Cond.instanceMethod yX3_bestCorrection ∈ wsL_law := List.mem_of_getElem? (i := 531) (by decide +kernel)
theorem kw532 : Cond.selects RX3 yX3_bestCorrection yX3_bestCorrection ∈ wsL_law := List.mem_of_getElem? (i := 532) (by decide +kernel)
theorem kw533 : Cond.code yX3_bestCorrection cX3_bestCorrection 2 (some .int) ∈ wsL_law := List.mem_of_getElem? (i := 533) (by decide +kernel)
theorem kw534 : Cond.methodLink RX3 151 yX3_best ∈ wsL_law := List.mem_of_getElem? (i := 534) (by decide +kernel)
theorem kw535 : Cond.instanceMethod yX3_best ∈ wsL_law := List.mem_of_getElem? (i := 535) (by decide +kernel)
theorem kw536 : Cond.selects RX3 yX3_best yX3_best ∈ wsL_law := List.mem_of_getElem? (i := 536) (by decide +kernel)
theorem kw537 : Cond.code yX3_best cX3_best 10 (some .int) ∈ wsL_law := List.mem_of_getElem? (i := 537) (by decide +kernel)
theorem kw538 : Cond.methodLink RL 145 yL_bestSpring ∈ wsL_law := List.mem_of_getElem? (i := 538) (by decide +kernel)
theorem kw539 : Cond.static yL_bestSpring ∈ wsL_law := List.mem_of_getElem? (i := 539) (by decide +kernel)
theorem kw540 : Cond.codeWith yL_bestSpring cL_bestSpring 5 (some .int) [(0, 10, 13, 13)] ∈ wsL_law := List.mem_of_getElem? (i := 540) (by decide +kernel)
theorem kw541 : Cond.methodLink RL 65 yX2_bestSpring ∈ wsL_law := List.mem_of_getElem? (i := 541) (by decide +kernel)
theorem kw542 : Cond.instanceMethod yX2_bestSpring ∈ wsL_law := List.mem_of_getElem? (i := 542) (by decide +kernel)
theorem kw543 : Cond.selects RX2 yX2_bestSpring yX2_bestSpring ∈ wsL_law := List.mem_of_getElem? (i := 543) (by decide +kernel)
theorem kw544 : Cond.code yX2_bestSpring cX2_bestSpring 6 (some .int) ∈ wsL_law := List.mem_of_getElem? (i := 544) (by decide +kernel)
theorem kw545 : Cond.methodLink RL 147 yX3_bestSpring ∈ wsL_law := List.mem_of_getElem? (i := 545) (by decide +kernel)
theorem kw546 : Cond.instanceMethod yX3_bestSpring ∈ wsL_law := List.mem_of_getElem? (i := 546) (by decide +kernel)
theorem kw547 : Cond.selects RX3 yX3_bestSpring yX3_bestSpring ∈ wsL_law := List.mem_of_getElem? (i := 547) (by decide +kernel)
theorem kw548 : Cond.code yX3_bestSpring cX3_bestSpring 3 (some .int) ∈ wsL_law := List.mem_of_getElem? (i := 548) (by decide +kernel)
theorem kw549 : Cond.methodLink RL 148 yL_ifShot ∈ wsL_law := List.mem_of_getElem? (i := 549) (by decide +kernel)
theorem kw550 : Cond.static yL_ifShot ∈ wsL_law := List.mem_of_getElem? (i := 550) (by decide +kernel)
theorem kw551 : Cond.codeWith yL_ifShot cL_ifShot 6 (some .int) [(0, 12, 15, 13), (0, 12, 19, 15)] ∈ wsL_law := List.mem_of_getElem? (i := 551) (by decide +kernel)
theorem kw552 : Cond.methodLink RL 68 yX2_ifShot ∈ wsL_law := List.mem_of_getElem? (i := 552) (by decide +kernel)
theorem kw553 : Cond.instanceMethod yX2_ifShot ∈ wsL_law := List.mem_of_getElem? (i := 553) (by decide +kernel)
theorem kw554 : Cond.selects RX2 yX2_ifShot yX2_ifShot ∈ wsL_law := List.mem_of_getElem? (i := 554) (by decide +kernel)
theorem kw555 : Cond.code yX2_ifShot cX2_ifShot 4 (some .int) ∈ wsL_law := List.mem_of_getElem? (i := 555) (by decide +kernel)
theorem kw556 : Cond.methodLink RL 150 yX3_ifShot ∈ wsL_law := List.mem_of_getElem? (i := 556) (by decide +kernel)
theorem kw557 : Cond.instanceMethod yX3_ifShot ∈ wsL_law := List.mem_of_getElem? (i := 557) (by decide +kernel)
theorem kw558 : Cond.selects RX3 yX3_ifShot yX3_ifShot ∈ wsL_law := List.mem_of_getElem? (i := 558) (by decide +kernel)
theorem kw559 : Cond.code yX3_ifShot cX3_ifShot 4 (some .int) ∈ wsL_law := List.mem_of_getElem? (i := 559) (by decide +kernel)
theorem kw560 : Cond.methodLink RX3 155 yX3_byShooting ∈ wsL_law := List.mem_of_getElem? (i := 560) (by decide +kernel)
theorem kw561 : Cond.instanceMethod yX3_byShooting ∈ wsL_law := List.mem_of_getElem? (i := 561) (by decide +kernel)
theorem kw562 : Cond.selects RX3 yX3_byShooting yX3_byShooting ∈ wsL_law := List.mem_of_getElem? (i := 562) (by decide +kernel)
theorem kw563 : Cond.code yX3_byShooting cX3_byShooting 4 (some .int) ∈ wsL_law := List.mem_of_getElem? (i := 563) (by decide +kernel)
theorem kw564 : Cond.methodLink RL 151 yL_goodFor ∈ wsL_law := List.mem_of_getElem? (i := 564) (by decide +kernel)
theorem kw565 : Cond.static yL_goodFor ∈ wsL_law := List.mem_of_getElem? (i := 565) (by decide +kernel)
theorem kw566 : Cond.codeWith yL_goodFor cL_goodFor 5 (some .int) [(0, 10, 13, 13), (0, 10, 17, 15)] ∈ wsL_law := List.mem_of_getElem? (i := 566) (by decide +kernel)
theorem kw567 : Cond.methodLink RL 71 yX2_goodFor ∈ wsL_law := List.mem_of_getElem? (i := 567) (by decide +kernel)
theorem kw568 : Cond.instanceMethod yX2_goodFor ∈ wsL_law := List.mem_of_getElem? (i := 568) (by decide +kernel)
theorem kw569 : Cond.selects RX2 yX2_goodFor yX2_goodFor ∈ wsL_law := List.mem_of_getElem? (i := 569) (by decide +kernel)
theorem kw570 : Cond.code yX2_goodFor cX2_goodFor 4 (some .int) ∈ wsL_law := List.mem_of_getElem? (i := 570) (by decide +kernel)
theorem kw571 : Cond.methodLink RL 153 yX3_goodFor ∈ wsL_law := List.mem_of_getElem? (i := 571) (by decide +kernel)
theorem kw572 : Cond.instanceMethod yX3_goodFor ∈ wsL_law := List.mem_of_getElem? (i := 572) (by decide +kernel)
theorem kw573 : Cond.selects RX3 yX3_goodFor yX3_goodFor ∈ wsL_law := List.mem_of_getElem? (i := 573) (by decide +kernel)
theorem kw574 : Cond.code yX3_goodFor cX3_goodFor 3 (some .int) ∈ wsL_law := List.mem_of_getElem? (i := 574) (by decide +kernel)
theorem kw575 : Cond.methodLink RX3 158 yX3_good ∈ wsL_law := List.mem_of_getElem? (i := 575) (by decide +kernel)
theorem kw576 : Cond.instanceMethod yX3_good ∈ wsL_law := List.mem_of_getElem? (i := 576) (by decide +kernel)
theorem kw577 : Cond.selects RX3 yX3_good yX3_good ∈ wsL_law := List.mem_of_getElem? (i := 577) (by decide +kernel)
theorem kw578 : Cond.code yX3_good cX3_good 5 (some .int) ∈ wsL_law := List.mem_of_getElem? (i := 578) (by decide +kernel)
theorem kw579 : Cond.methodLink RL 154 yL_evenness ∈ wsL_law := List.mem_of_getElem? (i := 579) (by decide +kernel)
theorem kw580 : Cond.static yL_evenness ∈ wsL_law := List.mem_of_getElem? (i := 580) (by decide +kernel)
theorem kw581 : Cond.codeWith yL_evenness cL_evenness 4 (some .int) [(0, 8, 11, 13)] ∈ wsL_law := List.mem_of_getElem? (i := 581) (by decide +kernel)
theorem kw582 : Cond.methodLink RL 74 yX2_evenness ∈ wsL_law := List.mem_of_getElem? (i := 582) (by decide +kernel)
theorem kw583 : Cond.instanceMethod yX2_evenness ∈ wsL_law := List.mem_of_getElem? (i := 583) (by decide +kernel)
theorem kw584 : Cond.selects RX2 yX2_evenness yX2_evenness ∈ wsL_law := List.mem_of_getElem? (i := 584) (by decide +kernel)
theorem kw585 : Cond.code yX2_evenness cX2_evenness 2 (some .double) ∈ wsL_law := List.mem_of_getElem? (i := 585) (by decide +kernel)
theorem kw586 : Cond.fieldLink RX2 201 "ShutterBench$Exposure" "mostLight" "I" ∈ wsL_law := List.mem_of_getElem? (i := 586) (by decide +kernel)
theorem kw587 : Cond.fieldLink RX2 204 "ShutterBench$Exposure" "leastLight" "I" ∈ wsL_law := List.mem_of_getElem? (i := 587) (by decide +kernel)
theorem kw588 : Cond.methodLink RL 157 yX3_evenness ∈ wsL_law := List.mem_of_getElem? (i := 588) (by decide +kernel)
theorem kw589 : Cond.instanceMethod yX3_evenness ∈ wsL_law := List.mem_of_getElem? (i := 589) (by decide +kernel)
theorem kw590 : Cond.selects RX3 yX3_evenness yX3_evenness ∈ wsL_law := List.mem_of_getElem? (i := 590) (by decide +kernel)
theorem kw591 : Cond.code yX3_evenness cX3_evenness 2 (some .double) ∈ wsL_law := List.mem_of_getElem? (i := 591) (by decide +kernel)
theorem kw592 : Cond.methodLink RX3 161 yX3_share ∈ wsL_law := List.mem_of_getElem? (i := 592) (by decide +kernel)
theorem kw593 : Cond.instanceMethod yX3_share ∈ wsL_law := List.mem_of_getElem? (i := 593) (by decide +kernel)
theorem kw594 : Cond.selects RX3 yX3_share yX3_share ∈ wsL_law := List.mem_of_getElem? (i := 594) (by decide +kernel)
theorem kw595 : Cond.code yX3_share cX3_share 3 (some .double) ∈ wsL_law := List.mem_of_getElem? (i := 595) (by decide +kernel)
theorem kw596 : Cond.methodLink RL 158 yX2_digest ∈ wsL_law := List.mem_of_getElem? (i := 596) (by decide +kernel)
theorem kw597 : Cond.instanceMethod yX2_digest ∈ wsL_law := List.mem_of_getElem? (i := 597) (by decide +kernel)
theorem kw598 : Cond.selects RX2 yX2_digest yX2_digest ∈ wsL_law := List.mem_of_getElem? (i := 598) (by decide +kernel)
theorem kw599 : Cond.code yX2_digest cX2_digest 4 (some .long) ∈ wsL_law := List.mem_of_getElem? (i := 599) (by decide +kernel)
theorem kw600 : Cond.constantLong RX2 207 (3191) ∈ wsL_law := List.mem_of_getElem? (i := 600) (by decide +kernel)
theorem kw601 : Cond.methodLink RX2 209 yX2_count ∈ wsL_law := List.mem_of_getElem? (i := 601) (by decide +kernel)
theorem kw602 : Cond.methodLink RX2 212 yX2_mix ∈ wsL_law := List.mem_of_getElem? (i := 602) (by decide +kernel)
theorem kw603 : Cond.static yX2_mix ∈ wsL_law := List.mem_of_getElem? (i := 603) (by decide +kernel)
theorem kw604 : Cond.code yX2_mix cX2_mix 4 (some .long) ∈ wsL_law := List.mem_of_getElem? (i := 604) (by decide +kernel)
theorem kw605 : Cond.constantLong RX2 260 (31) ∈ wsL_law := List.mem_of_getElem? (i := 605) (by decide +kernel)
theorem kw606 : Cond.methodLink RX2 216 yX2_setting ∈ wsL_law := List.mem_of_getElem? (i := 606) (by decide +kernel)
theorem kw607 : Cond.methodLink RX2 219 yX2_mixCurtains ∈ wsL_law := List.mem_of_getElem? (i := 607) (by decide +kernel)
theorem kw608 : Cond.instanceMethod yX2_mixCurtains ∈ wsL_law := List.mem_of_getElem? (i := 608) (by decide +kernel)
theorem kw609 : Cond.selects RX2 yX2_mixCurtains yX2_mixCurtains ∈ wsL_law := List.mem_of_getElem? (i := 609) (by decide +kernel)
theorem kw610 : Cond.code yX2_mixCurtains cX2_mixCurtains 7 (some .long) ∈ wsL_law := List.mem_of_getElem? (i := 610) (by decide +kernel)
theorem kw611 : Cond.methodLink RX2 251 yX2_curtain ∈ wsL_law := List.mem_of_getElem? (i := 611) (by decide +kernel)
theorem kw612 : Cond.methodLink RX2 223 yX2_mixSpeeds ∈ wsL_law := List.mem_of_getElem? (i := 612) (by decide +kernel)
theorem kw613 : Cond.instanceMethod yX2_mixSpeeds ∈ wsL_law := List.mem_of_getElem? (i := 613) (by decide +kernel)
theorem kw614 : Cond.selects RX2 yX2_mixSpeeds yX2_mixSpeeds ∈ wsL_law := List.mem_of_getElem? (i := 614) (by decide +kernel)
theorem kw615 : Cond.code yX2_mixSpeeds cX2_mixSpeeds 7 (some .long) ∈ wsL_law := List.mem_of_getElem? (i := 615) (by decide +kernel)
theorem kw616 : Cond.methodLink RX2 254 yX2_speed ∈ wsL_law := List.mem_of_getElem? (i := 616) (by decide +kernel)
theorem kw617 : Cond.methodLink RX2 226 yX2_mixColumn ∈ wsL_law := List.mem_of_getElem? (i := 617) (by decide +kernel)
theorem kw618 : Cond.instanceMethod yX2_mixColumn ∈ wsL_law := List.mem_of_getElem? (i := 618) (by decide +kernel)
theorem kw619 : Cond.selects RX2 yX2_mixColumn yX2_mixColumn ∈ wsL_law := List.mem_of_getElem? (i := 619) (by decide +kernel)
theorem kw620 : Cond.code yX2_mixColumn cX2_mixColumn 7 (some .long) ∈ wsL_law := List.mem_of_getElem? (i := 620) (by decide +kernel)
theorem kw621 : Cond.methodLink RX2 257 yX2_column ∈ wsL_law := List.mem_of_getElem? (i := 621) (by decide +kernel)
theorem kw622 : Cond.methodLink RX2 230 yX2_bestCorrection ∈ wsL_law := List.mem_of_getElem? (i := 622) (by decide +kernel)
theorem kw623 : Cond.methodLink RX2 233 yX2_bestSpring ∈ wsL_law := List.mem_of_getElem? (i := 623) (by decide +kernel)
theorem kw624 : Cond.methodLink RX2 236 yX2_ifShot ∈ wsL_law := List.mem_of_getElem? (i := 624) (by decide +kernel)
theorem kw625 : Cond.methodLink RX2 240 yX2_goodFor ∈ wsL_law := List.mem_of_getElem? (i := 625) (by decide +kernel)
theorem kw626 : Cond.methodLink RX2 243 yX2_evenness ∈ wsL_law := List.mem_of_getElem? (i := 626) (by decide +kernel)
theorem kw627 : Cond.methodLink RX2 247 yX2_bitsOfShare ∈ wsL_law := List.mem_of_getElem? (i := 627) (by decide +kernel)
theorem kw628 : Cond.static yX2_bitsOfShare ∈ wsL_law := List.mem_of_getElem? (i := 628) (by decide +kernel)
theorem kw629 : Cond.code yX2_bitsOfShare cX2_bitsOfShare 7 (some .long) ∈ wsL_law := List.mem_of_getElem? (i := 629) (by decide +kernel)
theorem kw630 : Cond.constantLong RX2 262 (1023) ∈ wsL_law := List.mem_of_getElem? (i := 630) (by decide +kernel)
theorem kw631 : Cond.constantDouble RX2 264 (4611686018427387904) ∈ wsL_law := List.mem_of_getElem? (i := 631) (by decide +kernel)
theorem kw632 : Cond.constantDouble RX2 266 (4841369599423283200) ∈ wsL_law := List.mem_of_getElem? (i := 632) (by decide +kernel)
theorem kw633 : Cond.methodLink RL 162 yX3_digest ∈ wsL_law := List.mem_of_getElem? (i := 633) (by decide +kernel)
theorem kw634 : Cond.instanceMethod yX3_digest ∈ wsL_law := List.mem_of_getElem? (i := 634) (by decide +kernel)
theorem kw635 : Cond.selects RX3 yX3_digest yX3_digest ∈ wsL_law := List.mem_of_getElem? (i := 635) (by decide +kernel)
theorem kw636 : Cond.code yX3_digest cX3_digest 5 (some .long) ∈ wsL_law := List.mem_of_getElem? (i := 636) (by decide +kernel)
theorem kw637 : Cond.constantLong RX3 165 (3191) ∈ wsL_law := List.mem_of_getElem? (i := 637) (by decide +kernel)
theorem kw638 : Cond.constantLong RX3 167 (31) ∈ wsL_law := List.mem_of_getElem? (i := 638) (by decide +kernel)
theorem kw639 : Cond.constantLong RX3 169 (100) ∈ wsL_law := List.mem_of_getElem? (i := 639) (by decide +kernel)
theorem kw640 : Cond.methodLink RX3 171 yJxe99ae_doubleToLongBits_ccdee ∈ wsL_law := List.mem_of_getElem? (i := 640) (by decide +kernel)
theorem kw641 : Cond.static yJxe99ae_doubleToLongBits_ccdee ∈ wsL_law := List.mem_of_getElem? (i := 641) (by decide +kernel)
theorem kw642 : Cond.initialized RJxe99ae ∈ wsL_law := List.mem_of_getElem? (i := 642) (by decide +kernel)
theorem kw643 : Cond.code yJxe99ae_doubleToLongBits_ccdee cJxe99ae_doubleToLongBits_ccdee 2 (some .long) ∈ wsL_law := List.mem_of_getElem? (i := 643) (by decide +kernel)
theorem kw644 : Cond.methodLink RJxe99ae 134 ⟨"java/lang/Double", "doubleToRawLongBits", "(D)J"⟩ ∈ wsL_law := List.mem_of_getElem? (i := 644) (by decide +kernel)
theorem kw645 : Cond.native ⟨"java/lang/Double", "doubleToRawLongBits", "(D)J"⟩ ∈ wsL_law := List.mem_of_getElem? (i := 645) (by decide +kernel)
theorem kw646 : Cond.static ⟨"java/lang/Double", "doubleToRawLongBits", "(D)J"⟩ ∈ wsL_law := List.mem_of_getElem? (i := 646) (by decide +kernel)
theorem kw647 : Cond.initialized "java/lang/Double" ∈ wsL_law := List.mem_of_getElem? (i := 647) (by decide +kernel)
theorem kw648 : Cond.constantLong RJxe99ae 137 (9221120237041090560) ∈ wsL_law := List.mem_of_getElem? (i := 648) (by decide +kernel)
theorem kw649 : Cond.methodLink RJxe99ae 122 yJxe99ae_isNaN_b9ae7 ∈ wsL_law := List.mem_of_getElem? (i := 649) (by decide +kernel)
theorem kw650 : Cond.static yJxe99ae_isNaN_b9ae7 ∈ wsL_law := List.mem_of_getElem? (i := 650) (by decide +kernel)
theorem kw651 : Cond.code yJxe99ae_isNaN_b9ae7 cJxe99ae_isNaN_b9ae7 2 (some .boolean) ∈ wsL_law := List.mem_of_getElem? (i := 651) (by decide +kernel)
end
section
/-! MY ROWS: one contract form for every method (its world a list of cells, its answer a pure value), and calls that put the callee's cells back in their places -/
abbrev TY (t : Nat → ClassId) : List (ClassId × FieldType) := [(t 0, .int), (t 1, .object RX1), (t 2, .long), (t 3, .double)]
/-- what the tables say beyond good words: links between nest mates, the texts of the exceptions -/
def xE (U : State) : Prop :=
  va_Nw (.methodLinkNest RX0 36 yX2_wantedLight RX2) U ∧ va_Nw (.methodLinkNest RX0 55 yX2_at RX2) U ∧ va_Nw (.methodLinkNest RX1 43 yX2_copyRow RX2) U ∧ va_Nw (.methodLinkNest RX1 47 yX2_at RX2) U ∧ va_Nw (.methodLinkNest RX1 59 yX2_wantedLight RX2) U ∧ va_Nw (.methodLinkNest RX1 71 yX2_put RX2) U
theorem xE.warm {s U : State} (hW : s.WarmedH U.vm) (h : xE s) : xE U :=
  ⟨va_Nw.warmM hW h.1, va_Nw.warmM hW h.2.1, va_Nw.warmM hW h.2.2.1, va_Nw.warmM hW h.2.2.2.1, va_Nw.warmM hW h.2.2.2.2.1, va_Nw.warmM hW h.2.2.2.2.2⟩
theorem xE.same {u U : State} (e : u.vm = U.vm) (h : xE u) : xE U :=
  ⟨va_Nw.same rfl e h.1, va_Nw.same rfl e h.2.1, va_Nw.same rfl e h.2.2.1, va_Nw.same rfl e h.2.2.2.1, va_Nw.same rfl e h.2.2.2.2.1, va_Nw.same rfl e h.2.2.2.2.2⟩
def sPc (D : va_G) (t : Nat → ClassId) (ws : va_W) (sz : Nat) (av : List Value) : Array Value → State → Prop := va_Pc av (fun U => U.heap.size = sz ∧ va_P D vwCl ws U.heap ∧ va_K D vwCl (TY t) U ∧ va_D (fun _ => True) ws ∧ xE U)
theorem sPc_blind {D : va_G} {t : Nat → ClassId} {ws : va_W} {sz : Nat} {av : List Value} : FrameBlind (sPc D t ws sz av) := by
  intro a U g mk h
  obtain ⟨h1, h2, h3, h4, h5, h6⟩ := h
  exact ⟨h1, h2, h3, va_K.moved (u := U) (U := U.calling g mk a) (Vm.Alike.refl U.vm) h4, h5, xE.same (u := U) (U := U.calling g mk a) rfl h6⟩
theorem sPc_S {D : va_G} {t : Nat → ClassId} {ws : va_W} {av : List Value} {s : State} {H : Heap} {A : Nat → Prop} (hP : va_P D vwCl ws H) (hK : va_K D vwCl (TY t) s) (hD : va_D A ws) (hE : xE s) : PreS s H (sPc D t ws H.size av) av :=
  ⟨sPc_blind, fun U hU hW => ⟨rfl, by rw [hU], by rw [hU]; exact hP, va_K.moved hW.alike hK, hD.weaken (fun _ _ _ _ => trivial), xE.warm hW hE⟩⟩
theorem sPc_V {D : va_G} {t : Nat → ClassId} {ws : va_W} {b : Nat} {av : List Value} {s : State} {H : Heap} {A : Nat → Prop} {C : String} (hP : va_P D vwCl ws H) (hK : va_K D vwCl (TY t) s) (hD : va_D A ws) (hE : xE s)
    (hr : ∃ cellB : Cell, H[b]? = some cellB ∧ cellB.vm.isStatics = false ∧ s.vm.findClass C = some cellB.cls) : PreV s H C b (sPc D t ws H.size (.ref b :: av)) av :=
  ⟨sPc_blind, hr, fun U hU hW => ⟨rfl, by rw [hU], by rw [hU]; exact hP, va_K.moved hW.alike hK, hD.weaken (fun _ _ _ _ => trivial), xE.warm hW hE⟩⟩
def sB (D : va_G) (t : Nat → ClassId) (ws : va_W) (A : Nat → Prop) : Unit → State → Prop := fun _ st => va_P D vwCl ws st.heap ∧ va_K D vwCl (TY t) st ∧ va_D A ws
abbrev qI (D : va_G) (t : Nat → ClassId) (ws : va_W) (v : Int32) (A : Nat → Prop) : Array Value → State → Outcome → State → Prop := va_Qi (fun r (_ : Unit) => r = v) (sB D t ws A) A
abbrev qJ (D : va_G) (t : Nat → ClassId) (ws : va_W) (v : Int64) (A : Nat → Prop) : Array Value → State → Outcome → State → Prop := va_Ql (fun r (_ : Unit) => r = v) (sB D t ws A) A
abbrev qD (D : va_G) (t : Nat → ClassId) (ws : va_W) (v : UInt64) (A : Nat → Prop) : Array Value → State → Outcome → State → Prop := va_Qd (fun r (_ : Unit) => r = v) (sB D t ws A) A
abbrev qV (D : va_G) (t : Nat → ClassId) (ws : va_W) (A : Nat → Prop) : Array Value → State → Outcome → State → Prop := va_Qv (fun (_ : Unit) => True) (sB D t ws A) A
abbrev qR (D : va_G) (t : Nat → ClassId) (ws : va_W) (v : Nat) (A : Nat → Prop) : Array Value → State → Outcome → State → Prop := va_Qr (fun (_ : Unit) => True) (fun u a st => a = v ∧ sB D t ws A u st) A
/-! the callee's cells back in their places -/
def va_set (ws : va_W) : List Nat → va_W → va_W
  | i :: is, c :: cs => va_set (ws.set i c) is cs
  | _, _ => ws
theorem va_set_get {k : Nat} {q : Nat × va_E} : ∀ (is : List Nat) (cs ws : va_W), is.length = cs.length → (va_set ws is cs)[k]? = some q → (∃ j : Nat, cs[j]? = some q) ∨ (ws[k]? = some q ∧ k ∉ is)
  | [], [], ws, _, h => Or.inr ⟨h, List.not_mem_nil⟩
  | i :: is, c :: cs, ws, hl, h => by
    rcases va_set_get is cs (ws.set i c) (by simpa using hl) h with ⟨j, hj⟩ | ⟨h1, h2⟩
    · exact Or.inl ⟨j + 1, by rw [List.getElem?_cons_succ]; exact hj⟩
    · by_cases e : i = k
      · subst e
        rw [List.getElem?_set] at h1
        rw [if_pos rfl] at h1
        split at h1
        · exact Or.inl ⟨0, by rw [List.getElem?_cons_zero]; exact h1⟩
        · cases h1
      · rw [List.getElem?_set, if_neg e] at h1
        exact Or.inr ⟨h1, fun hm => by
          rcases List.mem_cons.mp hm with z | z
          · exact e z.symm
          · exact h2 z⟩
  | [], _ :: _, _, hl, _ => by cases hl
  | _ :: _, [], _, hl, _ => by cases hl
theorem va_set_fst : ∀ (is : List Nat) (cs ws : va_W), is.map (fun i => (ws.map (·.1))[i]?) = (cs.map (·.1)).map some → (va_set ws is cs).map (·.1) = ws.map (·.1)
  | [], [], ws, _ => rfl
  | [], _ :: _, ws, h => by cases h
  | _ :: _, [], ws, _ => rfl
  | i :: is, c :: cs, ws, h => by
    rw [List.map_cons, List.map_cons, List.map_cons] at h
    injection h with h1 h2
    have e : (ws.set i c).map (·.1) = ws.map (·.1) := by
      rw [List.map_set]
      apply List.ext_getElem?
      intro j
      rw [List.getElem?_set]
      split
      · next e => subst e; split
                  · exact h1.symm
                  · next hn => rw [List.getElem?_eq_none (by omega)]
      · rfl
    show (va_set (ws.set i c) is cs).map (·.1) = _
    rw [va_set_fst is cs (ws.set i c) (by rw [e]; exact h2), e]
theorem va_D.fst {A : Nat → Prop} {ws ws' : va_W} (h : va_D A ws) (e : ws'.map (·.1) = ws.map (·.1)) : va_D A ws' := by
  have key : ∀ (k : Nat) (q : Nat × va_E), ws'[k]? = some q → ∃ q', ws[k]? = some q' ∧ q'.1 = q.1 := by
    intro k q hk
    have h1 : (ws'.map (·.1))[k]? = some q.1 := by rw [List.getElem?_map, hk]; rfl
    rw [e, List.getElem?_map] at h1
    cases hw : ws[k]? with
    | none => rw [hw] at h1; cases h1
    | some z => rw [hw] at h1; exact ⟨z, rfl, Option.some.inj h1⟩
  refine ⟨fun i j p q hi hj hpq => ?_, fun k q hk => ?_⟩
  · obtain ⟨p', h1, h2⟩ := key i p hi
    obtain ⟨q', h3, h4⟩ := key j q hj
    exact h.1 i j p' q' h1 h3 (by rw [h2, h4, hpq])
  · obtain ⟨q', h1, h2⟩ := key k q hk
    rw [← h2]
    exact h.2 k q' h1
theorem va_upd {D : va_G} {cl : List vw_C} {A : Nat → Prop} {ws ws' wc wc' : va_W} {H H1 : Heap} (is : List Nat) (hP : va_P D cl ws H) (hD : va_D A ws) (hC : is.map (fun i => ws[i]?) = wc.map some) (hw : va_set ws is wc' = ws') (hf : wc'.map (·.1) = wc.map (·.1))
    (hk : ∀ q : Nat, q < H.size → ¬ va_A wc H.size q → H1[q]? = H[q]?) (hP1 : va_P D cl wc' H1) : va_P D cl ws' H1 ∧ va_D A ws' := by
  subst hw
  have hl : is.length = wc'.length := by
    have a := congrArg List.length hC
    have b := congrArg List.length hf
    simp only [List.length_map] at a b
    omega
  refine ⟨fun k q hq => ?_, hD.fst (va_set_fst is wc' ws ?_)⟩
  · rcases va_set_get is wc' ws hl hq with ⟨j, hj⟩ | ⟨h1, h2⟩
    · exact hP1 j q hj
    · have hlt := (hP k q h1).lt
      refine (hP k q h1).kept (hk q.1 hlt (fun hA => ?_))
      rcases hA with ⟨k2, e, h⟩ | h
      · have h3 : (is.map (fun i => ws[i]?))[k2]? = some (some (q.1, e)) := by rw [hC, List.getElem?_map, h]; rfl
        rw [List.getElem?_map] at h3
        cases hi : is[k2]? with
        | none => rw [hi] at h3; cases h3
        | some i =>
          rw [hi] at h3
          have h4 : ws[i]? = some (q.1, e) := Option.some.inj h3
          have := hD.1 k i q (q.1, e) h1 h4 rfl
          subst this
          exact h2 (List.mem_of_getElem? hi)
      · omega
  · rw [hf]
    have h5 := congrArg (List.map (Option.map (fun (z : Nat × va_E) => z.1))) hC
    rw [List.map_map, List.map_map] at h5
    rw [List.map_map]
    refine Eq.trans ?_ (h5.trans ?_)
    · apply List.map_congr_left
      intro i _
      simp
    · rfl
/-! a callee's part of the caller's world: by places, or by whole blocks -/
def Cut (D : va_G) (A : Nat → Prop) (ws wc wc' ws' : va_W) (H : Heap) : Prop :=
  va_P D vwCl wc H ∧ va_D A wc ∧ (∀ q, va_A wc H.size q → A q) ∧ ∀ H1 : Heap, (∀ q : Nat, q < H.size → ¬ va_A wc H.size q → H1[q]? = H[q]?) → va_P D vwCl wc' H1 → va_P D vwCl ws' H1 ∧ va_D A ws'
theorem va_P.pick0 {D : va_G} {H : Heap} {ws wc : va_W} (is : List Nat) (hP : va_P D vwCl ws H) (hC : is.map (fun i => ws[i]?) = wc.map some) : va_P D vwCl wc H := fun k q hq => by
  have h1 : (is.map (fun i => ws[i]?))[k]? = some (some q) := by rw [hC, List.getElem?_map, hq]; rfl
  rw [List.getElem?_map] at h1
  cases hi : is[k]? with
  | none => rw [hi] at h1; cases h1
  | some i => rw [hi] at h1; exact hP i q (Option.some.inj h1)
theorem cutI {D : va_G} {A : Nat → Prop} {ws wc wc' ws' : va_W} {H H0 : Heap} {locs : List Loc} (is : List Nat) (hP : va_P D vwCl ws H) (hD : va_D A ws) (hS : va_S A H0 H locs) (hA : ∀ q, H0.size ≤ q → A q) (hn : va_nd is = true) (hC : is.map (fun i => ws[i]?) = wc.map some) (hw : va_set ws is wc' = ws') (hf : wc'.map (·.1) = wc.map (·.1)) : Cut D A ws wc wc' ws' H :=
  ⟨hP.pick0 is hC, hD.sub is hn hC, va_free hD hS hA is hC, fun _ hk hP1 => va_upd is hP hD hC hw hf hk hP1⟩
def flat : List va_W → va_W
  | [] => []
  | b :: r => match r with
    | [] => b
    | _ :: _ => b ++ flat r
theorem flat_cons (b : va_W) (r : List va_W) : ∀ k : Nat, (flat (b :: r))[k]? = (b ++ flat r)[k]? := by
  intro k
  cases r with
  | nil => show b[k]? = (b ++ [])[k]?; rw [List.append_nil]
  | cons c r => rfl
def boff (bs : List va_W) (i : Nat) : Nat := ((bs.take i).map List.length).sum
theorem flat_at : ∀ (bs : List va_W) (k : Nat) (q : Nat × va_E), (flat bs)[k]? = some q → ∃ (i a : Nat) (b : va_W), bs[i]? = some b ∧ b[a]? = some q ∧ k = boff bs i + a
  | [], k, q, h => by simp [flat] at h
  | b :: r, k, q, h => by
    rw [flat_cons] at h
    by_cases hl : k < b.length
    · rw [List.getElem?_append_left hl] at h
      exact ⟨0, k, b, rfl, h, by simp [boff]⟩
    · rw [List.getElem?_append_right (by omega)] at h
      obtain ⟨i, a, c, h1, h2, h3⟩ := flat_at r _ q h
      refine ⟨i + 1, a, c, by rw [List.getElem?_cons_succ]; exact h1, h2, ?_⟩
      simp only [boff, List.take_succ_cons, List.map_cons, List.sum_cons] at h3 ⊢
      omega
theorem flat_to : ∀ (bs : List va_W) (i a : Nat) (b : va_W) (q : Nat × va_E), bs[i]? = some b → b[a]? = some q → (flat bs)[boff bs i + a]? = some q
  | [], i, a, b, q, h, _ => by simp at h
  | c :: r, 0, a, b, q, h, h2 => by
    rw [List.getElem?_cons_zero] at h
    cases h
    rw [flat_cons]
    have hl : a < c.length := (List.getElem?_eq_some_iff.mp h2).1
    simp only [boff, List.take_zero, List.map_nil, List.sum_nil, Nat.zero_add]
    rw [List.getElem?_append_left hl]
    exact h2
  | c :: r, i + 1, a, b, q, h, h2 => by
    rw [List.getElem?_cons_succ] at h
    have := flat_to r i a b q h h2
    rw [flat_cons, List.getElem?_append_right (by simp only [boff, List.take_succ_cons, List.map_cons, List.sum_cons]; omega)]
    simp only [boff, List.take_succ_cons, List.map_cons, List.sum_cons]
    rw [show c.length + ((r.take i).map List.length).sum + a - c.length = boff r i + a by simp only [boff]; omega]
    exact this
theorem boff_lt : ∀ (bs : List va_W) (i j : Nat) (b : va_W), bs[i]? = some b → i < j → boff bs i + b.length ≤ boff bs j
  | [], i, j, b, h, _ => by simp at h
  | c :: r, 0, j + 1, b, h, _ => by
    rw [List.getElem?_cons_zero] at h
    cases h
    simp [boff]
  | c :: r, i + 1, j + 1, b, h, hl => by
    rw [List.getElem?_cons_succ] at h
    have := boff_lt r i j b h (by omega)
    simp only [boff, List.take_succ_cons, List.map_cons, List.sum_cons] at this ⊢
    omega
  | _, _, 0, _, _, hl => by omega
/-- where two cells of blocks have one address, they are one -/
theorem flat_inj {A : Nat → Prop} {bs : List va_W} (hD : va_D A (flat bs)) {i j a b : Nat} {x y : va_W} {p q : Nat × va_E} (hi : bs[i]? = some x) (ha : x[a]? = some p) (hj : bs[j]? = some y) (hb : y[b]? = some q) (e : p.1 = q.1) : i = j ∧ a = b := by
  have h := hD.1 _ _ p q (flat_to bs i a x p hi ha) (flat_to bs j b y q hj hb) e
  have la : a < x.length := (List.getElem?_eq_some_iff.mp ha).1
  have lb : b < y.length := (List.getElem?_eq_some_iff.mp hb).1
  have hij : i = j := by
    rcases Nat.lt_trichotomy i j with z | z | z
    · have := boff_lt bs i j x hi z; omega
    · exact z
    · have := boff_lt bs j i y hj z; omega
  subst hij
  exact ⟨rfl, by omega⟩
def setL (bs : List va_W) : List Nat → List va_W → List va_W
  | i :: is, c :: cs => setL (bs.set i c) is cs
  | _, _ => bs
theorem setL_get {k : Nat} {q : va_W} : ∀ (is : List Nat) (cs bs : List va_W), is.length = cs.length → (setL bs is cs)[k]? = some q → (∃ j : Nat, cs[j]? = some q) ∨ (bs[k]? = some q ∧ k ∉ is)
  | [], [], bs, _, h => Or.inr ⟨h, List.not_mem_nil⟩
  | i :: is, c :: cs, bs, hl, h => by
    rcases setL_get is cs (bs.set i c) (by simpa using hl) h with ⟨j, hj⟩ | ⟨h1, h2⟩
    · exact Or.inl ⟨j + 1, by rw [List.getElem?_cons_succ]; exact hj⟩
    · by_cases e : i = k
      · subst e
        rw [List.getElem?_set] at h1
        rw [if_pos rfl] at h1
        split at h1
        · exact Or.inl ⟨0, by rw [List.getElem?_cons_zero]; exact h1⟩
        · cases h1
      · rw [List.getElem?_set, if_neg e] at h1
        exact Or.inr ⟨h1, fun hm => by
          rcases List.mem_cons.mp hm with z | z
          · exact e z.symm
          · exact h2 z⟩
  | [], _ :: _, _, hl, _ => by cases hl
  | _ :: _, [], _, hl, _ => by cases hl
abbrev fsts (b : va_W) : List Nat := b.map (·.1)
theorem setL_fst : ∀ (is : List Nat) (cs bs : List va_W), is.map (fun i => (bs.map fsts)[i]?) = (cs.map fsts).map some → (setL bs is cs).map fsts = bs.map fsts
  | [], [], bs, _ => rfl
  | [], _ :: _, bs, h => by cases h
  | _ :: _, [], bs, _ => rfl
  | i :: is, c :: cs, bs, h => by
    rw [List.map_cons, List.map_cons, List.map_cons] at h
    injection h with h1 h2
    have e : (bs.set i c).map fsts = bs.map fsts := by
      rw [List.map_set]
      apply List.ext_getElem?
      intro j
      rw [List.getElem?_set]
      split
      · next e => subst e; split
                  · exact h1.symm
                  · next hn => rw [List.getElem?_eq_none (by omega)]
      · rfl
    show (setL (bs.set i c) is cs).map fsts = _
    rw [setL_fst is cs (bs.set i c) (by rw [e]; exact h2), e]
theorem flat_fst : ∀ (bs cs : List va_W), bs.map fsts = cs.map fsts → (flat bs).map (·.1) = (flat cs).map (·.1)
  | [], [], _ => rfl
  | [], _ :: _, h => by cases h
  | _ :: _, [], h => by cases h
  | b :: r, c :: s, h => by
    rw [List.map_cons, List.map_cons] at h
    injection h with h1 h2
    have ih := flat_fst r s h2
    have e : ∀ (b : va_W) (r : List va_W), (flat (b :: r)).map (·.1) = b.map (·.1) ++ (flat r).map (·.1) := by
      intro b r
      cases r with
      | nil => show b.map (·.1) = b.map (·.1) ++ []; rw [List.append_nil]
      | cons c r => show (b ++ flat (c :: r)).map (·.1) = _; rw [List.map_append]
    rw [e, e, ih]
    exact congrArg (· ++ _) h1
theorem cutB {D : va_G} {A : Nat → Prop} {bs cs cs' bs' : List va_W} {H H0 : Heap} {locs : List Loc} (is : List Nat) (hP : va_P D vwCl (flat bs) H) (hD : va_D A (flat bs)) (hS : va_S A H0 H locs) (hA : ∀ q, H0.size ≤ q → A q) (hn : va_nd is = true) (hC : is.map (fun i => bs[i]?) = cs.map some) (hw : setL bs is cs' = bs') (hf : cs'.map fsts = cs.map fsts) : Cut D A (flat bs) (flat cs) (flat cs') (flat bs') H := by
  have back : ∀ (i : Nat) (c : va_W), cs[i]? = some c → ∃ k, is[i]? = some k ∧ bs[k]? = some c := by
    intro i c hc
    have h1 : (is.map (fun i => bs[i]?))[i]? = some (some c) := by rw [hC, List.getElem?_map, hc]; rfl
    rw [List.getElem?_map] at h1
    cases hi : is[i]? with
    | none => rw [hi] at h1; cases h1
    | some k => rw [hi] at h1; exact ⟨k, rfl, Option.some.inj h1⟩
  have inb : ∀ (k : Nat) (q : Nat × va_E), (flat cs)[k]? = some q → ∃ j : Nat, (flat bs)[j]? = some q := by
    intro k q hk
    obtain ⟨i, a, c, h1, h2, -⟩ := flat_at cs k q hk
    obtain ⟨z, -, h4⟩ := back i c h1
    exact ⟨_, flat_to bs z a c q h4 h2⟩
  have hl : is.length = cs'.length := by
    have a := congrArg List.length hC
    have b := congrArg List.length hf
    simp only [List.length_map] at a b
    omega
  refine ⟨fun k q hk => ?_, ⟨fun k j p q hk hj e => ?_, fun k q hk => ?_⟩, fun q h => ?_, fun H1 hk hP1 => ?_⟩
  · obtain ⟨j, hj⟩ := inb k q hk
    exact hP j q hj
  · obtain ⟨i1, a1, c1, h1, h2, rfl⟩ := flat_at cs k p hk
    obtain ⟨i2, a2, c2, h3, h4, rfl⟩ := flat_at cs j q hj
    obtain ⟨z1, g1, g2⟩ := back i1 c1 h1
    obtain ⟨z2, g3, g4⟩ := back i2 c2 h3
    obtain ⟨e1, e2⟩ := flat_inj hD g2 h2 g4 h4 e
    subst e1
    rw [va_nd_inj is hn i1 i2 z1 g1 g3, e2]
  · obtain ⟨j, hj⟩ := inb k q hk
    exact hD.2 j q hj
  · rcases h with ⟨k, e, h⟩ | h
    · obtain ⟨j, hj⟩ := inb k _ h
      exact hD.2 j (q, e) hj
    · exact hA q (Nat.le_trans hS.1 h)
  · subst hw
    have hfs : (flat (setL bs is cs')).map (·.1) = (flat bs).map (·.1) := by
      refine flat_fst _ _ (setL_fst is cs' bs ?_)
      rw [hf]
      have h5 := congrArg (List.map (Option.map fsts)) hC
      rw [List.map_map, List.map_map] at h5
      rw [List.map_map]
      refine Eq.trans ?_ (h5.trans ?_)
      · apply List.map_congr_left
        intro i _
        simp
      · rfl
    refine ⟨fun k q hq => ?_, hD.fst hfs⟩
    obtain ⟨i, a, b, h1, h2, -⟩ := flat_at _ k q hq
    rcases setL_get is cs' bs hl h1 with ⟨j, hj⟩ | ⟨h3, h4⟩
    · exact hP1 _ q (flat_to cs' j a b q hj h2)
    · have h5 := flat_to bs i a b q h3 h2
      have hlt := (hP _ q h5).lt
      refine (hP _ q h5).kept (hk q.1 hlt (fun hA2 => ?_))
      rcases hA2 with ⟨k2, e, h⟩ | h
      · obtain ⟨i2, a2, c, g1, g2, -⟩ := flat_at cs k2 _ h
        obtain ⟨z, g3, g4⟩ := back i2 c g1
        obtain ⟨e1, -⟩ := flat_inj hD h3 h2 g4 g2 rfl
        subst e1
        exact h4 (List.mem_of_getElem? g3)
      · omega
section SR
variable {p : Program} {l : Launch} {e : Env} {R : Room} {s : State} {m : MethodId} {args : Array Value} {below : List Frame} {meth : Method} {c : Code} {H H0 : Heap} {locs : List Loc} {cells slots : Nat} {Q : State → Prop}
variable {D : va_G} {t : Nat → ClassId} {A : Nat → Prop} {ws ws' wc wc' : va_W} {pc : Nat} {ls : Array Slot} {st0 rest : List Value} {a : Array Value}
theorem va_P.pick {ws wc : va_W} (is : List Nat) (hP : va_P D vwCl ws H) (hC : is.map (fun i => ws[i]?) = wc.map some) : va_P D vwCl wc H := fun k q hq => by
  have h1 : (is.map (fun i => ws[i]?))[k]? = some (some q) := by rw [hC, List.getElem?_map, hq]; rfl
  rw [List.getElem?_map] at h1
  cases hi : is[k]? with
  | none => rw [hi] at h1; cases h1
  | some i => rw [hi] at h1; exact hP i q (Option.some.inj h1)
theorem call_i {v : Int32} (cut : Cut D A ws wc wc' ws' H) (hS : va_S A H0 H locs)
    (hr : va_P D vwCl wc H → va_D A wc → va_Run p l e R s m args below meth c H locs cells slots 0 0 (F0 m pc ls st0) rest (qI D t wc' v (va_A wc H.size) a) (va_A wc H.size))
    (kk : ∀ (H1 : Heap) (locs1 : List Loc), va_P D vwCl ws' H1 → va_D A ws' → va_S A H0 H1 locs1 → W p l e R s m args below meth c H1 locs1 cells slots Q (F0 m (pc + 3) ls (.int v :: rest))) : W p l e R s m args below meth c H locs cells slots Q (F0 m pc ls st0) := by
  obtain ⟨hPc, hDc, hfr, hup⟩ := cut
  refine va_calli (hr hPc hDc) hS (fun q _ h => hfr q h) hfr (fun r u tt H1 locs1 ht hvm hw' hB hz hk hS1 => ?_)
  obtain ⟨hP1, -, -⟩ := hB
  rw [ht] at hP1
  obtain ⟨a2, a3⟩ := hup H1 hk hP1
  rw [hw']
  exact kk H1 locs1 a2 a3 hS1
theorem call_j {v : Int64} (cut : Cut D A ws wc wc' ws' H) (hS : va_S A H0 H locs)
    (hr : va_P D vwCl wc H → va_D A wc → va_Run p l e R s m args below meth c H locs cells slots 0 0 (F0 m pc ls st0) rest (qJ D t wc' v (va_A wc H.size) a) (va_A wc H.size))
    (kk : ∀ (H1 : Heap) (locs1 : List Loc), va_P D vwCl ws' H1 → va_D A ws' → va_S A H0 H1 locs1 → W p l e R s m args below meth c H1 locs1 cells slots Q (F0 m (pc + 3) ls (.long v :: rest))) : W p l e R s m args below meth c H locs cells slots Q (F0 m pc ls st0) := by
  obtain ⟨hPc, hDc, hfr, hup⟩ := cut
  refine va_calll (hr hPc hDc) hS (fun q _ h => hfr q h) hfr (fun r u tt H1 locs1 ht hvm hw' hB hz hk hS1 => ?_)
  obtain ⟨hP1, -, -⟩ := hB
  rw [ht] at hP1
  obtain ⟨a2, a3⟩ := hup H1 hk hP1
  rw [hw']
  exact kk H1 locs1 a2 a3 hS1
theorem call_d {v : UInt64} (cut : Cut D A ws wc wc' ws' H) (hS : va_S A H0 H locs)
    (hr : va_P D vwCl wc H → va_D A wc → va_Run p l e R s m args below meth c H locs cells slots 0 0 (F0 m pc ls st0) rest (qD D t wc' v (va_A wc H.size) a) (va_A wc H.size))
    (kk : ∀ (H1 : Heap) (locs1 : List Loc), va_P D vwCl ws' H1 → va_D A ws' → va_S A H0 H1 locs1 → W p l e R s m args below meth c H1 locs1 cells slots Q (F0 m (pc + 3) ls (.double v :: rest))) : W p l e R s m args below meth c H locs cells slots Q (F0 m pc ls st0) := by
  obtain ⟨hPc, hDc, hfr, hup⟩ := cut
  refine va_calld (hr hPc hDc) hS (fun q _ h => hfr q h) hfr (fun r u tt H1 locs1 ht hvm hw' hB hz hk hS1 => ?_)
  obtain ⟨hP1, -, -⟩ := hB
  rw [ht] at hP1
  obtain ⟨a2, a3⟩ := hup H1 hk hP1
  rw [hw']
  exact kk H1 locs1 a2 a3 hS1
theorem call_v (cut : Cut D A ws wc wc' ws' H) (hS : va_S A H0 H locs)
    (hr : va_P D vwCl wc H → va_D A wc → va_Run p l e R s m args below meth c H locs cells slots 0 0 (F0 m pc ls st0) rest (qV D t wc' (va_A wc H.size) a) (va_A wc H.size))
    (kk : ∀ (H1 : Heap) (locs1 : List Loc), va_P D vwCl ws' H1 → va_D A ws' → va_S A H0 H1 locs1 → W p l e R s m args below meth c H1 locs1 cells slots Q (F0 m (pc + 3) ls (rest))) : W p l e R s m args below meth c H locs cells slots Q (F0 m pc ls st0) := by
  obtain ⟨hPc, hDc, hfr, hup⟩ := cut
  refine va_callv (hr hPc hDc) hS (fun q _ h => hfr q h) hfr (fun u tt H1 locs1 ht hvm hw' hB hz hk hS1 => ?_)
  obtain ⟨hP1, -, -⟩ := hB
  rw [ht] at hP1
  obtain ⟨a2, a3⟩ := hup H1 hk hP1
  exact kk H1 locs1 a2 a3 hS1
theorem call_r {v : Nat} (cut : Cut D A ws wc wc' ws' H) (hS : va_S A H0 H locs)
    (hr : va_P D vwCl wc H → va_D A wc → va_Run p l e R s m args below meth c H locs cells slots 0 0 (F0 m pc ls st0) rest (qR D t wc' v (va_A wc H.size) a) (va_A wc H.size))
    (kk : ∀ (H1 : Heap) (locs1 : List Loc), va_P D vwCl ws' H1 → va_D A ws' → va_S A H0 H1 locs1 → W p l e R s m args below meth c H1 locs1 cells slots Q (F0 m (pc + 3) ls (.ref v :: rest))) : W p l e R s m args below meth c H locs cells slots Q (F0 m pc ls st0) := by
  obtain ⟨hPc, hDc, hfr, hup⟩ := cut
  refine va_callr (hr hPc hDc) hS (fun q _ h => hfr q h) hfr (fun u a1 tt H1 locs1 ht hvm hw' hB hz hk hS1 => ?_)
  obtain ⟨rfl, hP1, -, -⟩ := hB
  rw [ht] at hP1
  obtain ⟨a2, a3⟩ := hup H1 hk hP1
  exact kk H1 locs1 a2 a3 hS1
theorem ret_i {cc : ByteArray} {v : Int32} (hx : p.tables.exec = Jvm.exec) (hb : c.code = cc) (hr : meth.sig.returnType = some .int) (hlocks : meth.locks = false) (hP : va_P D vwCl ws H) (hK : va_K D vwCl (TY t) s) (hD : va_D A ws) (hS : va_S A s.heap H locs) (hdg : decode cc pc = .ok (.ireturn, 1)) :
    W p l e R s m args below meth c H locs cells slots (MQ below (qI D t ws v A) args s cells slots A) (F0 m pc ls [.int v]) :=
  W.iret (v := v) hx hb hr (fun tt ht hW => ⟨⟨v, (), rfl, rfl, by rw [ht]; exact hP, va_K.moved hW.alike hK, hD⟩, hS.F ht⟩) hS.2.2 hdg hlocks
theorem ret_j {cc : ByteArray} {v : Int64} (hx : p.tables.exec = Jvm.exec) (hb : c.code = cc) (hr : meth.sig.returnType = some .long) (hlocks : meth.locks = false) (hP : va_P D vwCl ws H) (hK : va_K D vwCl (TY t) s) (hD : va_D A ws) (hS : va_S A s.heap H locs) (hdg : decode cc pc = .ok (.lreturn, 1)) :
    W p l e R s m args below meth c H locs cells slots (MQ below (qJ D t ws v A) args s cells slots A) (F0 m pc ls [.long v]) :=
  W.lret (v := v) hx hb hr (fun tt ht hW => ⟨⟨v, (), rfl, rfl, by rw [ht]; exact hP, va_K.moved hW.alike hK, hD⟩, hS.F ht⟩) hS.2.2 hdg hlocks
theorem ret_d {cc : ByteArray} {v : UInt64} (hx : p.tables.exec = Jvm.exec) (hb : c.code = cc) (hr : meth.sig.returnType = some .double) (hlocks : meth.locks = false) (hP : va_P D vwCl ws H) (hK : va_K D vwCl (TY t) s) (hD : va_D A ws) (hS : va_S A s.heap H locs) (hdg : decode cc pc = .ok (.dreturn, 1)) :
    W p l e R s m args below meth c H locs cells slots (MQ below (qD D t ws v A) args s cells slots A) (F0 m pc ls [.double v]) :=
  W.dret (v := v) hx hb hr (fun tt ht hW => ⟨⟨v, (), rfl, rfl, by rw [ht]; exact hP, va_K.moved hW.alike hK, hD⟩, hS.F ht⟩) hS.2.2 hdg hlocks
theorem ret_v {cc : ByteArray} (hx : p.tables.exec = Jvm.exec) (hb : c.code = cc) (hr : meth.sig.returnType = none) (hlocks : meth.locks = false) (hP : va_P D vwCl ws H) (hK : va_K D vwCl (TY t) s) (hD : va_D A ws) (hS : va_S A s.heap H locs) (hdg : decode cc pc = .ok (.return_, 1)) :
    W p l e R s m args below meth c H locs cells slots (MQ below (qV D t ws A) args s cells slots A) (F0 m pc ls []) :=
  W.vret hx hb hr (fun tt ht hW => ⟨⟨(), rfl, trivial, by rw [ht]; exact hP, va_K.moved hW.alike hK, hD⟩, hS.F ht⟩) hS.2.2 hdg hlocks
theorem ret_r {cc : ByteArray} {v v' : Nat} {rt : FieldType} (hv : v = v') (hx : p.tables.exec = Jvm.exec) (hb : c.code = cc) (hr : meth.sig.returnType = some rt) (hrt : (∃ n, rt = .object n) ∨ ∃ t, rt = .array t) (hlocks : meth.locks = false) (hP : va_P D vwCl ws H) (hK : va_K D vwCl (TY t) s) (hD : va_D A ws) (hS : va_S A s.heap H locs) (hdg : decode cc pc = .ok (.areturn, 1)) :
    W p l e R s m args below meth c H locs cells slots (MQ below (qR D t ws v' A) args s cells slots A) (F0 m pc ls [.ref v]) := by
  subst hv
  exact W.aret (v := .ref v) hx hb hr hrt (Or.inr ⟨v, rfl⟩) (fun tt ht hW => ⟨⟨(), v, rfl, trivial, rfl, by rw [ht]; exact hP, va_K.moved hW.alike hK, hD⟩, hS.F ht⟩) hS.2.2 hdg hlocks
def b2i (b : Bool) : Int32 := if b = true then 1 else 0
theorem b2i_nar (b : Bool) : narrow .boolean (.int (b2i b)) = .int (b2i b) := by cases b <;> rfl
theorem ret_z {cc : ByteArray} {b : Bool} (hx : p.tables.exec = Jvm.exec) (hb : c.code = cc) (hr : meth.sig.returnType = some .boolean) (hlocks : meth.locks = false) (hP : va_P D vwCl ws H) (hK : va_K D vwCl (TY t) s) (hD : va_D A ws) (hS : va_S A s.heap H locs) (hdg : decode cc pc = .ok (.ireturn, 1)) :
    W p l e R s m args below meth c H locs cells slots (MQ below (qI D t ws (b2i b) A) args s cells slots A) (F0 m pc ls [.int (b2i b)]) :=
  W.zret (v := b2i b) hx hb hr (b2i_nar b) (fun tt ht hW => ⟨⟨b2i b, (), rfl, rfl, by rw [ht]; exact hP, va_K.moved hW.alike hK, hD⟩, hS.F ht⟩) hS.2.2 hdg hlocks
end SR
theorem met_of {l : Launch} {y : MethodName} {ws ws' : List Cond} {rm : Room} {D : va_G} {t : Nat → ClassId} {ww : va_W} {sz mc ms : Nat} {av : List Value} {Qf : (Nat → Prop) → Array Value → State → Outcome → State → Prop} {cc : ByteArray} {maxL : Nat} {ret : Option FieldType}
    (hy : plainName y.cls = true) (hw : ws = Cond.code y cc maxL ret :: ws') (hn : (lg_sl av).length ≤ maxL)
    (body : ∀ (p : Program) (e : Env) (s : State) (m : MethodId) (args : Array Value) (below : List Frame) (meth : Method) (c : Code) (A : Nat → Prop), p.tables.exec = Jvm.exec → c.code = cc → meth.sig.returnType = ret → c.maxLocals = maxL → (∀ w ∈ ws, w.before args s = true) → s.vm.findClass y.cls = some m.cls → meth.locks = false →
      (∀ q, s.heap.size ≤ q → A q) → va_P D vwCl ww s.heap → va_K D vwCl (TY t) s → va_D A ww → xE s → va_S A s.heap s.heap [] → ∀ ls : Array Slot, lv_has ls maxL (lv_args 0 av) →
      W p l e rm s m args below meth c s.heap [] 0 0 (MQ below (Qf A) args s mc ms A) (F0 m 0 ls [])) : Met l y ws rm (sPc D t ww sz av) (Qf (va_A ww sz)) mc ms (va_A ww sz) := by
  refine Met.ofW (cc := cc) (maxL := maxL) (ret := ret) hy hw ?_
  intro p e s m args below meth c s₁ B hml hv
  obtain ⟨rfl, hsz, hP, hK, hD0, hE⟩ := hv
  subst hsz
  rw [lg_entry_eq]
  exact body p e s m _ below meth c (va_A ww s.heap.size) B.exec B.bytes B.returns hml (atoms_spec (ws := ws) B.pre) (findClass_of_methodNamed B.named) B.notSynchronized (fun q h => Or.inr h) hP hK hD0.self hE va_S.rf _ (lv_entry av hn)
/-! pure words -/
def gd {α : Type} (b : Bool) (x : Option α) : Option α := if b = true then x else none
theorem og {α : Type} {b : Bool} {x : Option α} {y : α} (h : gd b x = some y) : b = true ∧ x = some y := by
  unfold gd at h
  split at h
  · exact ⟨by assumption, h⟩
  · cases h
def pin (i : Int32) (n : Nat) : Bool := decide (¬ (i < 0 ∨ n ≤ i.toNatClampNeg))
theorem pin_in {i : Int32} {n : Nat} (h : pin i n = true) : vp_in i n := show ¬ (i < 0 ∨ n ≤ i.toNatClampNeg) from of_decide_eq_true h
def nz (y : Int32) : Bool := decide (¬ y = 0)
theorem nz_ne {y : Int32} (h : nz y = true) : ¬ y = 0 := of_decide_eq_true h
def nn64 (r : UInt64) : Bool := decide (r &&& 0x7fffffffffffffff ≤ 0x7ff0000000000000)
theorem nn_n64 {r : UInt64} (h : nn64 r = true) : vf_n64 r := show r &&& 0x7fffffffffffffff ≤ 0x7ff0000000000000 from of_decide_eq_true h
def lp {σ R : Type} (B : (σ → Option R) → σ → Option R) : Nat → σ → Option R
  | 0, _ => none
  | n + 1, v => B (lp B n) v
theorem ob {α β : Type} {o : Option α} {f : α → Option β} {y : β} (h : o.bind f = some y) : ∃ r, o = some r ∧ f r = some y := Option.bind_eq_some_iff.mp h
theorem os {α : Type} {a b : α} (h : some a = some b) : a = b := Option.some.inj h
theorem oi {α β : Type} {a b : β} (h : (some (Sum.inr a) : Option (α ⊕ β)) = some (Sum.inr b)) : a = b := Sum.inr.inj (Option.some.inj h)
theorem it_p {c : Prop} [Decidable c] {α : Type} {a b x : α} (hc : c) (h : (if c then a else b) = x) : a = x := by rwa [if_pos hc] at h
theorem it_n {c : Prop} [Decidable c] {α : Type} {a b x : α} (hc : ¬ c) (h : (if c then a else b) = x) : b = x := by rwa [if_neg hc] at h
def tb {α β : Type} (x : Option (Nat ⊕ α)) (K : α → Option (Nat ⊕ β)) : Option (Nat ⊕ β) := x.bind (fun z => match z with | .inl e => some (.inl e) | .inr u => K u)
def tq {α β : Type} (x : Option (Nat ⊕ α)) (K : α → Option β) : Option β := x.bind (fun z => match z with | .inl _ => none | .inr u => K u)
theorem tb_r {α β : Type} {x : Option (Nat ⊕ α)} {K : α → Option (Nat ⊕ β)} {y : β} (h : tb x K = some (.inr y)) : ∃ u, x = some (.inr u) ∧ K u = some (.inr y) := by
  obtain ⟨z, h1, h2⟩ := ob h
  cases z with
  | inl e => cases h2
  | inr u => exact ⟨u, h1, h2⟩
theorem tb_l {α β : Type} {x : Option (Nat ⊕ α)} {K : α → Option (Nat ⊕ β)} {e : Nat} (h : tb x K = some (.inl e)) : x = some (.inl e) ∨ ∃ u, x = some (.inr u) ∧ K u = some (.inl e) := by
  obtain ⟨z, h1, h2⟩ := ob h
  cases z with
  | inl e2 => cases h2; exact Or.inl h1
  | inr u => exact Or.inr ⟨u, h1, h2⟩
theorem tq_r {α β : Type} {x : Option (Nat ⊕ α)} {K : α → Option β} {y : β} (h : tq x K = some y) : ∃ u, x = some (.inr u) ∧ K u = some y := by
  obtain ⟨z, h1, h2⟩ := ob h
  cases z with
  | inl e => cases h2
  | inr u => exact ⟨u, h1, h2⟩
theorem lk_ne {x v : Int32} {k : Int} (hk : v.toInt = k) (h : ¬ x = v) : x.toInt ≠ k := fun q => h (Int32.toInt_inj.mp (q.trans hk.symm))
theorem tab_0_2 {x : Int32} (c0 : ¬ x = 0) (c1 : ¬ x = 1) (c2 : ¬ x = 2) : x.toInt < 0 ∨ 2 < x.toInt := by
  have e0 := lk_ne (k := 0) (by decide) c0
  have e1 := lk_ne (k := 1) (by decide) c1
  have e2 := lk_ne (k := 2) (by decide) c2
  omega
theorem tab_0_3 {x : Int32} (c0 : ¬ x = 0) (c1 : ¬ x = 1) (c2 : ¬ x = 2) (c3 : ¬ x = 3) : x.toInt < 0 ∨ 3 < x.toInt := by
  have e0 := lk_ne (k := 0) (by decide) c0
  have e1 := lk_ne (k := 1) (by decide) c1
  have e2 := lk_ne (k := 2) (by decide) c2
  have e3 := lk_ne (k := 3) (by decide) c3
  omega
theorem tab_0_4 {x : Int32} (c0 : ¬ x = 0) (c1 : ¬ x = 1) (c2 : ¬ x = 2) (c3 : ¬ x = 3) (c4 : ¬ x = 4) : x.toInt < 0 ∨ 4 < x.toInt := by
  have e0 := lk_ne (k := 0) (by decide) c0
  have e1 := lk_ne (k := 1) (by decide) c1
  have e2 := lk_ne (k := 2) (by decide) c2
  have e3 := lk_ne (k := 3) (by decide) c3
  have e4 := lk_ne (k := 4) (by decide) c4
  omega
theorem tab_0_7 {x : Int32} (c0 : ¬ x = 0) (c1 : ¬ x = 1) (c2 : ¬ x = 2) (c3 : ¬ x = 3) (c4 : ¬ x = 4) (c5 : ¬ x = 5) (c6 : ¬ x = 6) (c7 : ¬ x = 7) : x.toInt < 0 ∨ 7 < x.toInt := by
  have e0 := lk_ne (k := 0) (by decide) c0
  have e1 := lk_ne (k := 1) (by decide) c1
  have e2 := lk_ne (k := 2) (by decide) c2
  have e3 := lk_ne (k := 3) (by decide) c3
  have e4 := lk_ne (k := 4) (by decide) c4
  have e5 := lk_ne (k := 5) (by decide) c5
  have e6 := lk_ne (k := 6) (by decide) c6
  have e7 := lk_ne (k := 7) (by decide) c7
  omega
theorem tab_0_8 {x : Int32} (c0 : ¬ x = 0) (c1 : ¬ x = 1) (c2 : ¬ x = 2) (c3 : ¬ x = 3) (c4 : ¬ x = 4) (c5 : ¬ x = 5) (c6 : ¬ x = 6) (c7 : ¬ x = 7) (c8 : ¬ x = 8) : x.toInt < 0 ∨ 8 < x.toInt := by
  have e0 := lk_ne (k := 0) (by decide) c0
  have e1 := lk_ne (k := 1) (by decide) c1
  have e2 := lk_ne (k := 2) (by decide) c2
  have e3 := lk_ne (k := 3) (by decide) c3
  have e4 := lk_ne (k := 4) (by decide) c4
  have e5 := lk_ne (k := 5) (by decide) c5
  have e6 := lk_ne (k := 6) (by decide) c6
  have e7 := lk_ne (k := 7) (by decide) c7
  have e8 := lk_ne (k := 8) (by decide) c8
  omega
theorem tab_3_9 {x : Int32} (c3 : ¬ x = 3) (c4 : ¬ x = 4) (c5 : ¬ x = 5) (c6 : ¬ x = 6) (c7 : ¬ x = 7) (c8 : ¬ x = 8) (c9 : ¬ x = 9) : x.toInt < 3 ∨ 9 < x.toInt := by
  have e3 := lk_ne (k := 3) (by decide) c3
  have e4 := lk_ne (k := 4) (by decide) c4
  have e5 := lk_ne (k := 5) (by decide) c5
  have e6 := lk_ne (k := 6) (by decide) c6
  have e7 := lk_ne (k := 7) (by decide) c7
  have e8 := lk_ne (k := 8) (by decide) c8
  have e9 := lk_ne (k := 9) (by decide) c9
  omega
theorem tab_0_21 {x : Int32} (c0 : ¬ x = 0) (c1 : ¬ x = 1) (c2 : ¬ x = 2) (c3 : ¬ x = 3) (c4 : ¬ x = 4) (c5 : ¬ x = 5) (c6 : ¬ x = 6) (c7 : ¬ x = 7) (c8 : ¬ x = 8) (c9 : ¬ x = 9) (c10 : ¬ x = 10) (c11 : ¬ x = 11) (c12 : ¬ x = 12) (c13 : ¬ x = 13) (c14 : ¬ x = 14) (c15 : ¬ x = 15) (c16 : ¬ x = 16) (c17 : ¬ x = 17) (c18 : ¬ x = 18) (c19 : ¬ x = 19) (c20 : ¬ x = 20) (c21 : ¬ x = 21) : x.toInt < 0 ∨ 21 < x.toInt := by
  have e0 := lk_ne (k := 0) (by decide) c0
  have e1 := lk_ne (k := 1) (by decide) c1
  have e2 := lk_ne (k := 2) (by decide) c2
  have e3 := lk_ne (k := 3) (by decide) c3
  have e4 := lk_ne (k := 4) (by decide) c4
  have e5 := lk_ne (k := 5) (by decide) c5
  have e6 := lk_ne (k := 6) (by decide) c6
  have e7 := lk_ne (k := 7) (by decide) c7
  have e8 := lk_ne (k := 8) (by decide) c8
  have e9 := lk_ne (k := 9) (by decide) c9
  have e10 := lk_ne (k := 10) (by decide) c10
  have e11 := lk_ne (k := 11) (by decide) c11
  have e12 := lk_ne (k := 12) (by decide) c12
  have e13 := lk_ne (k := 13) (by decide) c13
  have e14 := lk_ne (k := 14) (by decide) c14
  have e15 := lk_ne (k := 15) (by decide) c15
  have e16 := lk_ne (k := 16) (by decide) c16
  have e17 := lk_ne (k := 17) (by decide) c17
  have e18 := lk_ne (k := 18) (by decide) c18
  have e19 := lk_ne (k := 19) (by decide) c19
  have e20 := lk_ne (k := 20) (by decide) c20
  have e21 := lk_ne (k := 21) (by decide) c21
  omega
theorem lk_out2 {z a b oa ob d : Int} (ha : z ≠ a) (hb : z ≠ b) : Op.lookupswitch.offset [(a, oa), (b, ob)] d z = d := by
  simp [Op.lookupswitch.offset, ha.symm, hb.symm]
abbrev iabs (x : Int32) : Int32 := if 0 ≤ x then x else 0 - x
abbrev imax (x y : Int32) : Int32 := if x < y then y else x
abbrev imin (x y : Int32) : Int32 := if y < x then y else x
/-! the pieces of a world -/
abbrev ShT : Type := (Nat → Int32) × (Nat → Int32) × (Nat → Int32) × (Nat → Int32) × (Nat → Int32) × (Nat → Int32) × (Nat → Int32) × Int32 × Int32 × Int32
abbrev ExT : Type := (Nat → Int32) × (Nat → Int32) × (Nat → Int32) × Int32 × Int32 × Int32 × Int32 × Int32 × Int32 × Int32
abbrev BoT : Type := Int32 × Int32 × Int32
abbrev MoT : Type := Int32 × Int32 × Int32 × Int32 × Int32 × Int32
abbrev gA (t : Nat → ClassId) (a n : Nat) (f : Nat → Int32) : va_W := [(a, .inl (t 0, n, .inl f))]
abbrev gJ (t : Nat → ClassId) (a : Nat) (f : Nat → Int64) : va_W := [(a, .inl (t 2, 1, .inr (.inl f)))]
abbrev gD (t : Nat → ClassId) (a : Nat) (f : Nat → UInt64) : va_W := [(a, .inl (t 3, 1, .inr (.inr (.inr (.inl f)))))]
abbrev gQ (t : Nat → ClassId) (a : Nat) (sa : Nat → Nat) : va_W := [(a, .inl (t 1, 6, .inr (.inr (.inr (.inr (fun i => some (sa i)))))))]
abbrev gBo (h : Nat) (k : Nat → Nat) (x : BoT) : va_W := [(h, .inr (2, [.ref (k 0), .ref (k 1), .ref (k 2), .ref (k 3), .int x.1, .int x.2.1, .ref (k 4), .int x.2.2]))]
abbrev gMo (h : Nat) (k : Nat → Nat) (x : MoT) : va_W := [(h, .inr (3, [.ref (k 0), .ref (k 1), .ref (k 2), .int x.1, .ref (k 3), .int x.2.1, .int x.2.2.1, .int x.2.2.2.1, .int x.2.2.2.2.1, .ref (k 4), .int x.2.2.2.2.2, .ref (k 5), .ref (k 6), .ref (k 7)]))]
abbrev gS (t : Nat → ClassId) (a : Nat) (b : Nat → Nat) (x : ShT) : va_W := [(a, .inr (1, [.ref (b 0), .ref (b 1), .ref (b 2), .ref (b 3), .ref (b 4), .ref (b 5), .ref (b 6), .int x.2.2.2.2.2.2.2.1, .int x.2.2.2.2.2.2.2.2.1, .int x.2.2.2.2.2.2.2.2.2])), (b 0, .inl (t 0, 2, .inl x.1)), (b 1, .inl (t 0, 2, .inl x.2.1)), (b 2, .inl (t 0, 24, .inl x.2.2.1)), (b 3, .inl (t 0, 24, .inl x.2.2.2.1)), (b 4, .inl (t 0, 6, .inl x.2.2.2.2.1)), (b 5, .inl (t 0, 4, .inl x.2.2.2.2.2.1)), (b 6, .inl (t 0, 6, .inl x.2.2.2.2.2.2.1))]
abbrev gE (t : Nat → ClassId) (a : Nat) (b : Nat → Nat) (x : ExT) : va_W := [(a, .inr (0, [.ref (b 0), .ref (b 1), .ref (b 2), .int x.2.2.2.1, .int x.2.2.2.2.1, .int x.2.2.2.2.2.1, .int x.2.2.2.2.2.2.1, .int x.2.2.2.2.2.2.2.1, .int x.2.2.2.2.2.2.2.2.1, .int x.2.2.2.2.2.2.2.2.2])), (b 0, .inl (t 0, 24, .inl x.1)), (b 1, .inl (t 0, 24, .inl x.2.1)), (b 2, .inl (t 0, 24, .inl x.2.2.1))]
abbrev g6 (t : Nat → ClassId) (sa : Nat → Nat) (sb : Nat → Nat → Nat) (sv : Nat → ShT) : va_W := gS t (sa 0) (sb 0) (sv 0) ++ (gS t (sa 1) (sb 1) (sv 1) ++ (gS t (sa 2) (sb 2) (sv 2) ++ (gS t (sa 3) (sb 3) (sv 3) ++ (gS t (sa 4) (sb 4) (sv 4) ++ gS t (sa 5) (sb 5) (sv 5)))))
/-! exceptions: what a throw stands on, and the contract of a method that throws -/
def xname : Nat → String
  | 0 => "java/lang/IndexOutOfBoundsException"
  | 1 => "java/lang/IllegalArgumentException"
  | _ => "java/lang/IllegalStateException"
abbrev xnames : List String := ["java/lang/RuntimeException", "java/lang/Exception"]
def xN (X : String) (U : State) : Prop := va_Nw (.declares (Bundle.initS "java/lang/RuntimeException")) U ∧ va_Nw (.declares (Bundle.initS "java/lang/Exception")) U ∧ va_Nw (.declares (Bundle.initS Bundle.tN)) U ∧ va_Nw (.castable X X) U
theorem xN.warm {X : String} {s U : State} (hW : s.WarmedH U.vm) (h : xN X s) : xN X U := ⟨va_Nw.warmD hW h.1, va_Nw.warmD hW h.2.1, va_Nw.warmD hW h.2.2.1, va_Nw.warmC hW h.2.2.2⟩
theorem xN.same {X : String} {u U : State} (e : u.vm = U.vm) (h : xN X u) : xN X U := ⟨va_Nw.same rfl e h.1, va_Nw.same rfl e h.2.1, va_Nw.same rfl e h.2.2.1, va_Nw.same rfl e h.2.2.2⟩
def xT (U : State) : Prop := (∃ sa, vk_R RX2 102 "the buffer is full" sa U) ∧ (∃ sa, vk_R RX2 117 "not complete shots as a text" sa U) ∧ (∃ sa, vk_R RX2 123 "no state is saved" sa U) ∧ (∃ sa, vk_R RX2 289 "no such curtain, column, speed or setting" sa U) ∧ (∃ sa, vk_R RX2 292 "a value is out of range" sa U)
theorem xT.warm {s U : State} (hW : s.WarmedH U.vm) (h : xT s) : xT U := by
  obtain ⟨⟨a, ha⟩, ⟨b, hb⟩, ⟨c, hc⟩, ⟨d, hd⟩, ⟨e, he⟩⟩ := h
  exact ⟨⟨a, vk_R.warm hW ha⟩, ⟨b, vk_R.warm hW hb⟩, ⟨c, vk_R.warm hW hc⟩, ⟨d, vk_R.warm hW hd⟩, ⟨e, vk_R.warm hW he⟩⟩
theorem xT.same {u U : State} (e : u.vm = U.vm) (h : xT u) : xT U := by
  obtain ⟨⟨a, ha⟩, ⟨b, hb⟩, ⟨c, hc⟩, ⟨d, hd⟩, ⟨f, he⟩⟩ := h
  exact ⟨⟨a, vk_R.same e.symm ha⟩, ⟨b, vk_R.same e.symm hb⟩, ⟨c, vk_R.same e.symm hc⟩, ⟨d, vk_R.same e.symm hd⟩, ⟨f, vk_R.same e.symm he⟩⟩
/-- what a throw stands on: the two statics of Throwable, outside A; the texts; words of the three classes -/
def xS (A : Nat → Prop) (U : State) (H : Heap) : Prop := (vx_Zq Bundle.tN "UNASSIGNED_STACK" Bundle.steD A U H ∧ vx_Zq Bundle.tN "SUPPRESSED_SENTINEL" Bundle.listD A U H) ∧ xT U ∧ xN (xname 0) U ∧ xN (xname 1) U ∧ xN (xname 2) U
theorem xS.to {A B : Nat → Prop} {s U : State} {H : Heap} {locs : List Loc} (h : xS A s s.heap) (hS : va_S A s.heap H locs) (hU : U.heap = H) (hW : s.WarmedH U.vm) (hAB : ∀ q, B q → A q) : xS B U U.heap := by
  obtain ⟨⟨h1, h2⟩, h3, h4, h5, h6⟩ := h
  rw [hU]
  exact ⟨⟨vx_Zq.moved hW.alike ((h1.kept hS.2.1).narrow hAB), vx_Zq.moved hW.alike ((h2.kept hS.2.1).narrow hAB)⟩, xT.warm hW h3, xN.warm hW h4, xN.warm hW h5, xN.warm hW h6⟩
def xPc (D : va_G) (t : Nat → ClassId) (ws : va_W) (sz : Nat) (av : List Value) : Array Value → State → Prop := fun v U => sPc D t ws sz av v U ∧ xS (va_A ws sz) U U.heap
theorem xPc_blind {D : va_G} {t : Nat → ClassId} {ws : va_W} {sz : Nat} {av : List Value} : FrameBlind (xPc D t ws sz av) := by
  intro a U g mk h
  obtain ⟨h1, ⟨h2, h3⟩, h4, h5, h6, h7⟩ := h
  exact ⟨sPc_blind a U g mk h1, ⟨vx_Zq.moved (u := U) (U := U.calling g mk a) (Vm.Alike.refl U.vm) h2, vx_Zq.moved (u := U) (U := U.calling g mk a) (Vm.Alike.refl U.vm) h3⟩, xT.same (u := U) (U := U.calling g mk a) rfl h4, xN.same (u := U) (U := U.calling g mk a) rfl h5, xN.same (u := U) (U := U.calling g mk a) rfl h6, xN.same (u := U) (U := U.calling g mk a) rfl h7⟩
theorem xPc_S {D : va_G} {t : Nat → ClassId} {ws : va_W} {av : List Value} {s : State} {H : Heap} {A A0 : Nat → Prop} {locs : List Loc} (hP : va_P D vwCl ws H) (hK : va_K D vwCl (TY t) s) (hD : va_D A ws) (hE : xE s) (hX : xS A0 s s.heap) (hS : va_S A0 s.heap H locs) (hAB : ∀ q, va_A ws H.size q → A0 q) : PreS s H (xPc D t ws H.size av) av :=
  ⟨xPc_blind, fun U hU hW => ⟨(sPc_S hP hK hD hE).2 U hU hW, hX.to hS hU hW hAB⟩⟩
theorem xPc_V {D : va_G} {t : Nat → ClassId} {ws : va_W} {b : Nat} {av : List Value} {s : State} {H : Heap} {A A0 : Nat → Prop} {locs : List Loc} {C : String} (hP : va_P D vwCl ws H) (hK : va_K D vwCl (TY t) s) (hD : va_D A ws) (hE : xE s)
    (hr : ∃ cellB : Cell, H[b]? = some cellB ∧ cellB.vm.isStatics = false ∧ s.vm.findClass C = some cellB.cls) (hX : xS A0 s s.heap) (hS : va_S A0 s.heap H locs) (hAB : ∀ q, va_A ws H.size q → A0 q) : PreV s H C b (xPc D t ws H.size (.ref b :: av)) av :=
  ⟨xPc_blind, hr, fun U hU hW => ⟨(sPc_V hP hK hD hE hr).2.2 U hU hW, hX.to hS hU hW hAB⟩⟩
abbrev qX (A : Nat → Prop) : Array Value → State → Outcome → State → Prop := va_Qv (fun (_ : Unit) => False) (fun _ _ => True) A
abbrev xC (D : va_G) (t : Nat → ClassId) (ws : va_W) (E : Nat) (A : Nat → Prop) : String → State → State → Prop := vx_X (fun (_ : Unit) => True) (fun En u tt => En = xname E ∧ sB D t ws A u tt) A
theorem met_ofX {l : Launch} {y : MethodName} {ws ws' : List Cond} {rm : Room} {D : va_G} {t : Nat → ClassId} {ww : va_W} {sz mc ms E : Nat} {av : List Value} {cc : ByteArray} {maxL : Nat} {ret : Option FieldType}
    (hy : plainName y.cls = true) (hw : ws = Cond.code y cc maxL ret :: ws') (hn : (lg_sl av).length ≤ maxL)
    (body : ∀ (p : Program) (e : Env) (s : State) (m : MethodId) (args : Array Value) (below : List Frame) (meth : Method) (c : Code) (A : Nat → Prop), p.tables.exec = Jvm.exec → c.code = cc → meth.sig.returnType = ret → c.maxLocals = maxL → (∀ w ∈ ws, w.before args s = true) → s.vm.findClass y.cls = some m.cls → meth.locks = false →
      (∀ q, s.heap.size ≤ q → A q) → va_P D vwCl ww s.heap → va_K D vwCl (TY t) s → va_D A ww → xE s → va_S A s.heap s.heap [] → xS A s s.heap → (∀ (x : ExceptionTableEntry), x ∈ c.exceptionTable.toList → ∀ pc, covers x pc = false) → ∀ ls : Array Slot, lv_has ls maxL (lv_args 0 av) →
      W p l e rm s m args below meth c s.heap [] 0 0 (vx_MQ below (qX A) (xC D t ww E A) args s mc ms A) (F0 m 0 ls [])) : vx_Met l y ws rm (xPc D t ww sz av) (qX (va_A ww sz)) (xC D t ww E (va_A ww sz)) mc ms (va_A ww sz) := by
  refine vx_ofW (cc := cc) (maxL := maxL) (ret := ret) hy hw ?_
  intro p e s m args below meth c s₁ B hml hnone hv
  obtain ⟨⟨rfl, hsz, hP, hK, hD0, hE⟩, hX⟩ := hv
  subst hsz
  rw [lg_entry_eq]
  exact body p e s m _ below meth c (va_A ww s.heap.size) B.exec B.bytes B.returns hml (atoms_spec (ws := ws) B.pre) (findClass_of_methodNamed B.named) B.notSynchronized (fun q h => Or.inr h) hP hK hD0.self hE va_S.rf hX (fun x hx => (hnone x hx).elim) _ (lv_entry av hn)
section XR
variable {p : Program} {l : Launch} {e : Env} {R : Room} {s : State} {m : MethodId} {args : Array Value} {below : List Frame} {meth : Method} {c : Code} {H : Heap} {locs : List Loc} {cells slots : Nat}
variable {D : va_G} {t : Nat → ClassId} {A : Nat → Prop} {ws wc : va_W} {pc : Nat} {ls : Array Slot} {st0 rest : List Value} {a : Array Value} {Qc : Array Value → State → Outcome → State → Prop}
/-- a callee throws; it isn't caught here -/
theorem call_x {E : Nat} (cut : Cut D A ws wc wc ws H) (hS : va_S A s.heap H locs) (hK : va_K D vwCl (TY t) s) (hT : ∀ (x : ExceptionTableEntry), x ∈ c.exceptionTable.toList → ∀ pc, covers x pc = false) (hlocks : meth.locks = false) (hc : cells + 1 ≤ 1) (hs : slots + 6 ≤ 6)
    (hr : va_P D vwCl wc H → va_D A wc → (∀ q, va_A wc H.size q → A q) → vx_Run p l e R s m args below meth c H locs cells slots 1 6 (F0 m pc ls st0) rest (qX (va_A wc H.size) a) (xC D t wc E (va_A wc H.size)) (va_A wc H.size)) :
    W p l e R s m args below meth c H locs cells slots (vx_MQ below Qc (xC D t ws E A) args s 1 6 A) (F0 m pc ls st0) := by
  obtain ⟨hPc, hDc, hfr, hup⟩ := cut
  refine vx_callv (hr hPc hDc hfr) hS (fun q _ h => hfr q h) hfr (fun q _ h => hfr q h) (fun En ce q9 u tt H1 locs1 ht hvm _ hB hz hk hS1 hcell hv hcl => ?_) (fun u tt H1 locs1 ht hvm hf => hf.elim)
  obtain ⟨rfl, hP1, -, -⟩ := hB
  rw [ht] at hP1
  obtain ⟨a2, a3⟩ := hup H1 hk hP1
  exact vx_out (fun x hx => hT x hx pc) hlocks hcell hv hcl (fun t9 h9 h8 => ⟨(), trivial, ⟨rfl, by rw [h9]; exact a2, va_K.moved h8 hK, a3⟩, hS1.F h9⟩) hS1.2.2 hc hs
end XR
theorem xhat0 {args : Array Value} {s : State} (h1 : ∀ w ∈ BIG, w.before args s = true) (h : xN (xname 0) s) : ∀ w ∈ vx_atS RX2 291 (xname 0) xnames, w.before args s = true :=
  vx_hat (B := [.declares (Bundle.initS "java/lang/RuntimeException"), .declares (Bundle.initS "java/lang/Exception"), .declares (Bundle.initS Bundle.tN), .castable (xname 0) (xname 0)]) (fun w hw => h1 w (List.mem_append_left _ (List.mem_append_left _ (List.mem_append_right _ hw)))) (by decide +kernel) (vx_c (va_Nw.use rfl h.1) (vx_c (va_Nw.use rfl h.2.1) (vx_c (va_Nw.use rfl h.2.2.1) (vx_c (va_Nw.use rfl h.2.2.2) vx_n))))
theorem xhat1 {args : Array Value} {s : State} (h1 : ∀ w ∈ BIG, w.before args s = true) (h : xN (xname 1) s) : ∀ w ∈ vx_atS RX2 119 (xname 1) xnames, w.before args s = true :=
  vx_hat (B := [.declares (Bundle.initS "java/lang/RuntimeException"), .declares (Bundle.initS "java/lang/Exception"), .declares (Bundle.initS Bundle.tN), .castable (xname 1) (xname 1)]) (fun w hw => h1 w (List.mem_append_left _ (List.mem_append_right _ hw))) (by decide +kernel) (vx_c (va_Nw.use rfl h.1) (vx_c (va_Nw.use rfl h.2.1) (vx_c (va_Nw.use rfl h.2.2.1) (vx_c (va_Nw.use rfl h.2.2.2) vx_n))))
theorem xhat2 {args : Array Value} {s : State} (h1 : ∀ w ∈ BIG, w.before args s = true) (h : xN (xname 2) s) : ∀ w ∈ vx_atS RX2 104 (xname 2) xnames, w.before args s = true :=
  vx_hat (B := [.declares (Bundle.initS "java/lang/RuntimeException"), .declares (Bundle.initS "java/lang/Exception"), .declares (Bundle.initS Bundle.tN), .castable (xname 2) (xname 2)]) (fun w hw => h1 w (List.mem_append_right _ hw)) (by decide +kernel) (vx_c (va_Nw.use rfl h.1) (vx_c (va_Nw.use rfl h.2.1) (vx_c (va_Nw.use rfl h.2.2.1) (vx_c (va_Nw.use rfl h.2.2.2) vx_n))))
theorem xgood0 : ∀ w ∈ Cond.classLink RX2 287 (xname 0) :: Cond.initialized (xname 0) :: vx_atS RX2 291 (xname 0) xnames, vx_ot w = true := by decide +kernel
theorem xgood1 : ∀ w ∈ Cond.classLink RX2 115 (xname 1) :: Cond.initialized (xname 1) :: vx_atS RX2 119 (xname 1) xnames, vx_ot w = true := by decide +kernel
theorem xgood2 : ∀ w ∈ Cond.classLink RX2 100 (xname 2) :: Cond.initialized (xname 2) :: vx_atS RX2 104 (xname 2) xnames, vx_ot w = true := by decide +kernel
theorem pin6 {i : Int32} (h : pin i 6 = true) : i.toNatClampNeg = 0 ∨ i.toNatClampNeg = 1 ∨ i.toNatClampNeg = 2 ∨ i.toNatClampNeg = 3 ∨ i.toNatClampNeg = 4 ∨ i.toNatClampNeg = 5 := by
  have h1 : ¬ (i < 0 ∨ 6 ≤ i.toNatClampNeg) := of_decide_eq_true h
  have h2 : ¬ 6 ≤ i.toNatClampNeg := fun q => h1 (Or.inr q)
  omega
end
section
theorem dX2_at_0 : decode cX2_at 0 = .ok (.iload_n 1, 1) := by decide +kernel
theorem dX2_at_1 : decode cX2_at 1 = .ok (.ifCond .lt 15, 3) := by decide +kernel
theorem dX2_at_4 : decode cX2_at 4 = .ok (.iload_n 1, 1) := by decide +kernel
theorem dX2_at_5 : decode cX2_at 5 = .ok (.aload_n 0, 1) := by decide +kernel
theorem dX2_at_6 : decode cX2_at 6 = .ok (.arraylength, 1) := by decide +kernel
theorem dX2_at_7 : decode cX2_at 7 = .ok (.if_icmp .ge 9, 3) := by decide +kernel
theorem dX2_at_10 : decode cX2_at 10 = .ok (.aload_n 0, 1) := by decide +kernel
theorem dX2_at_11 : decode cX2_at 11 = .ok (.iload_n 1, 1) := by decide +kernel
theorem dX2_at_12 : decode cX2_at 12 = .ok (.iaload, 1) := by decide +kernel
theorem dX2_at_13 : decode cX2_at 13 = .ok (.goto 4, 3) := by decide +kernel
theorem dX2_at_16 : decode cX2_at 16 = .ok (.iconst 0, 1) := by decide +kernel
theorem dX2_at_17 : decode cX2_at 17 = .ok (.ireturn, 1) := by decide +kernel
abbrev zX2_at : List Cond := .code yX2_at cX2_at 2 (some .int) :: BIG
def fX2_at (n : Nat) (f : (Nat → Int32)) (i : Int32) : Option (Int32) := (if i < 0 then some 0 else (if (nI n) ≤ i then some 0 else gd (pin i n) (some (f (Int32.toNatClampNeg i)))))
set_option maxHeartbeats 4000000 in
set_option maxRecDepth 100000 in
theorem mtX2_at (l : Launch) (D : va_G) (t : Nat → ClassId) (fa : Nat) (n : Nat) (f : (Nat → Int32)) (i : Int32) (out : Int32) (h : fX2_at n f i = some out) (n_lt : n < 2 ^ 31) (sz : Nat) : Met l yX2_at zX2_at ({ frames := 0, cells := 0, slots := 0, locals := 0 }) (sPc D t (gA t fa n f) sz [.ref fa, .int i]) (qI D t (gA t fa n f) out (va_A (gA t fa n f) sz)) 0 0 (va_A (gA t fa n f) sz) := by
  refine met_of (Qf := fun A => qI D t (gA t fa n f) out A) (cc := cX2_at) (maxL := 2) (ret := some .int) (by decide) rfl (Nat.le_of_ble_eq_true rfl) ?_
  intro p e s m args below meth c A hx hb hr hml hts hown hlocks hA hP hK hD hE hS ls hl
  have htB : ∀ w ∈ BIG, w.before args s = true := fun w h => hts w (List.mem_cons_of_mem _ h)
  have hown : s.vm.findClass RX2 = some m.cls := hown
  have hl : lv_has ls 2 [(0, .ref fa), (1, .int i)] := hl
  unfold fX2_at at h
  refine lv_iload_n hx hb dX2_at_0 rfl (lv_at hl 1 rfl) ?_
  refine lv_if_lt (tgt := 16) hx hb dX2_at_1 (by decide) (fun c1 => ?_) (fun c1 => ?_)
  · have h := it_p c1 h
    refine lv_iconst (v := 0) hx hb dX2_at_16 (by decide) ?_
    obtain rfl := os h
    exact ret_i hx hb hr hlocks hP hK hD hS dX2_at_17
  · have h := it_n c1 h
    refine lv_iload_n hx hb dX2_at_4 rfl (lv_at hl 1 rfl) ?_
    refine lv_aload_n hx hb dX2_at_5 rfl (lv_at hl 0 rfl) ?_
    refine va_alen (v := (nI n)) hx hb hK hP 0 0 rfl rfl rfl dX2_at_6 ?_
    refine lv_icmp_ge (tgt := 16) hx hb dX2_at_7 (by decide) (fun c2 => ?_) (fun c2 => ?_)
    · have h := it_p c2 h
      refine lv_iconst (v := 0) hx hb dX2_at_16 (by decide) ?_
      obtain rfl := os h
      exact ret_i hx hb hr hlocks hP hK hD hS dX2_at_17
    · have h := it_n c2 h
      refine lv_aload_n hx hb dX2_at_10 rfl (lv_at hl 0 rfl) ?_
      refine lv_iload_n hx hb dX2_at_11 rfl (lv_at hl 1 rfl) ?_
      obtain ⟨g3, h⟩ := og h
      refine va_iald hx hb hK hP 0 0 rfl rfl (pin_in g3) dX2_at_12 ?_
      refine lv_goto (tgt := 17) hx hb dX2_at_13 (by decide) ?_
      obtain rfl := os h
      exact ret_i hx hb hr hlocks hP hK hD hS dX2_at_17

theorem dX2_put_0 : decode cX2_put 0 = .ok (.iload_n 1, 1) := by decide +kernel
theorem dX2_put_1 : decode cX2_put 1 = .ok (.ifCond .lt 13, 3) := by decide +kernel
theorem dX2_put_4 : decode cX2_put 4 = .ok (.iload_n 1, 1) := by decide +kernel
theorem dX2_put_5 : decode cX2_put 5 = .ok (.aload_n 0, 1) := by decide +kernel
theorem dX2_put_6 : decode cX2_put 6 = .ok (.arraylength, 1) := by decide +kernel
theorem dX2_put_7 : decode cX2_put 7 = .ok (.if_icmp .ge 7, 3) := by decide +kernel
theorem dX2_put_10 : decode cX2_put 10 = .ok (.aload_n 0, 1) := by decide +kernel
theorem dX2_put_11 : decode cX2_put 11 = .ok (.iload_n 1, 1) := by decide +kernel
theorem dX2_put_12 : decode cX2_put 12 = .ok (.iload_n 2, 1) := by decide +kernel
theorem dX2_put_13 : decode cX2_put 13 = .ok (.iastore, 1) := by decide +kernel
theorem dX2_put_14 : decode cX2_put 14 = .ok (.return_, 1) := by decide +kernel
abbrev zX2_put : List Cond := .code yX2_put cX2_put 3 none :: BIG
def fX2_put (n : Nat) (f : (Nat → Int32)) (i : Int32) (v : Int32) : Option ((Nat → Int32)) := (if i < 0 then some f else (if (nI n) ≤ i then some f else gd (pin i n) (some (upd f (Int32.toNatClampNeg i) v))))
set_option maxHeartbeats 4000000 in
set_option maxRecDepth 100000 in
theorem mtX2_put (l : Launch) (D : va_G) (t : Nat → ClassId) (fa : Nat) (n : Nat) (f : (Nat → Int32)) (i : Int32) (v : Int32) (out : (Nat → Int32)) (h : fX2_put n f i v = some out) (n_lt : n < 2 ^ 31) (sz : Nat) : Met l yX2_put zX2_put ({ frames := 0, cells := 0, slots := 0, locals := 0 }) (sPc D t (gA t fa n f) sz [.ref fa, .int i, .int v]) (qV D t (gA t fa n out) (va_A (gA t fa n f) sz)) 0 0 (va_A (gA t fa n f) sz) := by
  refine met_of (Qf := fun A => qV D t (gA t fa n out) A) (cc := cX2_put) (maxL := 3) (ret := none) (by decide) rfl (Nat.le_of_ble_eq_true rfl) ?_
  intro p e s m args below meth c A hx hb hr hml hts hown hlocks hA hP hK hD hE hS ls hl
  have htB : ∀ w ∈ BIG, w.before args s = true := fun w h => hts w (List.mem_cons_of_mem _ h)
  have hown : s.vm.findClass RX2 = some m.cls := hown
  have hl : lv_has ls 3 [(0, .ref fa), (1, .int i), (2, .int v)] := hl
  unfold fX2_put at h
  refine lv_iload_n hx hb dX2_put_0 rfl (lv_at hl 1 rfl) ?_
  refine lv_if_lt (tgt := 14) hx hb dX2_put_1 (by decide) (fun c1 => ?_) (fun c1 => ?_)
  · have h := it_p c1 h
    obtain rfl := os h
    exact ret_v hx hb hr hlocks hP hK hD hS dX2_put_14
  · have h := it_n c1 h
    refine lv_iload_n hx hb dX2_put_4 rfl (lv_at hl 1 rfl) ?_
    refine lv_aload_n hx hb dX2_put_5 rfl (lv_at hl 0 rfl) ?_
    refine va_alen (v := (nI n)) hx hb hK hP 0 0 rfl rfl rfl dX2_put_6 ?_
    refine lv_icmp_ge (tgt := 14) hx hb dX2_put_7 (by decide) (fun c2 => ?_) (fun c2 => ?_)
    · have h := it_p c2 h
      obtain rfl := os h
      exact ret_v hx hb hr hlocks hP hK hD hS dX2_put_14
    · have h := it_n c2 h
      refine lv_aload_n hx hb dX2_put_10 rfl (lv_at hl 0 rfl) ?_
      refine lv_iload_n hx hb dX2_put_11 rfl (lv_at hl 1 rfl) ?_
      refine lv_iload_n hx hb dX2_put_12 rfl (lv_at hl 2 rfl) ?_
      obtain ⟨g3, h⟩ := og h
      refine va_iast hx hb hK hP hD hS 0 0 rfl rfl (pin_in g3) dX2_put_13 (fun H locs hP hD hS => ?_)
      have hP : va_P D vwCl (gA t fa n (upd f (Int32.toNatClampNeg i) v)) H := hP
      have hD : va_D A (gA t fa n (upd f (Int32.toNatClampNeg i) v)) := hD
      obtain rfl := os h
      exact ret_v hx hb hr hlocks hP hK hD hS dX2_put_14

theorem dX2_copyRow_0 : decode cX2_copyRow 0 = .ok (.iconst 0, 1) := by decide +kernel
theorem dX2_copyRow_1 : decode cX2_copyRow 1 = .ok (.istore_n 2, 1) := by decide +kernel
theorem dX2_copyRow_2 : decode cX2_copyRow 2 = .ok (.iload_n 2, 1) := by decide +kernel
theorem dX2_copyRow_3 : decode cX2_copyRow 3 = .ok (.aload_n 0, 1) := by decide +kernel
theorem dX2_copyRow_4 : decode cX2_copyRow 4 = .ok (.arraylength, 1) := by decide +kernel
theorem dX2_copyRow_5 : decode cX2_copyRow 5 = .ok (.if_icmp .ge 21, 3) := by decide +kernel
theorem dX2_copyRow_8 : decode cX2_copyRow 8 = .ok (.iload_n 2, 1) := by decide +kernel
theorem dX2_copyRow_9 : decode cX2_copyRow 9 = .ok (.aload_n 1, 1) := by decide +kernel
theorem dX2_copyRow_10 : decode cX2_copyRow 10 = .ok (.arraylength, 1) := by decide +kernel
theorem dX2_copyRow_11 : decode cX2_copyRow 11 = .ok (.if_icmp .ge 15, 3) := by decide +kernel
theorem dX2_copyRow_14 : decode cX2_copyRow 14 = .ok (.aload_n 1, 1) := by decide +kernel
theorem dX2_copyRow_15 : decode cX2_copyRow 15 = .ok (.iload_n 2, 1) := by decide +kernel
theorem dX2_copyRow_16 : decode cX2_copyRow 16 = .ok (.aload_n 0, 1) := by decide +kernel
theorem dX2_copyRow_17 : decode cX2_copyRow 17 = .ok (.iload_n 2, 1) := by decide +kernel
theorem dX2_copyRow_18 : decode cX2_copyRow 18 = .ok (.iaload, 1) := by decide +kernel
theorem dX2_copyRow_19 : decode cX2_copyRow 19 = .ok (.iastore, 1) := by decide +kernel
theorem dX2_copyRow_20 : decode cX2_copyRow 20 = .ok (.iinc 2 1, 3) := by decide +kernel
theorem dX2_copyRow_23 : decode cX2_copyRow 23 = .ok (.goto (-21), 3) := by decide +kernel
theorem dX2_copyRow_26 : decode cX2_copyRow 26 = .ok (.return_, 1) := by decide +kernel
abbrev zX2_copyRow : List Cond := .code yX2_copyRow cX2_copyRow 3 none :: BIG
def fX2_copyRow_l2 (n : Nat) (f : (Nat → Int32)) (nb : Nat)  (K2 : ((Nat → Int32) × Int32) → Option ((Nat → Int32))) (v2 : (Nat → Int32) × Int32) : Option ((Nat → Int32)) := (if (nI n) ≤ v2.2 then some v2.1 else (if (nI nb) ≤ v2.2 then some v2.1 else gd (pin v2.2 n) (gd (pin v2.2 nb) (K2 ((upd v2.1 (Int32.toNatClampNeg v2.2) (f (Int32.toNatClampNeg v2.2))), v2.2 + 1)))))
def fX2_copyRow (n : Nat) (f : (Nat → Int32)) (nb : Nat) (g : (Nat → Int32)) : Option ((Nat → Int32)) := lp (fX2_copyRow_l2 n f nb) 2000 (g, 0)
set_option maxHeartbeats 4000000 in
set_option maxRecDepth 100000 in
theorem mtX2_copyRow (l : Launch) (D : va_G) (t : Nat → ClassId) (fa : Nat) (n : Nat) (f : (Nat → Int32)) (ga : Nat) (nb : Nat) (g : (Nat → Int32)) (out : (Nat → Int32)) (h : fX2_copyRow n f nb g = some out) (n_lt : n < 2 ^ 31) (nb_lt : nb < 2 ^ 31) (sz : Nat) : Met l yX2_copyRow zX2_copyRow ({ frames := 0, cells := 0, slots := 0, locals := 0 }) (sPc D t (gA t fa n f ++ (gA t ga nb g)) sz [.ref fa, .ref ga]) (qV D t (gA t fa n f ++ (gA t ga nb out)) (va_A (gA t fa n f ++ (gA t ga nb g)) sz)) 0 0 (va_A (gA t fa n f ++ (gA t ga nb g)) sz) := by
  refine met_of (Qf := fun A => qV D t (gA t fa n f ++ (gA t ga nb out)) A) (cc := cX2_copyRow) (maxL := 3) (ret := none) (by decide) rfl (Nat.le_of_ble_eq_true rfl) ?_
  intro p e s m args below meth c A hx hb hr hml hts hown hlocks hA hP hK hD hE hS ls hl
  have htB : ∀ w ∈ BIG, w.before args s = true := fun w h => hts w (List.mem_cons_of_mem _ h)
  have hown : s.vm.findClass RX2 = some m.cls := hown
  have hl : lv_has ls 3 [(0, .ref fa), (1, .ref ga)] := hl
  unfold fX2_copyRow at h
  have J2 : ∀ (fu2 : Nat) (v2 : (Nat → Int32) × Int32), lp (fX2_copyRow_l2 n f nb) fu2 v2 = some out → ∀ (H : Heap) (locs : List Loc), va_P D vwCl (gA t fa n f ++ (gA t ga nb v2.1)) H → va_D A (gA t fa n f ++ (gA t ga nb v2.1)) → va_S A s.heap H locs → ∀ ls : Array Slot, lv_has ls 3 [(0, .ref fa), (1, .ref ga), (2, .int v2.2)] → W p l e ({ frames := 0, cells := 0, slots := 0, locals := 0 }) s m args below meth c H locs 0 0 (MQ below (qV D t (gA t fa n f ++ (gA t ga nb out)) A) args s 0 0 A) (F0 m 2 ls []) := by
    intro fu2
    induction fu2 with
    | zero => intro v2 h; cases h
    | succ fu2 ih2 =>
      intro v2 h H locs hP hD hS ls hl
      have h : fX2_copyRow_l2 n f nb (lp (fX2_copyRow_l2 n f nb) fu2) v2 = some out := h
      unfold fX2_copyRow_l2 at h
      refine lv_iload_n hx hb dX2_copyRow_2 rfl (lv_at hl 2 rfl) ?_
      refine lv_aload_n hx hb dX2_copyRow_3 rfl (lv_at hl 0 rfl) ?_
      refine va_alen (v := (nI n)) hx hb hK hP 0 0 rfl rfl rfl dX2_copyRow_4 ?_
      refine lv_icmp_ge (tgt := 26) hx hb dX2_copyRow_5 (by decide) (fun c1 => ?_) (fun c1 => ?_)
      · have h := it_p c1 h
        obtain rfl := os h
        exact ret_v hx hb hr hlocks hP hK hD hS dX2_copyRow_26
      · have h := it_n c1 h
        refine lv_iload_n hx hb dX2_copyRow_8 rfl (lv_at hl 2 rfl) ?_
        refine lv_aload_n hx hb dX2_copyRow_9 rfl (lv_at hl 1 rfl) ?_
        refine va_alen (v := (nI nb)) hx hb hK hP 1 0 rfl rfl rfl dX2_copyRow_10 ?_
        refine lv_icmp_ge (tgt := 26) hx hb dX2_copyRow_11 (by decide) (fun c2 => ?_) (fun c2 => ?_)
        · have h := it_p c2 h
          obtain rfl := os h
          exact ret_v hx hb hr hlocks hP hK hD hS dX2_copyRow_26
        · have h := it_n c2 h
          refine lv_aload_n hx hb dX2_copyRow_14 rfl (lv_at hl 1 rfl) ?_
          refine lv_iload_n hx hb dX2_copyRow_15 rfl (lv_at hl 2 rfl) ?_
          refine lv_aload_n hx hb dX2_copyRow_16 rfl (lv_at hl 0 rfl) ?_
          refine lv_iload_n hx hb dX2_copyRow_17 rfl (lv_at hl 2 rfl) ?_
          obtain ⟨g3, h⟩ := og h
          refine va_iald hx hb hK hP 0 0 rfl rfl (pin_in g3) dX2_copyRow_18 ?_
          obtain ⟨g4, h⟩ := og h
          refine va_iast hx hb hK hP hD hS 1 0 rfl rfl (pin_in g4) dX2_copyRow_19 (fun H locs hP hD hS => ?_)
          have hP : va_P D vwCl (gA t fa n f ++ (gA t ga nb (upd v2.1 (Int32.toNatClampNeg v2.2) (f (Int32.toNatClampNeg v2.2))))) H := hP
          have hD : va_D A (gA t fa n f ++ (gA t ga nb (upd v2.1 (Int32.toNatClampNeg v2.2) (f (Int32.toNatClampNeg v2.2))))) := hD
          refine lv_iinc (v := v2.2 + 1) (lv' := [(2, .int (v2.2 + 1)), (0, .ref fa), (1, .ref ga)]) hx hb dX2_copyRow_20 hl (k := 2) rfl rfl (by decide) rfl (fun ls hl => ?_)
          refine lv_goto (tgt := 2) hx hb dX2_copyRow_23 (by decide) ?_
          exact ih2 ((upd v2.1 (Int32.toNatClampNeg v2.2) (f (Int32.toNatClampNeg v2.2))), v2.2 + 1) h _ _ hP hD hS _ (lv_sub hl [1, 2, 0] rfl)
  refine lv_iconst (v := 0) hx hb dX2_copyRow_0 (by decide) ?_
  refine lv_istore_n (lv' := [(2, .int 0), (0, .ref fa), (1, .ref ga)]) hx hb dX2_copyRow_1 rfl hl (by decide) rfl (fun ls hl => ?_)
  exact J2 2000 (g, 0) h _ _ hP hD hS _ (lv_sub hl [1, 2, 0] rfl)

theorem dX2_wantedLight_0 : decode cX2_wantedLight 0 = .ok (.bipush 20, 2) := by decide +kernel
theorem dX2_wantedLight_2 : decode cX2_wantedLight 2 = .ok (.iload_n 0, 1) := by decide +kernel
theorem dX2_wantedLight_3 : decode cX2_wantedLight 3 = .ok (.ishl, 1) := by decide +kernel
theorem dX2_wantedLight_4 : decode cX2_wantedLight 4 = .ok (.ireturn, 1) := by decide +kernel
abbrev zX2_wantedLight : List Cond := .code yX2_wantedLight cX2_wantedLight 1 (some .int) :: BIG
def fX2_wantedLight (v : Int32) : Option (Int32) := some (20 <<< (v &&& 31))
set_option maxHeartbeats 4000000 in
set_option maxRecDepth 100000 in
theorem mtX2_wantedLight (l : Launch) (D : va_G) (t : Nat → ClassId) (v : Int32) (out : Int32) (h : fX2_wantedLight v = some out)  (sz : Nat) : Met l yX2_wantedLight zX2_wantedLight ({ frames := 0, cells := 0, slots := 0, locals := 0 }) (sPc D t ([] : va_W) sz [.int v]) (qI D t ([] : va_W) out (va_A ([] : va_W) sz)) 0 0 (va_A ([] : va_W) sz) := by
  refine met_of (Qf := fun A => qI D t ([] : va_W) out A) (cc := cX2_wantedLight) (maxL := 1) (ret := some .int) (by decide) rfl (Nat.le_of_ble_eq_true rfl) ?_
  intro p e s m args below meth c A hx hb hr hml hts hown hlocks hA hP hK hD hE hS ls hl
  have htB : ∀ w ∈ BIG, w.before args s = true := fun w h => hts w (List.mem_cons_of_mem _ h)
  have hown : s.vm.findClass RX2 = some m.cls := hown
  have hl : lv_has ls 1 [(0, .int v)] := hl
  unfold fX2_wantedLight at h
  refine lv_bipush (v := 20) hx hb dX2_wantedLight_0 (by decide) ?_
  refine lv_iload_n hx hb dX2_wantedLight_2 rfl (lv_at hl 0 rfl) ?_
  refine lv_ishl hx hb dX2_wantedLight_3 ?_
  obtain rfl := os h
  exact ret_i hx hb hr hlocks hP hK hD hS dX2_wantedLight_4

theorem dX1_become_0 : decode cX1_become 0 = .ok (.aload_n 1, 1) := by decide +kernel
theorem dX1_become_1 : decode cX1_become 1 = .ok (.getfield 9, 3) := by decide +kernel
theorem dX1_become_4 : decode cX1_become 4 = .ok (.aload_n 0, 1) := by decide +kernel
theorem dX1_become_5 : decode cX1_become 5 = .ok (.getfield 9, 3) := by decide +kernel
theorem dX1_become_8 : decode cX1_become 8 = .ok (.invokestatic 43, 3) := by decide +kernel
theorem dX1_become_11 : decode cX1_become 11 = .ok (.aload_n 1, 1) := by decide +kernel
theorem dX1_become_12 : decode cX1_become 12 = .ok (.getfield 15, 3) := by decide +kernel
theorem dX1_become_15 : decode cX1_become 15 = .ok (.aload_n 0, 1) := by decide +kernel
theorem dX1_become_16 : decode cX1_become 16 = .ok (.getfield 15, 3) := by decide +kernel
theorem dX1_become_19 : decode cX1_become 19 = .ok (.invokestatic 43, 3) := by decide +kernel
theorem dX1_become_22 : decode cX1_become 22 = .ok (.aload_n 1, 1) := by decide +kernel
theorem dX1_become_23 : decode cX1_become 23 = .ok (.getfield 18, 3) := by decide +kernel
theorem dX1_become_26 : decode cX1_become 26 = .ok (.aload_n 0, 1) := by decide +kernel
theorem dX1_become_27 : decode cX1_become 27 = .ok (.getfield 18, 3) := by decide +kernel
theorem dX1_become_30 : decode cX1_become 30 = .ok (.invokestatic 43, 3) := by decide +kernel
theorem dX1_become_33 : decode cX1_become 33 = .ok (.aload_n 1, 1) := by decide +kernel
theorem dX1_become_34 : decode cX1_become 34 = .ok (.getfield 21, 3) := by decide +kernel
theorem dX1_become_37 : decode cX1_become 37 = .ok (.aload_n 0, 1) := by decide +kernel
theorem dX1_become_38 : decode cX1_become 38 = .ok (.getfield 21, 3) := by decide +kernel
theorem dX1_become_41 : decode cX1_become 41 = .ok (.invokestatic 43, 3) := by decide +kernel
theorem dX1_become_44 : decode cX1_become 44 = .ok (.aload_n 1, 1) := by decide +kernel
theorem dX1_become_45 : decode cX1_become 45 = .ok (.getfield 24, 3) := by decide +kernel
theorem dX1_become_48 : decode cX1_become 48 = .ok (.aload_n 0, 1) := by decide +kernel
theorem dX1_become_49 : decode cX1_become 49 = .ok (.getfield 24, 3) := by decide +kernel
theorem dX1_become_52 : decode cX1_become 52 = .ok (.invokestatic 43, 3) := by decide +kernel
theorem dX1_become_55 : decode cX1_become 55 = .ok (.aload_n 1, 1) := by decide +kernel
theorem dX1_become_56 : decode cX1_become 56 = .ok (.getfield 27, 3) := by decide +kernel
theorem dX1_become_59 : decode cX1_become 59 = .ok (.aload_n 0, 1) := by decide +kernel
theorem dX1_become_60 : decode cX1_become 60 = .ok (.getfield 27, 3) := by decide +kernel
theorem dX1_become_63 : decode cX1_become 63 = .ok (.invokestatic 43, 3) := by decide +kernel
theorem dX1_become_66 : decode cX1_become 66 = .ok (.aload_n 1, 1) := by decide +kernel
theorem dX1_become_67 : decode cX1_become 67 = .ok (.getfield 30, 3) := by decide +kernel
theorem dX1_become_70 : decode cX1_become 70 = .ok (.aload_n 0, 1) := by decide +kernel
theorem dX1_become_71 : decode cX1_become 71 = .ok (.getfield 30, 3) := by decide +kernel
theorem dX1_become_74 : decode cX1_become 74 = .ok (.invokestatic 43, 3) := by decide +kernel
theorem dX1_become_77 : decode cX1_become 77 = .ok (.aload_n 0, 1) := by decide +kernel
theorem dX1_become_78 : decode cX1_become 78 = .ok (.aload_n 1, 1) := by decide +kernel
theorem dX1_become_79 : decode cX1_become 79 = .ok (.getfield 33, 3) := by decide +kernel
theorem dX1_become_82 : decode cX1_become 82 = .ok (.putfield 33, 3) := by decide +kernel
theorem dX1_become_85 : decode cX1_become 85 = .ok (.aload_n 0, 1) := by decide +kernel
theorem dX1_become_86 : decode cX1_become 86 = .ok (.aload_n 1, 1) := by decide +kernel
theorem dX1_become_87 : decode cX1_become 87 = .ok (.getfield 37, 3) := by decide +kernel
theorem dX1_become_90 : decode cX1_become 90 = .ok (.putfield 37, 3) := by decide +kernel
theorem dX1_become_93 : decode cX1_become 93 = .ok (.aload_n 0, 1) := by decide +kernel
theorem dX1_become_94 : decode cX1_become 94 = .ok (.aload_n 1, 1) := by decide +kernel
theorem dX1_become_95 : decode cX1_become 95 = .ok (.getfield 40, 3) := by decide +kernel
theorem dX1_become_98 : decode cX1_become 98 = .ok (.putfield 40, 3) := by decide +kernel
theorem dX1_become_101 : decode cX1_become 101 = .ok (.return_, 1) := by decide +kernel
abbrev zX1_become : List Cond := .code yX1_become cX1_become 2 none :: BIG
def fX1_become (x : ShT) (y : ShT) : Option (ShT) := (fX2_copyRow 2 y.1 2 x.1).bind (fun r1 => (fX2_copyRow 2 y.2.1 2 x.2.1).bind (fun r2 => (fX2_copyRow 24 y.2.2.1 24 x.2.2.1).bind (fun r3 => (fX2_copyRow 24 y.2.2.2.1 24 x.2.2.2.1).bind (fun r4 => (fX2_copyRow 6 y.2.2.2.2.1 6 x.2.2.2.2.1).bind (fun r5 => (fX2_copyRow 4 y.2.2.2.2.2.1 4 x.2.2.2.2.2.1).bind (fun r6 => (fX2_copyRow 6 y.2.2.2.2.2.2.1 6 x.2.2.2.2.2.2.1).bind (fun r7 => some (r1, r2, r3, r4, r5, r6, r7, y.2.2.2.2.2.2.2.1, y.2.2.2.2.2.2.2.2.1, y.2.2.2.2.2.2.2.2.2))))))))
set_option maxHeartbeats 4000000 in
set_option maxRecDepth 100000 in
theorem mtX1_become (l : Launch) (D : va_G) (t : Nat → ClassId) (xa : Nat) (xb : Nat → Nat) (x : ShT) (ya : Nat) (yb : Nat → Nat) (y : ShT) (out : ShT) (h : fX1_become x y = some out)  (sz : Nat) : Met l yX1_become zX1_become ({ frames := 1, cells := 0, slots := 0, locals := 22 }) (sPc D t (gS t xa xb x ++ (gS t ya yb y)) sz [.ref xa, .ref ya]) (qV D t (gS t xa xb out ++ (gS t ya yb y)) (va_A (gS t xa xb x ++ (gS t ya yb y)) sz)) 0 0 (va_A (gS t xa xb x ++ (gS t ya yb y)) sz) := by
  refine met_of (Qf := fun A => qV D t (gS t xa xb out ++ (gS t ya yb y)) A) (cc := cX1_become) (maxL := 2) (ret := none) (by decide) rfl (Nat.le_of_ble_eq_true rfl) ?_
  intro p e s m args below meth c A hx hb hr hml hts hown hlocks hA hP hK hD hE hS ls hl
  have htB : ∀ w ∈ BIG, w.before args s = true := fun w h => hts w (List.mem_cons_of_mem _ h)
  have hown : s.vm.findClass RX1 = some m.cls := hown
  have hl : lv_has ls 2 [(0, .ref xa), (1, .ref ya)] := hl
  unfold fX1_become at h
  refine lv_aload_n hx hb dX1_become_0 rfl (lv_at hl 1 rfl) ?_
  refine va_get (D := D) (ci := 1) (v := .ref (yb 0)) (C := RX1) (T := TX1) (N := 10) hx hb htB inlX1 hown hK hP 8 rfl rfl 0 (by decide) (htB _ kw33) (fun _ h9 => h9) rfl dX1_become_1 ?_
  refine lv_aload_n hx hb dX1_become_4 rfl (lv_at hl 0 rfl) ?_
  refine va_get (D := D) (ci := 1) (v := .ref (xb 0)) (C := RX1) (T := TX1) (N := 10) hx hb htB inlX1 hown hK hP 0 rfl rfl 0 (by decide) (htB _ kw33) (fun _ h9 => h9) rfl dX1_become_5 ?_
  obtain ⟨r1, h1, h⟩ := ob h
  refine call_v (wc := (gA t (yb 0) 2 y.1 ++ (gA t (xb 0) 2 x.1))) (wc' := (gA t (yb 0) 2 y.1 ++ (gA t (xb 0) 2 r1))) (ws' := (gS t xa xb (r1, x.2.1, x.2.2.1, x.2.2.2.1, x.2.2.2.2.1, x.2.2.2.2.2.1, x.2.2.2.2.2.2.1, x.2.2.2.2.2.2.2.1, x.2.2.2.2.2.2.2.2.1, x.2.2.2.2.2.2.2.2.2) ++ (gS t ya yb y))) (cutI (wc := (gA t (yb 0) 2 y.1 ++ (gA t (xb 0) 2 x.1))) (wc' := (gA t (yb 0) 2 y.1 ++ (gA t (xb 0) 2 r1))) (ws' := (gS t xa xb (r1, x.2.1, x.2.2.1, x.2.2.2.1, x.2.2.2.2.1, x.2.2.2.2.2.1, x.2.2.2.2.2.2.1, x.2.2.2.2.2.2.2.1, x.2.2.2.2.2.2.2.2.1, x.2.2.2.2.2.2.2.2.2) ++ (gS t ya yb y))) [9, 1] hP hD hS hA rfl rfl rfl rfl) hS (fun hPc hDc => va_runSN (As := [.ref (yb 0), .ref (xb 0)]) (rest := []) ⟨hx, hb, hml, hown, hts⟩ (mtX2_copyRow l D t (yb 0) 2 y.1 (xb 0) 2 x.1 r1 h1 (by decide) (by decide) _) ⟨va_cnB 2 hts (gB kw103) rfl rfl rfl hE.2.2.1 (htB _ kw2) (by decide +kernel) ⟨Nat.le_of_ble_eq_true rfl, Nat.le_of_ble_eq_true rfl⟩, (htB _ kw102), trivial⟩ (sPc_S hPc hK hDc hE) rfl rfl hl.1 rfl (lv_room (Nat.le_of_ble_eq_true rfl)) dX1_become_8 ⟨Nat.zero_le _, Nat.zero_le _⟩) (fun H locs hP hD hS => ?_)
  refine lv_aload_n hx hb dX1_become_11 rfl (lv_at hl 1 rfl) ?_
  refine va_get (D := D) (ci := 1) (v := .ref (yb 1)) (C := RX1) (T := TX1) (N := 10) hx hb htB inlX1 hown hK hP 8 rfl rfl 1 (by decide) (htB _ kw34) (fun _ h9 => h9) rfl dX1_become_12 ?_
  refine lv_aload_n hx hb dX1_become_15 rfl (lv_at hl 0 rfl) ?_
  refine va_get (D := D) (ci := 1) (v := .ref (xb 1)) (C := RX1) (T := TX1) (N := 10) hx hb htB inlX1 hown hK hP 0 rfl rfl 1 (by decide) (htB _ kw34) (fun _ h9 => h9) rfl dX1_become_16 ?_
  obtain ⟨r2, h2, h⟩ := ob h
  refine call_v (wc := (gA t (yb 1) 2 y.2.1 ++ (gA t (xb 1) 2 x.2.1))) (wc' := (gA t (yb 1) 2 y.2.1 ++ (gA t (xb 1) 2 r2))) (ws' := (gS t xa xb (r1, r2, x.2.2.1, x.2.2.2.1, x.2.2.2.2.1, x.2.2.2.2.2.1, x.2.2.2.2.2.2.1, x.2.2.2.2.2.2.2.1, x.2.2.2.2.2.2.2.2.1, x.2.2.2.2.2.2.2.2.2) ++ (gS t ya yb y))) (cutI (wc := (gA t (yb 1) 2 y.2.1 ++ (gA t (xb 1) 2 x.2.1))) (wc' := (gA t (yb 1) 2 y.2.1 ++ (gA t (xb 1) 2 r2))) (ws' := (gS t xa xb (r1, r2, x.2.2.1, x.2.2.2.1, x.2.2.2.2.1, x.2.2.2.2.2.1, x.2.2.2.2.2.2.1, x.2.2.2.2.2.2.2.1, x.2.2.2.2.2.2.2.2.1, x.2.2.2.2.2.2.2.2.2) ++ (gS t ya yb y))) [10, 2] hP hD hS hA rfl rfl rfl rfl) hS (fun hPc hDc => va_runSN (As := [.ref (yb 1), .ref (xb 1)]) (rest := []) ⟨hx, hb, hml, hown, hts⟩ (mtX2_copyRow l D t (yb 1) 2 y.2.1 (xb 1) 2 x.2.1 r2 h2 (by decide) (by decide) _) ⟨va_cnB 2 hts (gB kw103) rfl rfl rfl hE.2.2.1 (htB _ kw2) (by decide +kernel) ⟨Nat.le_of_ble_eq_true rfl, Nat.le_of_ble_eq_true rfl⟩, (htB _ kw102), trivial⟩ (sPc_S hPc hK hDc hE) rfl rfl hl.1 rfl (lv_room (Nat.le_of_ble_eq_true rfl)) dX1_become_19 ⟨Nat.zero_le _, Nat.zero_le _⟩) (fun H locs hP hD hS => ?_)
  refine lv_aload_n hx hb dX1_become_22 rfl (lv_at hl 1 rfl) ?_
  refine va_get (D := D) (ci := 1) (v := .ref (yb 2)) (C := RX1) (T := TX1) (N := 10) hx hb htB inlX1 hown hK hP 8 rfl rfl 2 (by decide) (htB _ kw35) (fun _ h9 => h9) rfl dX1_become_23 ?_
  refine lv_aload_n hx hb dX1_become_26 rfl (lv_at hl 0 rfl) ?_
  refine va_get (D := D) (ci := 1) (v := .ref (xb 2)) (C := RX1) (T := TX1) (N := 10) hx hb htB inlX1 hown hK hP 0 rfl rfl 2 (by decide) (htB _ kw35) (fun _ h9 => h9) rfl dX1_become_27 ?_
  obtain ⟨r3, h3, h⟩ := ob h
  refine call_v (wc := (gA t (yb 2) 24 y.2.2.1 ++ (gA t (xb 2) 24 x.2.2.1))) (wc' := (gA t (yb 2) 24 y.2.2.1 ++ (gA t (xb 2) 24 r3))) (ws' := (gS t xa xb (r1, r2, r3, x.2.2.2.1, x.2.2.2.2.1, x.2.2.2.2.2.1, x.2.2.2.2.2.2.1, x.2.2.2.2.2.2.2.1, x.2.2.2.2.2.2.2.2.1, x.2.2.2.2.2.2.2.2.2) ++ (gS t ya yb y))) (cutI (wc := (gA t (yb 2) 24 y.2.2.1 ++ (gA t (xb 2) 24 x.2.2.1))) (wc' := (gA t (yb 2) 24 y.2.2.1 ++ (gA t (xb 2) 24 r3))) (ws' := (gS t xa xb (r1, r2, r3, x.2.2.2.1, x.2.2.2.2.1, x.2.2.2.2.2.1, x.2.2.2.2.2.2.1, x.2.2.2.2.2.2.2.1, x.2.2.2.2.2.2.2.2.1, x.2.2.2.2.2.2.2.2.2) ++ (gS t ya yb y))) [11, 3] hP hD hS hA rfl rfl rfl rfl) hS (fun hPc hDc => va_runSN (As := [.ref (yb 2), .ref (xb 2)]) (rest := []) ⟨hx, hb, hml, hown, hts⟩ (mtX2_copyRow l D t (yb 2) 24 y.2.2.1 (xb 2) 24 x.2.2.1 r3 h3 (by decide) (by decide) _) ⟨va_cnB 2 hts (gB kw103) rfl rfl rfl hE.2.2.1 (htB _ kw2) (by decide +kernel) ⟨Nat.le_of_ble_eq_true rfl, Nat.le_of_ble_eq_true rfl⟩, (htB _ kw102), trivial⟩ (sPc_S hPc hK hDc hE) rfl rfl hl.1 rfl (lv_room (Nat.le_of_ble_eq_true rfl)) dX1_become_30 ⟨Nat.zero_le _, Nat.zero_le _⟩) (fun H locs hP hD hS => ?_)
  refine lv_aload_n hx hb dX1_become_33 rfl (lv_at hl 1 rfl) ?_
  refine va_get (D := D) (ci := 1) (v := .ref (yb 3)) (C := RX1) (T := TX1) (N := 10) hx hb htB inlX1 hown hK hP 8 rfl rfl 3 (by decide) (htB _ kw36) (fun _ h9 => h9) rfl dX1_become_34 ?_
  refine lv_aload_n hx hb dX1_become_37 rfl (lv_at hl 0 rfl) ?_
  refine va_get (D := D) (ci := 1) (v := .ref (xb 3)) (C := RX1) (T := TX1) (N := 10) hx hb htB inlX1 hown hK hP 0 rfl rfl 3 (by decide) (htB _ kw36) (fun _ h9 => h9) rfl dX1_become_38 ?_
  obtain ⟨r4, h4, h⟩ := ob h
  refine call_v (wc := (gA t (yb 3) 24 y.2.2.2.1 ++ (gA t (xb 3) 24 x.2.2.2.1))) (wc' := (gA t (yb 3) 24 y.2.2.2.1 ++ (gA t (xb 3) 24 r4))) (ws' := (gS t xa xb (r1, r2, r3, r4, x.2.2.2.2.1, x.2.2.2.2.2.1, x.2.2.2.2.2.2.1, x.2.2.2.2.2.2.2.1, x.2.2.2.2.2.2.2.2.1, x.2.2.2.2.2.2.2.2.2) ++ (gS t ya yb y))) (cutI (wc := (gA t (yb 3) 24 y.2.2.2.1 ++ (gA t (xb 3) 24 x.2.2.2.1))) (wc' := (gA t (yb 3) 24 y.2.2.2.1 ++ (gA t (xb 3) 24 r4))) (ws' := (gS t xa xb (r1, r2, r3, r4, x.2.2.2.2.1, x.2.2.2.2.2.1, x.2.2.2.2.2.2.1, x.2.2.2.2.2.2.2.1, x.2.2.2.2.2.2.2.2.1, x.2.2.2.2.2.2.2.2.2) ++ (gS t ya yb y))) [12, 4] hP hD hS hA rfl rfl rfl rfl) hS (fun hPc hDc => va_runSN (As := [.ref (yb 3), .ref (xb 3)]) (rest := []) ⟨hx, hb, hml, hown, hts⟩ (mtX2_copyRow l D t (yb 3) 24 y.2.2.2.1 (xb 3) 24 x.2.2.2.1 r4 h4 (by decide) (by decide) _) ⟨va_cnB 2 hts (gB kw103) rfl rfl rfl hE.2.2.1 (htB _ kw2) (by decide +kernel) ⟨Nat.le_of_ble_eq_true rfl, Nat.le_of_ble_eq_true rfl⟩, (htB _ kw102), trivial⟩ (sPc_S hPc hK hDc hE) rfl rfl hl.1 rfl (lv_room (Nat.le_of_ble_eq_true rfl)) dX1_become_41 ⟨Nat.zero_le _, Nat.zero_le _⟩) (fun H locs hP hD hS => ?_)
  refine lv_aload_n hx hb dX1_become_44 rfl (lv_at hl 1 rfl) ?_
  refine va_get (D := D) (ci := 1) (v := .ref (yb 4)) (C := RX1) (T := TX1) (N := 10) hx hb htB inlX1 hown hK hP 8 rfl rfl 4 (by decide) (htB _ kw37) (fun _ h9 => h9) rfl dX1_become_45 ?_
  refine lv_aload_n hx hb dX1_become_48 rfl (lv_at hl 0 rfl) ?_
  refine va_get (D := D) (ci := 1) (v := .ref (xb 4)) (C := RX1) (T := TX1) (N := 10) hx hb htB inlX1 hown hK hP 0 rfl rfl 4 (by decide) (htB _ kw37) (fun _ h9 => h9) rfl dX1_become_49 ?_
  obtain ⟨r5, h5, h⟩ := ob h
  refine call_v (wc := (gA t (yb 4) 6 y.2.2.2.2.1 ++ (gA t (xb 4) 6 x.2.2.2.2.1))) (wc' := (gA t (yb 4) 6 y.2.2.2.2.1 ++ (gA t (xb 4) 6 r5))) (ws' := (gS t xa xb (r1, r2, r3, r4, r5, x.2.2.2.2.2.1, x.2.2.2.2.2.2.1, x.2.2.2.2.2.2.2.1, x.2.2.2.2.2.2.2.2.1, x.2.2.2.2.2.2.2.2.2) ++ (gS t ya yb y))) (cutI (wc := (gA t (yb 4) 6 y.2.2.2.2.1 ++ (gA t (xb 4) 6 x.2.2.2.2.1))) (wc' := (gA t (yb 4) 6 y.2.2.2.2.1 ++ (gA t (xb 4) 6 r5))) (ws' := (gS t xa xb (r1, r2, r3, r4, r5, x.2.2.2.2.2.1, x.2.2.2.2.2.2.1, x.2.2.2.2.2.2.2.1, x.2.2.2.2.2.2.2.2.1, x.2.2.2.2.2.2.2.2.2) ++ (gS t ya yb y))) [13, 5] hP hD hS hA rfl rfl rfl rfl) hS (fun hPc hDc => va_runSN (As := [.ref (yb 4), .ref (xb 4)]) (rest := []) ⟨hx, hb, hml, hown, hts⟩ (mtX2_copyRow l D t (yb 4) 6 y.2.2.2.2.1 (xb 4) 6 x.2.2.2.2.1 r5 h5 (by decide) (by decide) _) ⟨va_cnB 2 hts (gB kw103) rfl rfl rfl hE.2.2.1 (htB _ kw2) (by decide +kernel) ⟨Nat.le_of_ble_eq_true rfl, Nat.le_of_ble_eq_true rfl⟩, (htB _ kw102), trivial⟩ (sPc_S hPc hK hDc hE) rfl rfl hl.1 rfl (lv_room (Nat.le_of_ble_eq_true rfl)) dX1_become_52 ⟨Nat.zero_le _, Nat.zero_le _⟩) (fun H locs hP hD hS => ?_)
  refine lv_aload_n hx hb dX1_become_55 rfl (lv_at hl 1 rfl) ?_
  refine va_get (D := D) (ci := 1) (v := .ref (yb 5)) (C := RX1) (T := TX1) (N := 10) hx hb htB inlX1 hown hK hP 8 rfl rfl 5 (by decide) (htB _ kw38) (fun _ h9 => h9) rfl dX1_become_56 ?_
  refine lv_aload_n hx hb dX1_become_59 rfl (lv_at hl 0 rfl) ?_
  refine va_get (D := D) (ci := 1) (v := .ref (xb 5)) (C := RX1) (T := TX1) (N := 10) hx hb htB inlX1 hown hK hP 0 rfl rfl 5 (by decide) (htB _ kw38) (fun _ h9 => h9) rfl dX1_become_60 ?_
  obtain ⟨r6, h6, h⟩ := ob h
  refine call_v (wc := (gA t (yb 5) 4 y.2.2.2.2.2.1 ++ (gA t (xb 5) 4 x.2.2.2.2.2.1))) (wc' := (gA t (yb 5) 4 y.2.2.2.2.2.1 ++ (gA t (xb 5) 4 r6))) (ws' := (gS t xa xb (r1, r2, r3, r4, r5, r6, x.2.2.2.2.2.2.1, x.2.2.2.2.2.2.2.1, x.2.2.2.2.2.2.2.2.1, x.2.2.2.2.2.2.2.2.2) ++ (gS t ya yb y))) (cutI (wc := (gA t (yb 5) 4 y.2.2.2.2.2.1 ++ (gA t (xb 5) 4 x.2.2.2.2.2.1))) (wc' := (gA t (yb 5) 4 y.2.2.2.2.2.1 ++ (gA t (xb 5) 4 r6))) (ws' := (gS t xa xb (r1, r2, r3, r4, r5, r6, x.2.2.2.2.2.2.1, x.2.2.2.2.2.2.2.1, x.2.2.2.2.2.2.2.2.1, x.2.2.2.2.2.2.2.2.2) ++ (gS t ya yb y))) [14, 6] hP hD hS hA rfl rfl rfl rfl) hS (fun hPc hDc => va_runSN (As := [.ref (yb 5), .ref (xb 5)]) (rest := []) ⟨hx, hb, hml, hown, hts⟩ (mtX2_copyRow l D t (yb 5) 4 y.2.2.2.2.2.1 (xb 5) 4 x.2.2.2.2.2.1 r6 h6 (by decide) (by decide) _) ⟨va_cnB 2 hts (gB kw103) rfl rfl rfl hE.2.2.1 (htB _ kw2) (by decide +kernel) ⟨Nat.le_of_ble_eq_true rfl, Nat.le_of_ble_eq_true rfl⟩, (htB _ kw102), trivial⟩ (sPc_S hPc hK hDc hE) rfl rfl hl.1 rfl (lv_room (Nat.le_of_ble_eq_true rfl)) dX1_become_63 ⟨Nat.zero_le _, Nat.zero_le _⟩) (fun H locs hP hD hS => ?_)
  refine lv_aload_n hx hb dX1_become_66 rfl (lv_at hl 1 rfl) ?_
  refine va_get (D := D) (ci := 1) (v := .ref (yb 6)) (C := RX1) (T := TX1) (N := 10) hx hb htB inlX1 hown hK hP 8 rfl rfl 6 (by decide) (htB _ kw39) (fun _ h9 => h9) rfl dX1_become_67 ?_
  refine lv_aload_n hx hb dX1_become_70 rfl (lv_at hl 0 rfl) ?_
  refine va_get (D := D) (ci := 1) (v := .ref (xb 6)) (C := RX1) (T := TX1) (N := 10) hx hb htB inlX1 hown hK hP 0 rfl rfl 6 (by decide) (htB _ kw39) (fun _ h9 => h9) rfl dX1_become_71 ?_
  obtain ⟨r7, h7, h⟩ := ob h
  refine call_v (wc := (gA t (yb 6) 6 y.2.2.2.2.2.2.1 ++ (gA t (xb 6) 6 x.2.2.2.2.2.2.1))) (wc' := (gA t (yb 6) 6 y.2.2.2.2.2.2.1 ++ (gA t (xb 6) 6 r7))) (ws' := (gS t xa xb (r1, r2, r3, r4, r5, r6, r7, x.2.2.2.2.2.2.2.1, x.2.2.2.2.2.2.2.2.1, x.2.2.2.2.2.2.2.2.2) ++ (gS t ya yb y))) (cutI (wc := (gA t (yb 6) 6 y.2.2.2.2.2.2.1 ++ (gA t (xb 6) 6 x.2.2.2.2.2.2.1))) (wc' := (gA t (yb 6) 6 y.2.2.2.2.2.2.1 ++ (gA t (xb 6) 6 r7))) (ws' := (gS t xa xb (r1, r2, r3, r4, r5, r6, r7, x.2.2.2.2.2.2.2.1, x.2.2.2.2.2.2.2.2.1, x.2.2.2.2.2.2.2.2.2) ++ (gS t ya yb y))) [15, 7] hP hD hS hA rfl rfl rfl rfl) hS (fun hPc hDc => va_runSN (As := [.ref (yb 6), .ref (xb 6)]) (rest := []) ⟨hx, hb, hml, hown, hts⟩ (mtX2_copyRow l D t (yb 6) 6 y.2.2.2.2.2.2.1 (xb 6) 6 x.2.2.2.2.2.2.1 r7 h7 (by decide) (by decide) _) ⟨va_cnB 2 hts (gB kw103) rfl rfl rfl hE.2.2.1 (htB _ kw2) (by decide +kernel) ⟨Nat.le_of_ble_eq_true rfl, Nat.le_of_ble_eq_true rfl⟩, (htB _ kw102), trivial⟩ (sPc_S hPc hK hDc hE) rfl rfl hl.1 rfl (lv_room (Nat.le_of_ble_eq_true rfl)) dX1_become_74 ⟨Nat.zero_le _, Nat.zero_le _⟩) (fun H locs hP hD hS => ?_)
  refine lv_aload_n hx hb dX1_become_77 rfl (lv_at hl 0 rfl) ?_
  refine lv_aload_n hx hb dX1_become_78 rfl (lv_at hl 1 rfl) ?_
  refine va_get (D := D) (ci := 1) (v := .int y.2.2.2.2.2.2.2.1) (C := RX1) (T := TX1) (N := 10) hx hb htB inlX1 hown hK hP 8 rfl rfl 7 (by decide) (htB _ kw40) (fun _ h9 => h9) rfl dX1_become_79 ?_
  refine va_put (D := D) (ci := 1) (v := .int y.2.2.2.2.2.2.2.1) (ty := .int) (C := RX1) (T := TX1) (N := 10) hx hb htB inlX1 tyX1 tyX1_ok nmX1 hown hK hP hD hS 0 rfl rfl 7 (by decide) (htB _ kw40) (fun _ h9 => h9) rfl (by decide +kernel) rfl rfl (Nat.le_of_ble_eq_true rfl) dX1_become_82 (fun H locs hP hD hS => ?_)
  have hP : va_P D vwCl (gS t xa xb (r1, r2, r3, r4, r5, r6, r7, y.2.2.2.2.2.2.2.1, x.2.2.2.2.2.2.2.2.1, x.2.2.2.2.2.2.2.2.2) ++ (gS t ya yb y)) H := hP
  have hD : va_D A (gS t xa xb (r1, r2, r3, r4, r5, r6, r7, y.2.2.2.2.2.2.2.1, x.2.2.2.2.2.2.2.2.1, x.2.2.2.2.2.2.2.2.2) ++ (gS t ya yb y)) := hD
  refine lv_aload_n hx hb dX1_become_85 rfl (lv_at hl 0 rfl) ?_
  refine lv_aload_n hx hb dX1_become_86 rfl (lv_at hl 1 rfl) ?_
  refine va_get (D := D) (ci := 1) (v := .int y.2.2.2.2.2.2.2.2.1) (C := RX1) (T := TX1) (N := 10) hx hb htB inlX1 hown hK hP 8 rfl rfl 8 (by decide) (htB _ kw41) (fun _ h9 => h9) rfl dX1_become_87 ?_
  refine va_put (D := D) (ci := 1) (v := .int y.2.2.2.2.2.2.2.2.1) (ty := .int) (C := RX1) (T := TX1) (N := 10) hx hb htB inlX1 tyX1 tyX1_ok nmX1 hown hK hP hD hS 0 rfl rfl 8 (by decide) (htB _ kw41) (fun _ h9 => h9) rfl (by decide +kernel) rfl rfl (Nat.le_of_ble_eq_true rfl) dX1_become_90 (fun H locs hP hD hS => ?_)
  have hP : va_P D vwCl (gS t xa xb (r1, r2, r3, r4, r5, r6, r7, y.2.2.2.2.2.2.2.1, y.2.2.2.2.2.2.2.2.1, x.2.2.2.2.2.2.2.2.2) ++ (gS t ya yb y)) H := hP
  have hD : va_D A (gS t xa xb (r1, r2, r3, r4, r5, r6, r7, y.2.2.2.2.2.2.2.1, y.2.2.2.2.2.2.2.2.1, x.2.2.2.2.2.2.2.2.2) ++ (gS t ya yb y)) := hD
  refine lv_aload_n hx hb dX1_become_93 rfl (lv_at hl 0 rfl) ?_
  refine lv_aload_n hx hb dX1_become_94 rfl (lv_at hl 1 rfl) ?_
  refine va_get (D := D) (ci := 1) (v := .int y.2.2.2.2.2.2.2.2.2) (C := RX1) (T := TX1) (N := 10) hx hb htB inlX1 hown hK hP 8 rfl rfl 9 (by decide) (htB _ kw42) (fun _ h9 => h9) rfl dX1_become_95 ?_
  refine va_put (D := D) (ci := 1) (v := .int y.2.2.2.2.2.2.2.2.2) (ty := .int) (C := RX1) (T := TX1) (N := 10) hx hb htB inlX1 tyX1 tyX1_ok nmX1 hown hK hP hD hS 0 rfl rfl 9 (by decide) (htB _ kw42) (fun _ h9 => h9) rfl (by decide +kernel) rfl rfl (Nat.le_of_ble_eq_true rfl) dX1_become_98 (fun H locs hP hD hS => ?_)
  have hP : va_P D vwCl (gS t xa xb (r1, r2, r3, r4, r5, r6, r7, y.2.2.2.2.2.2.2.1, y.2.2.2.2.2.2.2.2.1, y.2.2.2.2.2.2.2.2.2) ++ (gS t ya yb y)) H := hP
  have hD : va_D A (gS t xa xb (r1, r2, r3, r4, r5, r6, r7, y.2.2.2.2.2.2.2.1, y.2.2.2.2.2.2.2.2.1, y.2.2.2.2.2.2.2.2.2) ++ (gS t ya yb y)) := hD
  obtain rfl := os h
  exact ret_v hx hb hr hlocks hP hK hD hS dX1_become_101

theorem dX1_dragsOf_0 : decode cX1_dragsOf 0 = .ok (.iload_n 1, 1) := by decide +kernel
theorem dX1_dragsOf_1 : decode cX1_dragsOf 1 = .ok (.ifCond .ne 10, 3) := by decide +kernel
theorem dX1_dragsOf_4 : decode cX1_dragsOf 4 = .ok (.aload_n 0, 1) := by decide +kernel
theorem dX1_dragsOf_5 : decode cX1_dragsOf 5 = .ok (.getfield 18, 3) := by decide +kernel
theorem dX1_dragsOf_8 : decode cX1_dragsOf 8 = .ok (.goto 7, 3) := by decide +kernel
theorem dX1_dragsOf_11 : decode cX1_dragsOf 11 = .ok (.aload_n 0, 1) := by decide +kernel
theorem dX1_dragsOf_12 : decode cX1_dragsOf 12 = .ok (.getfield 21, 3) := by decide +kernel
theorem dX1_dragsOf_15 : decode cX1_dragsOf 15 = .ok (.areturn, 1) := by decide +kernel
abbrev zX1_dragsOf : List Cond := .code yX1_dragsOf cX1_dragsOf 2 (some (.array .int)) :: BIG
def fX1_dragsOf (x : ShT) (cu : Int32) : Option (Unit) := (if cu = 0 then some () else some ())
set_option maxHeartbeats 4000000 in
set_option maxRecDepth 100000 in
theorem mtX1_dragsOf (l : Launch) (D : va_G) (t : Nat → ClassId) (xa : Nat) (xb : Nat → Nat) (x : ShT) (cu : Int32) (out : Unit) (h : fX1_dragsOf x cu = some out)  (sz : Nat) : Met l yX1_dragsOf zX1_dragsOf ({ frames := 0, cells := 0, slots := 0, locals := 0 }) (sPc D t (gS t xa xb x) sz [.ref xa, .int cu]) (qR D t (gS t xa xb x) (if cu = 0 then xb 2 else xb 3) (va_A (gS t xa xb x) sz)) 0 0 (va_A (gS t xa xb x) sz) := by
  refine met_of (Qf := fun A => qR D t (gS t xa xb x) (if cu = 0 then xb 2 else xb 3) A) (cc := cX1_dragsOf) (maxL := 2) (ret := (some (.array .int))) (by decide) rfl (Nat.le_of_ble_eq_true rfl) ?_
  intro p e s m args below meth c A hx hb hr hml hts hown hlocks hA hP hK hD hE hS ls hl
  have htB : ∀ w ∈ BIG, w.before args s = true := fun w h => hts w (List.mem_cons_of_mem _ h)
  have hown : s.vm.findClass RX1 = some m.cls := hown
  have hl : lv_has ls 2 [(0, .ref xa), (1, .int cu)] := hl
  unfold fX1_dragsOf at h
  refine lv_iload_n hx hb dX1_dragsOf_0 rfl (lv_at hl 1 rfl) ?_
  refine lv_if_ne (tgt := 11) hx hb dX1_dragsOf_1 (by decide) (fun c1 => ?_) (fun c1 => ?_)
  · have h := it_n c1 h
    refine lv_aload_n hx hb dX1_dragsOf_11 rfl (lv_at hl 0 rfl) ?_
    refine va_get (D := D) (ci := 1) (v := .ref (xb 3)) (C := RX1) (T := TX1) (N := 10) hx hb htB inlX1 hown hK hP 0 rfl rfl 3 (by decide) (htB _ kw36) (fun _ h9 => h9) rfl dX1_dragsOf_12 ?_
    obtain rfl := os h
    exact ret_r (v := xb 3) (by split <;> first | rfl | contradiction) hx hb hr (Or.inr ⟨_, rfl⟩) hlocks hP hK hD hS dX1_dragsOf_15
  · have h := it_p c1 h
    refine lv_aload_n hx hb dX1_dragsOf_4 rfl (lv_at hl 0 rfl) ?_
    refine va_get (D := D) (ci := 1) (v := .ref (xb 2)) (C := RX1) (T := TX1) (N := 10) hx hb htB inlX1 hown hK hP 0 rfl rfl 2 (by decide) (htB _ kw35) (fun _ h9 => h9) rfl dX1_dragsOf_5 ?_
    refine lv_goto (tgt := 15) hx hb dX1_dragsOf_8 (by decide) ?_
    obtain rfl := os h
    exact ret_r (v := xb 2) (by split <;> first | rfl | contradiction) hx hb hr (Or.inr ⟨_, rfl⟩) hlocks hP hK hD hS dX1_dragsOf_15
end
section
theorem dX1_ticksWithoutDrag_0 : decode cX1_ticksWithoutDrag 0 = .ok (.aload_n 0, 1) := by decide +kernel
theorem dX1_ticksWithoutDrag_1 : decode cX1_ticksWithoutDrag 1 = .ok (.getfield 9, 3) := by decide +kernel
theorem dX1_ticksWithoutDrag_4 : decode cX1_ticksWithoutDrag 4 = .ok (.iload_n 1, 1) := by decide +kernel
theorem dX1_ticksWithoutDrag_5 : decode cX1_ticksWithoutDrag 5 = .ok (.invokestatic 47, 3) := by decide +kernel
theorem dX1_ticksWithoutDrag_8 : decode cX1_ticksWithoutDrag 8 = .ok (.istore_n 2, 1) := by decide +kernel
theorem dX1_ticksWithoutDrag_9 : decode cX1_ticksWithoutDrag 9 = .ok (.iload_n 2, 1) := by decide +kernel
theorem dX1_ticksWithoutDrag_10 : decode cX1_ticksWithoutDrag 10 = .ok (.ifCond .le 11, 3) := by decide +kernel
theorem dX1_ticksWithoutDrag_13 : decode cX1_ticksWithoutDrag 13 = .ok (.sipush 1000, 3) := by decide +kernel
theorem dX1_ticksWithoutDrag_16 : decode cX1_ticksWithoutDrag 16 = .ok (.iload_n 2, 1) := by decide +kernel
theorem dX1_ticksWithoutDrag_17 : decode cX1_ticksWithoutDrag 17 = .ok (.idiv, 1) := by decide +kernel
theorem dX1_ticksWithoutDrag_18 : decode cX1_ticksWithoutDrag 18 = .ok (.goto 4, 3) := by decide +kernel
theorem dX1_ticksWithoutDrag_21 : decode cX1_ticksWithoutDrag 21 = .ok (.iconst 0, 1) := by decide +kernel
theorem dX1_ticksWithoutDrag_22 : decode cX1_ticksWithoutDrag 22 = .ok (.istore_n 3, 1) := by decide +kernel
theorem dX1_ticksWithoutDrag_23 : decode cX1_ticksWithoutDrag 23 = .ok (.iload_n 3, 1) := by decide +kernel
theorem dX1_ticksWithoutDrag_24 : decode cX1_ticksWithoutDrag 24 = .ok (.aload_n 0, 1) := by decide +kernel
theorem dX1_ticksWithoutDrag_25 : decode cX1_ticksWithoutDrag 25 = .ok (.getfield 27, 3) := by decide +kernel
theorem dX1_ticksWithoutDrag_28 : decode cX1_ticksWithoutDrag 28 = .ok (.iconst 0, 1) := by decide +kernel
theorem dX1_ticksWithoutDrag_29 : decode cX1_ticksWithoutDrag 29 = .ok (.invokestatic 47, 3) := by decide +kernel
theorem dX1_ticksWithoutDrag_32 : decode cX1_ticksWithoutDrag 32 = .ok (.aload_n 0, 1) := by decide +kernel
theorem dX1_ticksWithoutDrag_33 : decode cX1_ticksWithoutDrag 33 = .ok (.getfield 15, 3) := by decide +kernel
theorem dX1_ticksWithoutDrag_36 : decode cX1_ticksWithoutDrag 36 = .ok (.iload_n 1, 1) := by decide +kernel
theorem dX1_ticksWithoutDrag_37 : decode cX1_ticksWithoutDrag 37 = .ok (.invokestatic 47, 3) := by decide +kernel
theorem dX1_ticksWithoutDrag_40 : decode cX1_ticksWithoutDrag 40 = .ok (.bipush 10, 2) := by decide +kernel
theorem dX1_ticksWithoutDrag_42 : decode cX1_ticksWithoutDrag 42 = .ok (.idiv, 1) := by decide +kernel
theorem dX1_ticksWithoutDrag_43 : decode cX1_ticksWithoutDrag 43 = .ok (.imul, 1) := by decide +kernel
theorem dX1_ticksWithoutDrag_44 : decode cX1_ticksWithoutDrag 44 = .ok (.iadd, 1) := by decide +kernel
theorem dX1_ticksWithoutDrag_45 : decode cX1_ticksWithoutDrag 45 = .ok (.ireturn, 1) := by decide +kernel
abbrev zX1_ticksWithoutDrag : List Cond := .code yX1_ticksWithoutDrag cX1_ticksWithoutDrag 4 (some .int) :: BIG
def fX1_ticksWithoutDrag_j22 (x : ShT)  (v22 : Int32 × Int32) : Option (Int32) := (fX2_at 4 x.2.2.2.2.2.1 0).bind (fun r4 => (fX2_at 2 x.2.1 v22.1).bind (fun r5 => some (v22.2 + (r4 * (r5 / 10)))))
def fX1_ticksWithoutDrag (x : ShT) (cu : Int32) : Option (Int32) := (fX2_at 2 x.1 cu).bind (fun r1 => (if r1 ≤ 0 then fX1_ticksWithoutDrag_j22 x (cu, 0) else gd (nz r1) (fX1_ticksWithoutDrag_j22 x (cu, 1000 / r1))))
set_option maxHeartbeats 4000000 in
set_option maxRecDepth 100000 in
theorem mtX1_ticksWithoutDrag (l : Launch) (D : va_G) (t : Nat → ClassId) (xa : Nat) (xb : Nat → Nat) (x : ShT) (cu : Int32) (out : Int32) (h : fX1_ticksWithoutDrag x cu = some out)  (sz : Nat) : Met l yX1_ticksWithoutDrag zX1_ticksWithoutDrag ({ frames := 1, cells := 0, slots := 0, locals := 21 }) (sPc D t (gS t xa xb x) sz [.ref xa, .int cu]) (qI D t (gS t xa xb x) out (va_A (gS t xa xb x) sz)) 0 0 (va_A (gS t xa xb x) sz) := by
  refine met_of (Qf := fun A => qI D t (gS t xa xb x) out A) (cc := cX1_ticksWithoutDrag) (maxL := 4) (ret := some .int) (by decide) rfl (Nat.le_of_ble_eq_true rfl) ?_
  intro p e s m args below meth c A hx hb hr hml hts hown hlocks hA hP hK hD hE hS ls hl
  have htB : ∀ w ∈ BIG, w.before args s = true := fun w h => hts w (List.mem_cons_of_mem _ h)
  have hown : s.vm.findClass RX1 = some m.cls := hown
  have hl : lv_has ls 4 [(0, .ref xa), (1, .int cu)] := hl
  unfold fX1_ticksWithoutDrag at h
  have J22 : ∀ v22 : Int32 × Int32, fX1_ticksWithoutDrag_j22 x v22 = some out → ∀ (H : Heap) (locs : List Loc), va_P D vwCl (gS t xa xb x) H → va_D A (gS t xa xb x) → va_S A s.heap H locs → ∀ ls : Array Slot, lv_has ls 4 [(0, .ref xa), (1, .int v22.1)] → W p l e ({ frames := 1, cells := 0, slots := 0, locals := 21 }) s m args below meth c H locs 0 0 (MQ below (qI D t (gS t xa xb x) out A) args s 0 0 A) (F0 m 22 ls [.int v22.2]) := by
    intro v22 h H locs hP hD hS ls hl
    unfold fX1_ticksWithoutDrag_j22 at h
    refine lv_istore_n (lv' := [(3, .int v22.2), (0, .ref xa), (1, .int v22.1)]) hx hb dX1_ticksWithoutDrag_22 rfl hl (by decide) rfl (fun ls hl => ?_)
    refine lv_iload_n hx hb dX1_ticksWithoutDrag_23 rfl (lv_at hl 0 rfl) ?_
    refine lv_aload_n hx hb dX1_ticksWithoutDrag_24 rfl (lv_at hl 1 rfl) ?_
    refine va_get (D := D) (ci := 1) (v := .ref (xb 5)) (C := RX1) (T := TX1) (N := 10) hx hb htB inlX1 hown hK hP 0 rfl rfl 5 (by decide) (htB _ kw38) (fun _ h9 => h9) rfl dX1_ticksWithoutDrag_25 ?_
    refine lv_iconst (v := 0) hx hb dX1_ticksWithoutDrag_28 (by decide) ?_
    obtain ⟨r4, h4, h⟩ := ob h
    refine call_i (v := r4) (wc := (gA t (xb 5) 4 x.2.2.2.2.2.1)) (wc' := (gA t (xb 5) 4 x.2.2.2.2.2.1)) (ws' := (gS t xa xb x)) (cutI (wc := (gA t (xb 5) 4 x.2.2.2.2.2.1)) (wc' := (gA t (xb 5) 4 x.2.2.2.2.2.1)) (ws' := (gS t xa xb x)) [6] hP hD hS hA rfl rfl rfl rfl) hS (fun hPc hDc => va_runSN (As := [.ref (xb 5), .int 0]) (rest := [.int v22.2]) ⟨hx, hb, hml, hown, hts⟩ (mtX2_at l D t (xb 5) 4 x.2.2.2.2.2.1 0 r4 h4 (by decide) _) ⟨va_cnB 2 hts (gB kw106) rfl rfl rfl hE.2.2.2.1 (htB _ kw2) (by decide +kernel) ⟨Nat.le_of_ble_eq_true rfl, Nat.le_of_ble_eq_true rfl⟩, (htB _ kw105), trivial⟩ (sPc_S hPc hK hDc hE) rfl rfl hl.1 rfl (lv_room (Nat.le_of_ble_eq_true rfl)) dX1_ticksWithoutDrag_29 ⟨Nat.zero_le _, Nat.zero_le _⟩) (fun H locs hP hD hS => ?_)
    refine lv_aload_n hx hb dX1_ticksWithoutDrag_32 rfl (lv_at hl 1 rfl) ?_
    refine va_get (D := D) (ci := 1) (v := .ref (xb 1)) (C := RX1) (T := TX1) (N := 10) hx hb htB inlX1 hown hK hP 0 rfl rfl 1 (by decide) (htB _ kw34) (fun _ h9 => h9) rfl dX1_ticksWithoutDrag_33 ?_
    refine lv_iload_n hx hb dX1_ticksWithoutDrag_36 rfl (lv_at hl 2 rfl) ?_
    obtain ⟨r5, h5, h⟩ := ob h
    refine call_i (v := r5) (wc := (gA t (xb 1) 2 x.2.1)) (wc' := (gA t (xb 1) 2 x.2.1)) (ws' := (gS t xa xb x)) (cutI (wc := (gA t (xb 1) 2 x.2.1)) (wc' := (gA t (xb 1) 2 x.2.1)) (ws' := (gS t xa xb x)) [2] hP hD hS hA rfl rfl rfl rfl) hS (fun hPc hDc => va_runSN (As := [.ref (xb 1), .int v22.1]) (rest := [.int r4, .int v22.2]) ⟨hx, hb, hml, hown, hts⟩ (mtX2_at l D t (xb 1) 2 x.2.1 v22.1 r5 h5 (by decide) _) ⟨va_cnB 2 hts (gB kw106) rfl rfl rfl hE.2.2.2.1 (htB _ kw2) (by decide +kernel) ⟨Nat.le_of_ble_eq_true rfl, Nat.le_of_ble_eq_true rfl⟩, (htB _ kw105), trivial⟩ (sPc_S hPc hK hDc hE) rfl rfl hl.1 rfl (lv_room (Nat.le_of_ble_eq_true rfl)) dX1_ticksWithoutDrag_37 ⟨Nat.zero_le _, Nat.zero_le _⟩) (fun H locs hP hD hS => ?_)
    refine lv_bipush (v := 10) hx hb dX1_ticksWithoutDrag_40 (by decide) ?_
    refine lv_idiv hx hb dX1_ticksWithoutDrag_42 (by decide) ?_
    refine lv_imul hx hb dX1_ticksWithoutDrag_43 ?_
    refine lv_iadd hx hb dX1_ticksWithoutDrag_44 ?_
    obtain rfl := os h
    exact ret_i hx hb hr hlocks hP hK hD hS dX1_ticksWithoutDrag_45
  refine lv_aload_n hx hb dX1_ticksWithoutDrag_0 rfl (lv_at hl 0 rfl) ?_
  refine va_get (D := D) (ci := 1) (v := .ref (xb 0)) (C := RX1) (T := TX1) (N := 10) hx hb htB inlX1 hown hK hP 0 rfl rfl 0 (by decide) (htB _ kw33) (fun _ h9 => h9) rfl dX1_ticksWithoutDrag_1 ?_
  refine lv_iload_n hx hb dX1_ticksWithoutDrag_4 rfl (lv_at hl 1 rfl) ?_
  obtain ⟨r1, h1, h⟩ := ob h
  refine call_i (v := r1) (wc := (gA t (xb 0) 2 x.1)) (wc' := (gA t (xb 0) 2 x.1)) (ws' := (gS t xa xb x)) (cutI (wc := (gA t (xb 0) 2 x.1)) (wc' := (gA t (xb 0) 2 x.1)) (ws' := (gS t xa xb x)) [1] hP hD hS hA rfl rfl rfl rfl) hS (fun hPc hDc => va_runSN (As := [.ref (xb 0), .int cu]) (rest := []) ⟨hx, hb, hml, hown, hts⟩ (mtX2_at l D t (xb 0) 2 x.1 cu r1 h1 (by decide) _) ⟨va_cnB 2 hts (gB kw106) rfl rfl rfl hE.2.2.2.1 (htB _ kw2) (by decide +kernel) ⟨Nat.le_of_ble_eq_true rfl, Nat.le_of_ble_eq_true rfl⟩, (htB _ kw105), trivial⟩ (sPc_S hPc hK hDc hE) rfl rfl hl.1 rfl (lv_room (Nat.le_of_ble_eq_true rfl)) dX1_ticksWithoutDrag_5 ⟨Nat.zero_le _, Nat.zero_le _⟩) (fun H locs hP hD hS => ?_)
  refine lv_istore_n (lv' := [(2, .int r1), (0, .ref xa), (1, .int cu)]) hx hb dX1_ticksWithoutDrag_8 rfl hl (by decide) rfl (fun ls hl => ?_)
  refine lv_iload_n hx hb dX1_ticksWithoutDrag_9 rfl (lv_at hl 0 rfl) ?_
  refine lv_if_le (tgt := 21) hx hb dX1_ticksWithoutDrag_10 (by decide) (fun c2 => ?_) (fun c2 => ?_)
  · have h := it_p c2 h
    refine lv_iconst (v := 0) hx hb dX1_ticksWithoutDrag_21 (by decide) ?_
    exact J22 (cu, 0) h _ _ hP hD hS _ (lv_sub hl [1, 2] rfl)
  · have h := it_n c2 h
    refine lv_sipush (v := 1000) hx hb dX1_ticksWithoutDrag_13 (by decide) ?_
    refine lv_iload_n hx hb dX1_ticksWithoutDrag_16 rfl (lv_at hl 0 rfl) ?_
    obtain ⟨g3, h⟩ := og h
    refine lv_idiv hx hb dX1_ticksWithoutDrag_17 (nz_ne g3) ?_
    refine lv_goto (tgt := 22) hx hb dX1_ticksWithoutDrag_18 (by decide) ?_
    exact J22 (cu, 1000 / r1) h _ _ hP hD hS _ (lv_sub hl [1, 2] rfl)

theorem dX1_ticksForAll_0 : decode cX1_ticksForAll 0 = .ok (.aload_n 0, 1) := by decide +kernel
theorem dX1_ticksForAll_1 : decode cX1_ticksForAll 1 = .ok (.iload_n 1, 1) := by decide +kernel
theorem dX1_ticksForAll_2 : decode cX1_ticksForAll 2 = .ok (.invokevirtual 51, 3) := by decide +kernel
theorem dX1_ticksForAll_5 : decode cX1_ticksForAll 5 = .ok (.astore_n 2, 1) := by decide +kernel
theorem dX1_ticksForAll_6 : decode cX1_ticksForAll 6 = .ok (.bipush 24, 2) := by decide +kernel
theorem dX1_ticksForAll_8 : decode cX1_ticksForAll 8 = .ok (.aload_n 0, 1) := by decide +kernel
theorem dX1_ticksForAll_9 : decode cX1_ticksForAll 9 = .ok (.iload_n 1, 1) := by decide +kernel
theorem dX1_ticksForAll_10 : decode cX1_ticksForAll 10 = .ok (.invokevirtual 55, 3) := by decide +kernel
theorem dX1_ticksForAll_13 : decode cX1_ticksForAll 13 = .ok (.imul, 1) := by decide +kernel
theorem dX1_ticksForAll_14 : decode cX1_ticksForAll 14 = .ok (.istore_n 3, 1) := by decide +kernel
theorem dX1_ticksForAll_15 : decode cX1_ticksForAll 15 = .ok (.iconst 0, 1) := by decide +kernel
theorem dX1_ticksForAll_16 : decode cX1_ticksForAll 16 = .ok (.istore 4, 2) := by decide +kernel
theorem dX1_ticksForAll_18 : decode cX1_ticksForAll 18 = .ok (.iload 4, 2) := by decide +kernel
theorem dX1_ticksForAll_20 : decode cX1_ticksForAll 20 = .ok (.aload_n 2, 1) := by decide +kernel
theorem dX1_ticksForAll_21 : decode cX1_ticksForAll 21 = .ok (.arraylength, 1) := by decide +kernel
theorem dX1_ticksForAll_22 : decode cX1_ticksForAll 22 = .ok (.if_icmp .ge 16, 3) := by decide +kernel
theorem dX1_ticksForAll_25 : decode cX1_ticksForAll 25 = .ok (.iload_n 3, 1) := by decide +kernel
theorem dX1_ticksForAll_26 : decode cX1_ticksForAll 26 = .ok (.aload_n 2, 1) := by decide +kernel
theorem dX1_ticksForAll_27 : decode cX1_ticksForAll 27 = .ok (.iload 4, 2) := by decide +kernel
theorem dX1_ticksForAll_29 : decode cX1_ticksForAll 29 = .ok (.iaload, 1) := by decide +kernel
theorem dX1_ticksForAll_30 : decode cX1_ticksForAll 30 = .ok (.iadd, 1) := by decide +kernel
theorem dX1_ticksForAll_31 : decode cX1_ticksForAll 31 = .ok (.istore_n 3, 1) := by decide +kernel
theorem dX1_ticksForAll_32 : decode cX1_ticksForAll 32 = .ok (.iinc 4 1, 3) := by decide +kernel
theorem dX1_ticksForAll_35 : decode cX1_ticksForAll 35 = .ok (.goto (-17), 3) := by decide +kernel
theorem dX1_ticksForAll_38 : decode cX1_ticksForAll 38 = .ok (.iload_n 3, 1) := by decide +kernel
theorem dX1_ticksForAll_39 : decode cX1_ticksForAll 39 = .ok (.ireturn, 1) := by decide +kernel
abbrev zX1_ticksForAll : List Cond := .code yX1_ticksForAll cX1_ticksForAll 5 (some .int) :: BIG
def fX1_ticksForAll_l18 (x : ShT)  (K18 : (Int32 × Int32) → Option (Int32)) (v18 : Int32 × Int32) : Option (Int32) := (if 24 ≤ v18.2 then some v18.1 else gd (pin v18.2 24) (K18 (v18.1 + (x.2.2.1 (Int32.toNatClampNeg v18.2)), v18.2 + 1)))
def fX1_ticksForAll_l18_1 (x : ShT)  (K18_1 : (Int32 × Int32) → Option (Int32)) (v18_1 : Int32 × Int32) : Option (Int32) := (if 24 ≤ v18_1.2 then some v18_1.1 else gd (pin v18_1.2 24) (K18_1 (v18_1.1 + (x.2.2.2.1 (Int32.toNatClampNeg v18_1.2)), v18_1.2 + 1)))
def fX1_ticksForAll (x : ShT) (cu : Int32) : Option (Int32) := (fX1_dragsOf x cu).bind (fun r1 => (if cu = 0 then (fX1_ticksWithoutDrag x cu).bind (fun r3 => lp (fX1_ticksForAll_l18 x) 2000 (24 * r3, 0)) else (fX1_ticksWithoutDrag x cu).bind (fun r4 => lp (fX1_ticksForAll_l18_1 x) 2000 (24 * r4, 0))))
set_option maxHeartbeats 4000000 in
set_option maxRecDepth 100000 in
theorem mtX1_ticksForAll (l : Launch) (D : va_G) (t : Nat → ClassId) (xa : Nat) (xb : Nat → Nat) (x : ShT) (cu : Int32) (out : Int32) (h : fX1_ticksForAll x cu = some out)  (sz : Nat) : Met l yX1_ticksForAll zX1_ticksForAll ({ frames := 2, cells := 0, slots := 0, locals := 44 }) (sPc D t (gS t xa xb x) sz [.ref xa, .int cu]) (qI D t (gS t xa xb x) out (va_A (gS t xa xb x) sz)) 0 0 (va_A (gS t xa xb x) sz) := by
  refine met_of (Qf := fun A => qI D t (gS t xa xb x) out A) (cc := cX1_ticksForAll) (maxL := 5) (ret := some .int) (by decide) rfl (Nat.le_of_ble_eq_true rfl) ?_
  intro p e s m args below meth c A hx hb hr hml hts hown hlocks hA hP hK hD hE hS ls hl
  have htB : ∀ w ∈ BIG, w.before args s = true := fun w h => hts w (List.mem_cons_of_mem _ h)
  have hown : s.vm.findClass RX1 = some m.cls := hown
  have hl : lv_has ls 5 [(0, .ref xa), (1, .int cu)] := hl
  unfold fX1_ticksForAll at h
  have J18_1 : ∀ (fu18_1 : Nat) (v18_1 : Int32 × Int32), lp (fX1_ticksForAll_l18_1 x) fu18_1 v18_1 = some out → ∀ (H : Heap) (locs : List Loc), va_P D vwCl (gS t xa xb x) H → va_D A (gS t xa xb x) → va_S A s.heap H locs → ∀ ls : Array Slot, lv_has ls 5 [(2, .ref (xb 3)), (3, .int v18_1.1), (4, .int v18_1.2)] → W p l e ({ frames := 2, cells := 0, slots := 0, locals := 44 }) s m args below meth c H locs 0 0 (MQ below (qI D t (gS t xa xb x) out A) args s 0 0 A) (F0 m 18 ls []) := by
    intro fu18_1
    induction fu18_1 with
    | zero => intro v18_1 h; cases h
    | succ fu18_1 ih18_1 =>
      intro v18_1 h H locs hP hD hS ls hl
      have h : fX1_ticksForAll_l18_1 x (lp (fX1_ticksForAll_l18_1 x) fu18_1) v18_1 = some out := h
      unfold fX1_ticksForAll_l18_1 at h
      refine lv_iload hx hb dX1_ticksForAll_18 (lv_at hl 2 rfl) ?_
      refine lv_aload_n hx hb dX1_ticksForAll_20 rfl (lv_at hl 0 rfl) ?_
      refine va_alen (v := 24) hx hb hK hP 4 0 rfl rfl rfl dX1_ticksForAll_21 ?_
      refine lv_icmp_ge (tgt := 38) hx hb dX1_ticksForAll_22 (by decide) (fun c7 => ?_) (fun c7 => ?_)
      · have h := it_p c7 h
        refine lv_iload_n hx hb dX1_ticksForAll_38 rfl (lv_at hl 1 rfl) ?_
        obtain rfl := os h
        exact ret_i hx hb hr hlocks hP hK hD hS dX1_ticksForAll_39
      · have h := it_n c7 h
        refine lv_iload_n hx hb dX1_ticksForAll_25 rfl (lv_at hl 1 rfl) ?_
        refine lv_aload_n hx hb dX1_ticksForAll_26 rfl (lv_at hl 0 rfl) ?_
        refine lv_iload hx hb dX1_ticksForAll_27 (lv_at hl 2 rfl) ?_
        obtain ⟨g8, h⟩ := og h
        refine va_iald hx hb hK hP 4 0 rfl rfl (pin_in g8) dX1_ticksForAll_29 ?_
        refine lv_iadd hx hb dX1_ticksForAll_30 ?_
        refine lv_istore_n (lv' := [(3, .int (v18_1.1 + (x.2.2.2.1 (Int32.toNatClampNeg v18_1.2)))), (2, .ref (xb 3)), (4, .int v18_1.2)]) hx hb dX1_ticksForAll_31 rfl hl (by decide) rfl (fun ls hl => ?_)
        refine lv_iinc (v := v18_1.2 + 1) (lv' := [(4, .int (v18_1.2 + 1)), (3, .int (v18_1.1 + (x.2.2.2.1 (Int32.toNatClampNeg v18_1.2)))), (2, .ref (xb 3))]) hx hb dX1_ticksForAll_32 hl (k := 2) rfl rfl (by decide) rfl (fun ls hl => ?_)
        refine lv_goto (tgt := 18) hx hb dX1_ticksForAll_35 (by decide) ?_
        exact ih18_1 (v18_1.1 + (x.2.2.2.1 (Int32.toNatClampNeg v18_1.2)), v18_1.2 + 1) h _ _ hP hD hS _ (lv_sub hl [2, 1, 0] rfl)
  have J18 : ∀ (fu18 : Nat) (v18 : Int32 × Int32), lp (fX1_ticksForAll_l18 x) fu18 v18 = some out → ∀ (H : Heap) (locs : List Loc), va_P D vwCl (gS t xa xb x) H → va_D A (gS t xa xb x) → va_S A s.heap H locs → ∀ ls : Array Slot, lv_has ls 5 [(2, .ref (xb 2)), (3, .int v18.1), (4, .int v18.2)] → W p l e ({ frames := 2, cells := 0, slots := 0, locals := 44 }) s m args below meth c H locs 0 0 (MQ below (qI D t (gS t xa xb x) out A) args s 0 0 A) (F0 m 18 ls []) := by
    intro fu18
    induction fu18 with
    | zero => intro v18 h; cases h
    | succ fu18 ih18 =>
      intro v18 h H locs hP hD hS ls hl
      have h : fX1_ticksForAll_l18 x (lp (fX1_ticksForAll_l18 x) fu18) v18 = some out := h
      unfold fX1_ticksForAll_l18 at h
      refine lv_iload hx hb dX1_ticksForAll_18 (lv_at hl 2 rfl) ?_
      refine lv_aload_n hx hb dX1_ticksForAll_20 rfl (lv_at hl 0 rfl) ?_
      refine va_alen (v := 24) hx hb hK hP 3 0 rfl rfl rfl dX1_ticksForAll_21 ?_
      refine lv_icmp_ge (tgt := 38) hx hb dX1_ticksForAll_22 (by decide) (fun c5 => ?_) (fun c5 => ?_)
      · have h := it_p c5 h
        refine lv_iload_n hx hb dX1_ticksForAll_38 rfl (lv_at hl 1 rfl) ?_
        obtain rfl := os h
        exact ret_i hx hb hr hlocks hP hK hD hS dX1_ticksForAll_39
      · have h := it_n c5 h
        refine lv_iload_n hx hb dX1_ticksForAll_25 rfl (lv_at hl 1 rfl) ?_
        refine lv_aload_n hx hb dX1_ticksForAll_26 rfl (lv_at hl 0 rfl) ?_
        refine lv_iload hx hb dX1_ticksForAll_27 (lv_at hl 2 rfl) ?_
        obtain ⟨g6, h⟩ := og h
        refine va_iald hx hb hK hP 3 0 rfl rfl (pin_in g6) dX1_ticksForAll_29 ?_
        refine lv_iadd hx hb dX1_ticksForAll_30 ?_
        refine lv_istore_n (lv' := [(3, .int (v18.1 + (x.2.2.1 (Int32.toNatClampNeg v18.2)))), (2, .ref (xb 2)), (4, .int v18.2)]) hx hb dX1_ticksForAll_31 rfl hl (by decide) rfl (fun ls hl => ?_)
        refine lv_iinc (v := v18.2 + 1) (lv' := [(4, .int (v18.2 + 1)), (3, .int (v18.1 + (x.2.2.1 (Int32.toNatClampNeg v18.2)))), (2, .ref (xb 2))]) hx hb dX1_ticksForAll_32 hl (k := 2) rfl rfl (by decide) rfl (fun ls hl => ?_)
        refine lv_goto (tgt := 18) hx hb dX1_ticksForAll_35 (by decide) ?_
        exact ih18 (v18.1 + (x.2.2.1 (Int32.toNatClampNeg v18.2)), v18.2 + 1) h _ _ hP hD hS _ (lv_sub hl [2, 1, 0] rfl)
  refine lv_aload_n hx hb dX1_ticksForAll_0 rfl (lv_at hl 0 rfl) ?_
  refine lv_iload_n hx hb dX1_ticksForAll_1 rfl (lv_at hl 1 rfl) ?_
  obtain ⟨r1, h1, h⟩ := ob h
  refine call_r (v := if cu = 0 then xb 2 else xb 3) (wc := (gS t xa xb x)) (wc' := (gS t xa xb x)) (ws' := (gS t xa xb x)) (cutB (bs := [gS t xa xb x]) (cs := [gS t xa xb x]) (cs' := [gS t xa xb x]) (bs' := [gS t xa xb x]) [0] hP hD hS hA rfl rfl rfl rfl) hS (fun hPc hDc => va_runV (As := [.int cu]) (rest := []) ⟨hx, hb, hml, hown, hts⟩ (mtX1_dragsOf l D t xa xb x cu r1 h1 _) (cwV 1 hts (gBV kw437 kw149 kw150 kw16 kw151) rfl rfl rfl (by decide +kernel) ⟨Nat.le_of_ble_eq_true rfl, Nat.le_of_ble_eq_true rfl⟩) (sPc_V hPc hK hDc hE (va_recv hK hP (ci := 1) (q0 := 0) rfl rfl)) rfl rfl hl.1 rfl (lv_room (Nat.le_of_ble_eq_true rfl)) dX1_ticksForAll_2 ⟨Nat.zero_le _, Nat.zero_le _⟩) (fun H locs hP hD hS => ?_)
  by_cases c2 : cu = 0
  · have h := it_p c2 h
    rw [if_pos c2]
    refine lv_astore_n (lv' := [(2, .ref (xb 2)), (0, .ref xa), (1, .int cu)]) hx hb dX1_ticksForAll_5 rfl hl (by decide) rfl (fun ls hl => ?_)
    refine lv_bipush (v := 24) hx hb dX1_ticksForAll_6 (by decide) ?_
    refine lv_aload_n hx hb dX1_ticksForAll_8 rfl (lv_at hl 1 rfl) ?_
    refine lv_iload_n hx hb dX1_ticksForAll_9 rfl (lv_at hl 2 rfl) ?_
    obtain ⟨r3, h3, h⟩ := ob h
    refine call_i (v := r3) (wc := (gS t xa xb x)) (wc' := (gS t xa xb x)) (ws' := (gS t xa xb x)) (cutB (bs := [gS t xa xb x]) (cs := [gS t xa xb x]) (cs' := [gS t xa xb x]) (bs' := [gS t xa xb x]) [0] hP hD hS hA rfl rfl rfl rfl) hS (fun hPc hDc => va_runV (As := [.int cu]) (rest := [.int 24]) ⟨hx, hb, hml, hown, hts⟩ (mtX1_ticksWithoutDrag l D t xa xb x cu r3 h3 _) (cwV 1 hts (gBV kw438 kw238 kw239 kw16 kw240) rfl rfl rfl (by decide +kernel) ⟨Nat.le_of_ble_eq_true rfl, Nat.le_of_ble_eq_true rfl⟩) (sPc_V hPc hK hDc hE (va_recv hK hP (ci := 1) (q0 := 0) rfl rfl)) rfl rfl hl.1 rfl (lv_room (Nat.le_of_ble_eq_true rfl)) dX1_ticksForAll_10 ⟨Nat.zero_le _, Nat.zero_le _⟩) (fun H locs hP hD hS => ?_)
    refine lv_imul hx hb dX1_ticksForAll_13 ?_
    refine lv_istore_n (lv' := [(3, .int (24 * r3)), (2, .ref (xb 2)), (0, .ref xa), (1, .int cu)]) hx hb dX1_ticksForAll_14 rfl hl (by decide) rfl (fun ls hl => ?_)
    refine lv_iconst (v := 0) hx hb dX1_ticksForAll_15 (by decide) ?_
    refine lv_istore (lv' := [(4, .int 0), (3, .int (24 * r3)), (2, .ref (xb 2)), (0, .ref xa), (1, .int cu)]) hx hb dX1_ticksForAll_16 hl (by decide) rfl (fun ls hl => ?_)
    exact J18 2000 (24 * r3, 0) h _ _ hP hD hS _ (lv_sub hl [2, 1, 0] rfl)
  · have h := it_n c2 h
    rw [if_neg c2]
    refine lv_astore_n (lv' := [(2, .ref (xb 3)), (0, .ref xa), (1, .int cu)]) hx hb dX1_ticksForAll_5 rfl hl (by decide) rfl (fun ls hl => ?_)
    refine lv_bipush (v := 24) hx hb dX1_ticksForAll_6 (by decide) ?_
    refine lv_aload_n hx hb dX1_ticksForAll_8 rfl (lv_at hl 1 rfl) ?_
    refine lv_iload_n hx hb dX1_ticksForAll_9 rfl (lv_at hl 2 rfl) ?_
    obtain ⟨r4, h4, h⟩ := ob h
    refine call_i (v := r4) (wc := (gS t xa xb x)) (wc' := (gS t xa xb x)) (ws' := (gS t xa xb x)) (cutB (bs := [gS t xa xb x]) (cs := [gS t xa xb x]) (cs' := [gS t xa xb x]) (bs' := [gS t xa xb x]) [0] hP hD hS hA rfl rfl rfl rfl) hS (fun hPc hDc => va_runV (As := [.int cu]) (rest := [.int 24]) ⟨hx, hb, hml, hown, hts⟩ (mtX1_ticksWithoutDrag l D t xa xb x cu r4 h4 _) (cwV 1 hts (gBV kw438 kw238 kw239 kw16 kw240) rfl rfl rfl (by decide +kernel) ⟨Nat.le_of_ble_eq_true rfl, Nat.le_of_ble_eq_true rfl⟩) (sPc_V hPc hK hDc hE (va_recv hK hP (ci := 1) (q0 := 0) rfl rfl)) rfl rfl hl.1 rfl (lv_room (Nat.le_of_ble_eq_true rfl)) dX1_ticksForAll_10 ⟨Nat.zero_le _, Nat.zero_le _⟩) (fun H locs hP hD hS => ?_)
    refine lv_imul hx hb dX1_ticksForAll_13 ?_
    refine lv_istore_n (lv' := [(3, .int (24 * r4)), (2, .ref (xb 3)), (0, .ref xa), (1, .int cu)]) hx hb dX1_ticksForAll_14 rfl hl (by decide) rfl (fun ls hl => ?_)
    refine lv_iconst (v := 0) hx hb dX1_ticksForAll_15 (by decide) ?_
    refine lv_istore (lv' := [(4, .int 0), (3, .int (24 * r4)), (2, .ref (xb 3)), (0, .ref xa), (1, .int cu)]) hx hb dX1_ticksForAll_16 hl (by decide) rfl (fun ls hl => ?_)
    exact J18_1 2000 (24 * r4, 0) h _ _ hP hD hS _ (lv_sub hl [2, 1, 0] rfl)

theorem dX1_slowestColumn_0 : decode cX1_slowestColumn 0 = .ok (.aload_n 0, 1) := by decide +kernel
theorem dX1_slowestColumn_1 : decode cX1_slowestColumn 1 = .ok (.iload_n 1, 1) := by decide +kernel
theorem dX1_slowestColumn_2 : decode cX1_slowestColumn 2 = .ok (.invokevirtual 51, 3) := by decide +kernel
theorem dX1_slowestColumn_5 : decode cX1_slowestColumn 5 = .ok (.astore_n 2, 1) := by decide +kernel
theorem dX1_slowestColumn_6 : decode cX1_slowestColumn 6 = .ok (.iconst 0, 1) := by decide +kernel
theorem dX1_slowestColumn_7 : decode cX1_slowestColumn 7 = .ok (.istore_n 3, 1) := by decide +kernel
theorem dX1_slowestColumn_8 : decode cX1_slowestColumn 8 = .ok (.iconst 0, 1) := by decide +kernel
theorem dX1_slowestColumn_9 : decode cX1_slowestColumn 9 = .ok (.istore 4, 2) := by decide +kernel
theorem dX1_slowestColumn_11 : decode cX1_slowestColumn 11 = .ok (.iload 4, 2) := by decide +kernel
theorem dX1_slowestColumn_13 : decode cX1_slowestColumn 13 = .ok (.aload_n 2, 1) := by decide +kernel
theorem dX1_slowestColumn_14 : decode cX1_slowestColumn 14 = .ok (.arraylength, 1) := by decide +kernel
theorem dX1_slowestColumn_15 : decode cX1_slowestColumn 15 = .ok (.if_icmp .ge 24, 3) := by decide +kernel
theorem dX1_slowestColumn_18 : decode cX1_slowestColumn 18 = .ok (.aload_n 2, 1) := by decide +kernel
theorem dX1_slowestColumn_19 : decode cX1_slowestColumn 19 = .ok (.iload 4, 2) := by decide +kernel
theorem dX1_slowestColumn_21 : decode cX1_slowestColumn 21 = .ok (.iaload, 1) := by decide +kernel
theorem dX1_slowestColumn_22 : decode cX1_slowestColumn 22 = .ok (.aload_n 2, 1) := by decide +kernel
theorem dX1_slowestColumn_23 : decode cX1_slowestColumn 23 = .ok (.iload_n 3, 1) := by decide +kernel
theorem dX1_slowestColumn_24 : decode cX1_slowestColumn 24 = .ok (.invokestatic 47, 3) := by decide +kernel
theorem dX1_slowestColumn_27 : decode cX1_slowestColumn 27 = .ok (.if_icmp .le 6, 3) := by decide +kernel
theorem dX1_slowestColumn_30 : decode cX1_slowestColumn 30 = .ok (.iload 4, 2) := by decide +kernel
theorem dX1_slowestColumn_32 : decode cX1_slowestColumn 32 = .ok (.istore_n 3, 1) := by decide +kernel
theorem dX1_slowestColumn_33 : decode cX1_slowestColumn 33 = .ok (.iinc 4 1, 3) := by decide +kernel
theorem dX1_slowestColumn_36 : decode cX1_slowestColumn 36 = .ok (.goto (-25), 3) := by decide +kernel
theorem dX1_slowestColumn_39 : decode cX1_slowestColumn 39 = .ok (.iload_n 3, 1) := by decide +kernel
theorem dX1_slowestColumn_40 : decode cX1_slowestColumn 40 = .ok (.ireturn, 1) := by decide +kernel
abbrev zX1_slowestColumn : List Cond := .code yX1_slowestColumn cX1_slowestColumn 5 (some .int) :: BIG
def fX1_slowestColumn_l11 (x : ShT)  (K11 : (Int32 × Int32) → Option (Int32)) (v11 : Int32 × Int32) : Option (Int32) := (if 24 ≤ v11.2 then some v11.1 else gd (pin v11.2 24) ((fX2_at 24 x.2.2.1 v11.1).bind (fun r5 => (if (x.2.2.1 (Int32.toNatClampNeg v11.2)) ≤ r5 then K11 (v11.1, v11.2 + 1) else K11 (v11.2, v11.2 + 1)))))
def fX1_slowestColumn_l11_1 (x : ShT)  (K11_1 : (Int32 × Int32) → Option (Int32)) (v11_1 : Int32 × Int32) : Option (Int32) := (if 24 ≤ v11_1.2 then some v11_1.1 else gd (pin v11_1.2 24) ((fX2_at 24 x.2.2.2.1 v11_1.1).bind (fun r9 => (if (x.2.2.2.1 (Int32.toNatClampNeg v11_1.2)) ≤ r9 then K11_1 (v11_1.1, v11_1.2 + 1) else K11_1 (v11_1.2, v11_1.2 + 1)))))
def fX1_slowestColumn (x : ShT) (cu : Int32) : Option (Int32) := (fX1_dragsOf x cu).bind (fun r1 => (if cu = 0 then lp (fX1_slowestColumn_l11 x) 2000 (0, 0) else lp (fX1_slowestColumn_l11_1 x) 2000 (0, 0)))
set_option maxHeartbeats 4000000 in
set_option maxRecDepth 100000 in
theorem mtX1_slowestColumn (l : Launch) (D : va_G) (t : Nat → ClassId) (xa : Nat) (xb : Nat → Nat) (x : ShT) (cu : Int32) (out : Int32) (h : fX1_slowestColumn x cu = some out)  (sz : Nat) : Met l yX1_slowestColumn zX1_slowestColumn ({ frames := 1, cells := 0, slots := 0, locals := 21 }) (sPc D t (gS t xa xb x) sz [.ref xa, .int cu]) (qI D t (gS t xa xb x) out (va_A (gS t xa xb x) sz)) 0 0 (va_A (gS t xa xb x) sz) := by
  refine met_of (Qf := fun A => qI D t (gS t xa xb x) out A) (cc := cX1_slowestColumn) (maxL := 5) (ret := some .int) (by decide) rfl (Nat.le_of_ble_eq_true rfl) ?_
  intro p e s m args below meth c A hx hb hr hml hts hown hlocks hA hP hK hD hE hS ls hl
  have htB : ∀ w ∈ BIG, w.before args s = true := fun w h => hts w (List.mem_cons_of_mem _ h)
  have hown : s.vm.findClass RX1 = some m.cls := hown
  have hl : lv_has ls 5 [(0, .ref xa), (1, .int cu)] := hl
  unfold fX1_slowestColumn at h
  have J11_1 : ∀ (fu11_1 : Nat) (v11_1 : Int32 × Int32), lp (fX1_slowestColumn_l11_1 x) fu11_1 v11_1 = some out → ∀ (H : Heap) (locs : List Loc), va_P D vwCl (gS t xa xb x) H → va_D A (gS t xa xb x) → va_S A s.heap H locs → ∀ ls : Array Slot, lv_has ls 5 [(2, .ref (xb 3)), (3, .int v11_1.1), (4, .int v11_1.2)] → W p l e ({ frames := 1, cells := 0, slots := 0, locals := 21 }) s m args below meth c H locs 0 0 (MQ below (qI D t (gS t xa xb x) out A) args s 0 0 A) (F0 m 11 ls []) := by
    intro fu11_1
    induction fu11_1 with
    | zero => intro v11_1 h; cases h
    | succ fu11_1 ih11_1 =>
      intro v11_1 h H locs hP hD hS ls hl
      have h : fX1_slowestColumn_l11_1 x (lp (fX1_slowestColumn_l11_1 x) fu11_1) v11_1 = some out := h
      unfold fX1_slowestColumn_l11_1 at h
      refine lv_iload hx hb dX1_slowestColumn_11 (lv_at hl 2 rfl) ?_
      refine lv_aload_n hx hb dX1_slowestColumn_13 rfl (lv_at hl 0 rfl) ?_
      refine va_alen (v := 24) hx hb hK hP 4 0 rfl rfl rfl dX1_slowestColumn_14 ?_
      refine lv_icmp_ge (tgt := 39) hx hb dX1_slowestColumn_15 (by decide) (fun c7 => ?_) (fun c7 => ?_)
      · have h := it_p c7 h
        refine lv_iload_n hx hb dX1_slowestColumn_39 rfl (lv_at hl 1 rfl) ?_
        obtain rfl := os h
        exact ret_i hx hb hr hlocks hP hK hD hS dX1_slowestColumn_40
      · have h := it_n c7 h
        refine lv_aload_n hx hb dX1_slowestColumn_18 rfl (lv_at hl 0 rfl) ?_
        refine lv_iload hx hb dX1_slowestColumn_19 (lv_at hl 2 rfl) ?_
        obtain ⟨g8, h⟩ := og h
        refine va_iald hx hb hK hP 4 0 rfl rfl (pin_in g8) dX1_slowestColumn_21 ?_
        refine lv_aload_n hx hb dX1_slowestColumn_22 rfl (lv_at hl 0 rfl) ?_
        refine lv_iload_n hx hb dX1_slowestColumn_23 rfl (lv_at hl 1 rfl) ?_
        obtain ⟨r9, h9, h⟩ := ob h
        refine call_i (v := r9) (wc := (gA t (xb 3) 24 x.2.2.2.1)) (wc' := (gA t (xb 3) 24 x.2.2.2.1)) (ws' := (gS t xa xb x)) (cutI (wc := (gA t (xb 3) 24 x.2.2.2.1)) (wc' := (gA t (xb 3) 24 x.2.2.2.1)) (ws' := (gS t xa xb x)) [4] hP hD hS hA rfl rfl rfl rfl) hS (fun hPc hDc => va_runSN (As := [.ref (xb 3), .int v11_1.1]) (rest := [.int (x.2.2.2.1 (Int32.toNatClampNeg v11_1.2))]) ⟨hx, hb, hml, hown, hts⟩ (mtX2_at l D t (xb 3) 24 x.2.2.2.1 v11_1.1 r9 h9 (by decide) _) ⟨va_cnB 2 hts (gB kw106) rfl rfl rfl hE.2.2.2.1 (htB _ kw2) (by decide +kernel) ⟨Nat.le_of_ble_eq_true rfl, Nat.le_of_ble_eq_true rfl⟩, (htB _ kw105), trivial⟩ (sPc_S hPc hK hDc hE) rfl rfl hl.1 rfl (lv_room (Nat.le_of_ble_eq_true rfl)) dX1_slowestColumn_24 ⟨Nat.zero_le _, Nat.zero_le _⟩) (fun H locs hP hD hS => ?_)
        refine lv_icmp_le (tgt := 33) hx hb dX1_slowestColumn_27 (by decide) (fun c10 => ?_) (fun c10 => ?_)
        · have h := it_p c10 h
          refine lv_iinc (v := v11_1.2 + 1) (lv' := [(4, .int (v11_1.2 + 1)), (2, .ref (xb 3)), (3, .int v11_1.1)]) hx hb dX1_slowestColumn_33 hl (k := 2) rfl rfl (by decide) rfl (fun ls hl => ?_)
          refine lv_goto (tgt := 11) hx hb dX1_slowestColumn_36 (by decide) ?_
          exact ih11_1 (v11_1.1, v11_1.2 + 1) h _ _ hP hD hS _ (lv_sub hl [1, 2, 0] rfl)
        · have h := it_n c10 h
          refine lv_iload hx hb dX1_slowestColumn_30 (lv_at hl 2 rfl) ?_
          refine lv_istore_n (lv' := [(3, .int v11_1.2), (2, .ref (xb 3)), (4, .int v11_1.2)]) hx hb dX1_slowestColumn_32 rfl hl (by decide) rfl (fun ls hl => ?_)
          refine lv_iinc (v := v11_1.2 + 1) (lv' := [(4, .int (v11_1.2 + 1)), (3, .int v11_1.2), (2, .ref (xb 3))]) hx hb dX1_slowestColumn_33 hl (k := 2) rfl rfl (by decide) rfl (fun ls hl => ?_)
          refine lv_goto (tgt := 11) hx hb dX1_slowestColumn_36 (by decide) ?_
          exact ih11_1 (v11_1.2, v11_1.2 + 1) h _ _ hP hD hS _ (lv_sub hl [2, 1, 0] rfl)
  have J11 : ∀ (fu11 : Nat) (v11 : Int32 × Int32), lp (fX1_slowestColumn_l11 x) fu11 v11 = some out → ∀ (H : Heap) (locs : List Loc), va_P D vwCl (gS t xa xb x) H → va_D A (gS t xa xb x) → va_S A s.heap H locs → ∀ ls : Array Slot, lv_has ls 5 [(2, .ref (xb 2)), (3, .int v11.1), (4, .int v11.2)] → W p l e ({ frames := 1, cells := 0, slots := 0, locals := 21 }) s m args below meth c H locs 0 0 (MQ below (qI D t (gS t xa xb x) out A) args s 0 0 A) (F0 m 11 ls []) := by
    intro fu11
    induction fu11 with
    | zero => intro v11 h; cases h
    | succ fu11 ih11 =>
      intro v11 h H locs hP hD hS ls hl
      have h : fX1_slowestColumn_l11 x (lp (fX1_slowestColumn_l11 x) fu11) v11 = some out := h
      unfold fX1_slowestColumn_l11 at h
      refine lv_iload hx hb dX1_slowestColumn_11 (lv_at hl 2 rfl) ?_
      refine lv_aload_n hx hb dX1_slowestColumn_13 rfl (lv_at hl 0 rfl) ?_
      refine va_alen (v := 24) hx hb hK hP 3 0 rfl rfl rfl dX1_slowestColumn_14 ?_
      refine lv_icmp_ge (tgt := 39) hx hb dX1_slowestColumn_15 (by decide) (fun c3 => ?_) (fun c3 => ?_)
      · have h := it_p c3 h
        refine lv_iload_n hx hb dX1_slowestColumn_39 rfl (lv_at hl 1 rfl) ?_
        obtain rfl := os h
        exact ret_i hx hb hr hlocks hP hK hD hS dX1_slowestColumn_40
      · have h := it_n c3 h
        refine lv_aload_n hx hb dX1_slowestColumn_18 rfl (lv_at hl 0 rfl) ?_
        refine lv_iload hx hb dX1_slowestColumn_19 (lv_at hl 2 rfl) ?_
        obtain ⟨g4, h⟩ := og h
        refine va_iald hx hb hK hP 3 0 rfl rfl (pin_in g4) dX1_slowestColumn_21 ?_
        refine lv_aload_n hx hb dX1_slowestColumn_22 rfl (lv_at hl 0 rfl) ?_
        refine lv_iload_n hx hb dX1_slowestColumn_23 rfl (lv_at hl 1 rfl) ?_
        obtain ⟨r5, h5, h⟩ := ob h
        refine call_i (v := r5) (wc := (gA t (xb 2) 24 x.2.2.1)) (wc' := (gA t (xb 2) 24 x.2.2.1)) (ws' := (gS t xa xb x)) (cutI (wc := (gA t (xb 2) 24 x.2.2.1)) (wc' := (gA t (xb 2) 24 x.2.2.1)) (ws' := (gS t xa xb x)) [3] hP hD hS hA rfl rfl rfl rfl) hS (fun hPc hDc => va_runSN (As := [.ref (xb 2), .int v11.1]) (rest := [.int (x.2.2.1 (Int32.toNatClampNeg v11.2))]) ⟨hx, hb, hml, hown, hts⟩ (mtX2_at l D t (xb 2) 24 x.2.2.1 v11.1 r5 h5 (by decide) _) ⟨va_cnB 2 hts (gB kw106) rfl rfl rfl hE.2.2.2.1 (htB _ kw2) (by decide +kernel) ⟨Nat.le_of_ble_eq_true rfl, Nat.le_of_ble_eq_true rfl⟩, (htB _ kw105), trivial⟩ (sPc_S hPc hK hDc hE) rfl rfl hl.1 rfl (lv_room (Nat.le_of_ble_eq_true rfl)) dX1_slowestColumn_24 ⟨Nat.zero_le _, Nat.zero_le _⟩) (fun H locs hP hD hS => ?_)
        refine lv_icmp_le (tgt := 33) hx hb dX1_slowestColumn_27 (by decide) (fun c6 => ?_) (fun c6 => ?_)
        · have h := it_p c6 h
          refine lv_iinc (v := v11.2 + 1) (lv' := [(4, .int (v11.2 + 1)), (2, .ref (xb 2)), (3, .int v11.1)]) hx hb dX1_slowestColumn_33 hl (k := 2) rfl rfl (by decide) rfl (fun ls hl => ?_)
          refine lv_goto (tgt := 11) hx hb dX1_slowestColumn_36 (by decide) ?_
          exact ih11 (v11.1, v11.2 + 1) h _ _ hP hD hS _ (lv_sub hl [1, 2, 0] rfl)
        · have h := it_n c6 h
          refine lv_iload hx hb dX1_slowestColumn_30 (lv_at hl 2 rfl) ?_
          refine lv_istore_n (lv' := [(3, .int v11.2), (2, .ref (xb 2)), (4, .int v11.2)]) hx hb dX1_slowestColumn_32 rfl hl (by decide) rfl (fun ls hl => ?_)
          refine lv_iinc (v := v11.2 + 1) (lv' := [(4, .int (v11.2 + 1)), (3, .int v11.2), (2, .ref (xb 2))]) hx hb dX1_slowestColumn_33 hl (k := 2) rfl rfl (by decide) rfl (fun ls hl => ?_)
          refine lv_goto (tgt := 11) hx hb dX1_slowestColumn_36 (by decide) ?_
          exact ih11 (v11.2, v11.2 + 1) h _ _ hP hD hS _ (lv_sub hl [2, 1, 0] rfl)
  refine lv_aload_n hx hb dX1_slowestColumn_0 rfl (lv_at hl 0 rfl) ?_
  refine lv_iload_n hx hb dX1_slowestColumn_1 rfl (lv_at hl 1 rfl) ?_
  obtain ⟨r1, h1, h⟩ := ob h
  refine call_r (v := if cu = 0 then xb 2 else xb 3) (wc := (gS t xa xb x)) (wc' := (gS t xa xb x)) (ws' := (gS t xa xb x)) (cutB (bs := [gS t xa xb x]) (cs := [gS t xa xb x]) (cs' := [gS t xa xb x]) (bs' := [gS t xa xb x]) [0] hP hD hS hA rfl rfl rfl rfl) hS (fun hPc hDc => va_runV (As := [.int cu]) (rest := []) ⟨hx, hb, hml, hown, hts⟩ (mtX1_dragsOf l D t xa xb x cu r1 h1 _) (cwV 1 hts (gBV kw437 kw149 kw150 kw16 kw151) rfl rfl rfl (by decide +kernel) ⟨Nat.le_of_ble_eq_true rfl, Nat.le_of_ble_eq_true rfl⟩) (sPc_V hPc hK hDc hE (va_recv hK hP (ci := 1) (q0 := 0) rfl rfl)) rfl rfl hl.1 rfl (lv_room (Nat.le_of_ble_eq_true rfl)) dX1_slowestColumn_2 ⟨Nat.zero_le _, Nat.zero_le _⟩) (fun H locs hP hD hS => ?_)
  by_cases c2 : cu = 0
  · have h := it_p c2 h
    rw [if_pos c2]
    refine lv_astore_n (lv' := [(2, .ref (xb 2)), (0, .ref xa), (1, .int cu)]) hx hb dX1_slowestColumn_5 rfl hl (by decide) rfl (fun ls hl => ?_)
    refine lv_iconst (v := 0) hx hb dX1_slowestColumn_6 (by decide) ?_
    refine lv_istore_n (lv' := [(3, .int 0), (2, .ref (xb 2)), (0, .ref xa), (1, .int cu)]) hx hb dX1_slowestColumn_7 rfl hl (by decide) rfl (fun ls hl => ?_)
    refine lv_iconst (v := 0) hx hb dX1_slowestColumn_8 (by decide) ?_
    refine lv_istore (lv' := [(4, .int 0), (3, .int 0), (2, .ref (xb 2)), (0, .ref xa), (1, .int cu)]) hx hb dX1_slowestColumn_9 hl (by decide) rfl (fun ls hl => ?_)
    exact J11 2000 (0, 0) h _ _ hP hD hS _ (lv_sub hl [2, 1, 0] rfl)
  · have h := it_n c2 h
    rw [if_neg c2]
    refine lv_astore_n (lv' := [(2, .ref (xb 3)), (0, .ref xa), (1, .int cu)]) hx hb dX1_slowestColumn_5 rfl hl (by decide) rfl (fun ls hl => ?_)
    refine lv_iconst (v := 0) hx hb dX1_slowestColumn_6 (by decide) ?_
    refine lv_istore_n (lv' := [(3, .int 0), (2, .ref (xb 3)), (0, .ref xa), (1, .int cu)]) hx hb dX1_slowestColumn_7 rfl hl (by decide) rfl (fun ls hl => ?_)
    refine lv_iconst (v := 0) hx hb dX1_slowestColumn_8 (by decide) ?_
    refine lv_istore (lv' := [(4, .int 0), (3, .int 0), (2, .ref (xb 3)), (0, .ref xa), (1, .int cu)]) hx hb dX1_slowestColumn_9 hl (by decide) rfl (fun ls hl => ?_)
    exact J11_1 2000 (0, 0) h _ _ hP hD hS _ (lv_sub hl [2, 1, 0] rfl)

theorem dX1_startOfSecond_0 : decode cX1_startOfSecond 0 = .ok (.iconst 0, 1) := by decide +kernel
theorem dX1_startOfSecond_1 : decode cX1_startOfSecond 1 = .ok (.iload_n 1, 1) := by decide +kernel
theorem dX1_startOfSecond_2 : decode cX1_startOfSecond 2 = .ok (.invokestatic 59, 3) := by decide +kernel
theorem dX1_startOfSecond_5 : decode cX1_startOfSecond 5 = .ok (.aload_n 0, 1) := by decide +kernel
theorem dX1_startOfSecond_6 : decode cX1_startOfSecond 6 = .ok (.getfield 24, 3) := by decide +kernel
theorem dX1_startOfSecond_9 : decode cX1_startOfSecond 9 = .ok (.iload_n 1, 1) := by decide +kernel
theorem dX1_startOfSecond_10 : decode cX1_startOfSecond 10 = .ok (.invokestatic 47, 3) := by decide +kernel
theorem dX1_startOfSecond_13 : decode cX1_startOfSecond 13 = .ok (.iadd, 1) := by decide +kernel
theorem dX1_startOfSecond_14 : decode cX1_startOfSecond 14 = .ok (.invokestatic 62, 3) := by decide +kernel
theorem dX1_startOfSecond_17 : decode cX1_startOfSecond 17 = .ok (.ireturn, 1) := by decide +kernel
abbrev zX1_startOfSecond : List Cond := .code yX1_startOfSecond cX1_startOfSecond 2 (some .int) :: BIG
def fX1_startOfSecond (x : ShT) (v : Int32) : Option (Int32) := (fX2_wantedLight v).bind (fun r1 => (fX2_at 6 x.2.2.2.2.1 v).bind (fun r2 => some (imax 0 (r1 + r2))))
set_option maxHeartbeats 4000000 in
set_option maxRecDepth 100000 in
theorem mtX1_startOfSecond (l : Launch) (D : va_G) (t : Nat → ClassId) (xa : Nat) (xb : Nat → Nat) (x : ShT) (v : Int32) (out : Int32) (h : fX1_startOfSecond x v = some out)  (sz : Nat) : Met l yX1_startOfSecond zX1_startOfSecond ({ frames := 1, cells := 0, slots := 0, locals := 21 }) (sPc D t (gS t xa xb x) sz [.ref xa, .int v]) (qI D t (gS t xa xb x) out (va_A (gS t xa xb x) sz)) 0 0 (va_A (gS t xa xb x) sz) := by
  refine met_of (Qf := fun A => qI D t (gS t xa xb x) out A) (cc := cX1_startOfSecond) (maxL := 2) (ret := some .int) (by decide) rfl (Nat.le_of_ble_eq_true rfl) ?_
  intro p e s m args below meth c A hx hb hr hml hts hown hlocks hA hP hK hD hE hS ls hl
  have htB : ∀ w ∈ BIG, w.before args s = true := fun w h => hts w (List.mem_cons_of_mem _ h)
  have hown : s.vm.findClass RX1 = some m.cls := hown
  have hl : lv_has ls 2 [(0, .ref xa), (1, .int v)] := hl
  unfold fX1_startOfSecond at h
  refine lv_iconst (v := 0) hx hb dX1_startOfSecond_0 (by decide) ?_
  refine lv_iload_n hx hb dX1_startOfSecond_1 rfl (lv_at hl 1 rfl) ?_
  obtain ⟨r1, h1, h⟩ := ob h
  refine call_i (v := r1) (wc := ([] : va_W)) (wc' := ([] : va_W)) (ws' := (gS t xa xb x)) (cutB (bs := [gS t xa xb x]) (cs := []) (cs' := []) (bs' := [gS t xa xb x]) [] hP hD hS hA rfl rfl rfl rfl) hS (fun hPc hDc => va_runSN (As := [.int v]) (rest := [.int 0]) ⟨hx, hb, hml, hown, hts⟩ (mtX2_wantedLight l D t v r1 h1 _) ⟨va_cnB 1 hts (gB kw247) rfl rfl rfl hE.2.2.2.2.1 (htB _ kw2) (by decide +kernel) ⟨Nat.le_of_ble_eq_true rfl, Nat.le_of_ble_eq_true rfl⟩, (htB _ kw246), trivial⟩ (sPc_S hPc hK hDc hE) rfl rfl hl.1 rfl (lv_room (Nat.le_of_ble_eq_true rfl)) dX1_startOfSecond_2 ⟨Nat.zero_le _, Nat.zero_le _⟩) (fun H locs hP hD hS => ?_)
  refine lv_aload_n hx hb dX1_startOfSecond_5 rfl (lv_at hl 0 rfl) ?_
  refine va_get (D := D) (ci := 1) (v := .ref (xb 4)) (C := RX1) (T := TX1) (N := 10) hx hb htB inlX1 hown hK hP 0 rfl rfl 4 (by decide) (htB _ kw37) (fun _ h9 => h9) rfl dX1_startOfSecond_6 ?_
  refine lv_iload_n hx hb dX1_startOfSecond_9 rfl (lv_at hl 1 rfl) ?_
  obtain ⟨r2, h2, h⟩ := ob h
  refine call_i (v := r2) (wc := (gA t (xb 4) 6 x.2.2.2.2.1)) (wc' := (gA t (xb 4) 6 x.2.2.2.2.1)) (ws' := (gS t xa xb x)) (cutI (wc := (gA t (xb 4) 6 x.2.2.2.2.1)) (wc' := (gA t (xb 4) 6 x.2.2.2.2.1)) (ws' := (gS t xa xb x)) [5] hP hD hS hA rfl rfl rfl rfl) hS (fun hPc hDc => va_runSN (As := [.ref (xb 4), .int v]) (rest := [.int r1, .int 0]) ⟨hx, hb, hml, hown, hts⟩ (mtX2_at l D t (xb 4) 6 x.2.2.2.2.1 v r2 h2 (by decide) _) ⟨va_cnB 2 hts (gB kw106) rfl rfl rfl hE.2.2.2.1 (htB _ kw2) (by decide +kernel) ⟨Nat.le_of_ble_eq_true rfl, Nat.le_of_ble_eq_true rfl⟩, (htB _ kw105), trivial⟩ (sPc_S hPc hK hDc hE) rfl rfl hl.1 rfl (lv_room (Nat.le_of_ble_eq_true rfl)) dX1_startOfSecond_10 ⟨Nat.zero_le _, Nat.zero_le _⟩) (fun H locs hP hD hS => ?_)
  refine lv_iadd hx hb dX1_startOfSecond_13 ?_
  refine va_mmax hx hb (by rw [hml]; exact hl.1.symm) hown (htB _ kw245) (htB _ kw235) (htB _ kw92) (htB _ kw236) (Nat.le_of_ble_eq_true rfl) (Nat.le_of_ble_eq_true rfl) (Nat.zero_le _) (Nat.zero_le _) dX1_startOfSecond_14 ?_
  obtain rfl := os h
  exact ret_i hx hb hr hlocks hP hK hD hS dX1_startOfSecond_17

theorem dX1_bounceColumns_0 : decode cX1_bounceColumns 0 = .ok (.aload_n 0, 1) := by decide +kernel
theorem dX1_bounceColumns_1 : decode cX1_bounceColumns 1 = .ok (.getfield 9, 3) := by decide +kernel
theorem dX1_bounceColumns_4 : decode cX1_bounceColumns 4 = .ok (.iconst 0, 1) := by decide +kernel
theorem dX1_bounceColumns_5 : decode cX1_bounceColumns 5 = .ok (.invokestatic 47, 3) := by decide +kernel
theorem dX1_bounceColumns_8 : decode cX1_bounceColumns 8 = .ok (.aload_n 0, 1) := by decide +kernel
theorem dX1_bounceColumns_9 : decode cX1_bounceColumns 9 = .ok (.getfield 27, 3) := by decide +kernel
theorem dX1_bounceColumns_12 : decode cX1_bounceColumns 12 = .ok (.iconst 1, 1) := by decide +kernel
theorem dX1_bounceColumns_13 : decode cX1_bounceColumns 13 = .ok (.invokestatic 47, 3) := by decide +kernel
theorem dX1_bounceColumns_16 : decode cX1_bounceColumns 16 = .ok (.isub, 1) := by decide +kernel
theorem dX1_bounceColumns_17 : decode cX1_bounceColumns 17 = .ok (.istore_n 1, 1) := by decide +kernel
theorem dX1_bounceColumns_18 : decode cX1_bounceColumns 18 = .ok (.iload_n 1, 1) := by decide +kernel
theorem dX1_bounceColumns_19 : decode cX1_bounceColumns 19 = .ok (.ifCond .le 14, 3) := by decide +kernel
theorem dX1_bounceColumns_22 : decode cX1_bounceColumns 22 = .ok (.iload_n 1, 1) := by decide +kernel
theorem dX1_bounceColumns_23 : decode cX1_bounceColumns 23 = .ok (.iconst 5, 1) := by decide +kernel
theorem dX1_bounceColumns_24 : decode cX1_bounceColumns 24 = .ok (.idiv, 1) := by decide +kernel
theorem dX1_bounceColumns_25 : decode cX1_bounceColumns 25 = .ok (.bipush 6, 2) := by decide +kernel
theorem dX1_bounceColumns_27 : decode cX1_bounceColumns 27 = .ok (.invokestatic 68, 3) := by decide +kernel
theorem dX1_bounceColumns_30 : decode cX1_bounceColumns 30 = .ok (.goto 4, 3) := by decide +kernel
theorem dX1_bounceColumns_33 : decode cX1_bounceColumns 33 = .ok (.iconst 0, 1) := by decide +kernel
theorem dX1_bounceColumns_34 : decode cX1_bounceColumns 34 = .ok (.ireturn, 1) := by decide +kernel
abbrev zX1_bounceColumns : List Cond := .code yX1_bounceColumns cX1_bounceColumns 2 (some .int) :: BIG
def fX1_bounceColumns (x : ShT) : Option (Int32) := (fX2_at 2 x.1 0).bind (fun r1 => (fX2_at 4 x.2.2.2.2.2.1 1).bind (fun r2 => (if (r1 - r2) ≤ 0 then some 0 else some (imin ((r1 - r2) / 5) 6))))
set_option maxHeartbeats 4000000 in
set_option maxRecDepth 100000 in
theorem mtX1_bounceColumns (l : Launch) (D : va_G) (t : Nat → ClassId) (xa : Nat) (xb : Nat → Nat) (x : ShT) (out : Int32) (h : fX1_bounceColumns x = some out)  (sz : Nat) : Met l yX1_bounceColumns zX1_bounceColumns ({ frames := 1, cells := 0, slots := 0, locals := 21 }) (sPc D t (gS t xa xb x) sz [.ref xa]) (qI D t (gS t xa xb x) out (va_A (gS t xa xb x) sz)) 0 0 (va_A (gS t xa xb x) sz) := by
  refine met_of (Qf := fun A => qI D t (gS t xa xb x) out A) (cc := cX1_bounceColumns) (maxL := 2) (ret := some .int) (by decide) rfl (Nat.le_of_ble_eq_true rfl) ?_
  intro p e s m args below meth c A hx hb hr hml hts hown hlocks hA hP hK hD hE hS ls hl
  have htB : ∀ w ∈ BIG, w.before args s = true := fun w h => hts w (List.mem_cons_of_mem _ h)
  have hown : s.vm.findClass RX1 = some m.cls := hown
  have hl : lv_has ls 2 [(0, .ref xa)] := hl
  unfold fX1_bounceColumns at h
  refine lv_aload_n hx hb dX1_bounceColumns_0 rfl (lv_at hl 0 rfl) ?_
  refine va_get (D := D) (ci := 1) (v := .ref (xb 0)) (C := RX1) (T := TX1) (N := 10) hx hb htB inlX1 hown hK hP 0 rfl rfl 0 (by decide) (htB _ kw33) (fun _ h9 => h9) rfl dX1_bounceColumns_1 ?_
  refine lv_iconst (v := 0) hx hb dX1_bounceColumns_4 (by decide) ?_
  obtain ⟨r1, h1, h⟩ := ob h
  refine call_i (v := r1) (wc := (gA t (xb 0) 2 x.1)) (wc' := (gA t (xb 0) 2 x.1)) (ws' := (gS t xa xb x)) (cutI (wc := (gA t (xb 0) 2 x.1)) (wc' := (gA t (xb 0) 2 x.1)) (ws' := (gS t xa xb x)) [1] hP hD hS hA rfl rfl rfl rfl) hS (fun hPc hDc => va_runSN (As := [.ref (xb 0), .int 0]) (rest := []) ⟨hx, hb, hml, hown, hts⟩ (mtX2_at l D t (xb 0) 2 x.1 0 r1 h1 (by decide) _) ⟨va_cnB 2 hts (gB kw106) rfl rfl rfl hE.2.2.2.1 (htB _ kw2) (by decide +kernel) ⟨Nat.le_of_ble_eq_true rfl, Nat.le_of_ble_eq_true rfl⟩, (htB _ kw105), trivial⟩ (sPc_S hPc hK hDc hE) rfl rfl hl.1 rfl (lv_room (Nat.le_of_ble_eq_true rfl)) dX1_bounceColumns_5 ⟨Nat.zero_le _, Nat.zero_le _⟩) (fun H locs hP hD hS => ?_)
  refine lv_aload_n hx hb dX1_bounceColumns_8 rfl (lv_at hl 0 rfl) ?_
  refine va_get (D := D) (ci := 1) (v := .ref (xb 5)) (C := RX1) (T := TX1) (N := 10) hx hb htB inlX1 hown hK hP 0 rfl rfl 5 (by decide) (htB _ kw38) (fun _ h9 => h9) rfl dX1_bounceColumns_9 ?_
  refine lv_iconst (v := 1) hx hb dX1_bounceColumns_12 (by decide) ?_
  obtain ⟨r2, h2, h⟩ := ob h
  refine call_i (v := r2) (wc := (gA t (xb 5) 4 x.2.2.2.2.2.1)) (wc' := (gA t (xb 5) 4 x.2.2.2.2.2.1)) (ws' := (gS t xa xb x)) (cutI (wc := (gA t (xb 5) 4 x.2.2.2.2.2.1)) (wc' := (gA t (xb 5) 4 x.2.2.2.2.2.1)) (ws' := (gS t xa xb x)) [6] hP hD hS hA rfl rfl rfl rfl) hS (fun hPc hDc => va_runSN (As := [.ref (xb 5), .int 1]) (rest := [.int r1]) ⟨hx, hb, hml, hown, hts⟩ (mtX2_at l D t (xb 5) 4 x.2.2.2.2.2.1 1 r2 h2 (by decide) _) ⟨va_cnB 2 hts (gB kw106) rfl rfl rfl hE.2.2.2.1 (htB _ kw2) (by decide +kernel) ⟨Nat.le_of_ble_eq_true rfl, Nat.le_of_ble_eq_true rfl⟩, (htB _ kw105), trivial⟩ (sPc_S hPc hK hDc hE) rfl rfl hl.1 rfl (lv_room (Nat.le_of_ble_eq_true rfl)) dX1_bounceColumns_13 ⟨Nat.zero_le _, Nat.zero_le _⟩) (fun H locs hP hD hS => ?_)
  refine lv_isub hx hb dX1_bounceColumns_16 ?_
  refine lv_istore_n (lv' := [(1, .int (r1 - r2)), (0, .ref xa)]) hx hb dX1_bounceColumns_17 rfl hl (by decide) rfl (fun ls hl => ?_)
  refine lv_iload_n hx hb dX1_bounceColumns_18 rfl (lv_at hl 0 rfl) ?_
  refine lv_if_le (tgt := 33) hx hb dX1_bounceColumns_19 (by decide) (fun c3 => ?_) (fun c3 => ?_)
  · have h := it_p c3 h
    refine lv_iconst (v := 0) hx hb dX1_bounceColumns_33 (by decide) ?_
    obtain rfl := os h
    exact ret_i hx hb hr hlocks hP hK hD hS dX1_bounceColumns_34
  · have h := it_n c3 h
    refine lv_iload_n hx hb dX1_bounceColumns_22 rfl (lv_at hl 0 rfl) ?_
    refine lv_iconst (v := 5) hx hb dX1_bounceColumns_23 (by decide) ?_
    refine lv_idiv hx hb dX1_bounceColumns_24 (by decide) ?_
    refine lv_bipush (v := 6) hx hb dX1_bounceColumns_25 (by decide) ?_
    refine va_mmin hx hb (by rw [hml]; exact hl.1.symm) hown (htB _ kw258) (htB _ kw91) (htB _ kw92) (htB _ kw93) (Nat.le_of_ble_eq_true rfl) (Nat.le_of_ble_eq_true rfl) (Nat.zero_le _) (Nat.zero_le _) dX1_bounceColumns_27 ?_
    refine lv_goto (tgt := 34) hx hb dX1_bounceColumns_30 (by decide) ?_
    obtain rfl := os h
    exact ret_i hx hb hr hlocks hP hK hD hS dX1_bounceColumns_34

theorem dX0_spread_0 : decode cX0_spread 0 = .ok (.aload_n 0, 1) := by decide +kernel
theorem dX0_spread_1 : decode cX0_spread 1 = .ok (.getfield 21, 3) := by decide +kernel
theorem dX0_spread_4 : decode cX0_spread 4 = .ok (.aload_n 0, 1) := by decide +kernel
theorem dX0_spread_5 : decode cX0_spread 5 = .ok (.getfield 25, 3) := by decide +kernel
theorem dX0_spread_8 : decode cX0_spread 8 = .ok (.isub, 1) := by decide +kernel
theorem dX0_spread_9 : decode cX0_spread 9 = .ok (.ireturn, 1) := by decide +kernel
abbrev zX0_spread : List Cond := .code yX0_spread cX0_spread 1 (some .int) :: BIG
def fX0_spread (ex : ExT) : Option (Int32) := some (ex.2.2.2.2.2.1 - ex.2.2.2.2.1)
set_option maxHeartbeats 4000000 in
set_option maxRecDepth 100000 in
theorem mtX0_spread (l : Launch) (D : va_G) (t : Nat → ClassId) (ea : Nat) (eb : Nat → Nat) (ex : ExT) (out : Int32) (h : fX0_spread ex = some out)  (sz : Nat) : Met l yX0_spread zX0_spread ({ frames := 0, cells := 0, slots := 0, locals := 0 }) (sPc D t (gE t ea eb ex) sz [.ref ea]) (qI D t (gE t ea eb ex) out (va_A (gE t ea eb ex) sz)) 0 0 (va_A (gE t ea eb ex) sz) := by
  refine met_of (Qf := fun A => qI D t (gE t ea eb ex) out A) (cc := cX0_spread) (maxL := 1) (ret := some .int) (by decide) rfl (Nat.le_of_ble_eq_true rfl) ?_
  intro p e s m args below meth c A hx hb hr hml hts hown hlocks hA hP hK hD hE hS ls hl
  have htB : ∀ w ∈ BIG, w.before args s = true := fun w h => hts w (List.mem_cons_of_mem _ h)
  have hown : s.vm.findClass RX0 = some m.cls := hown
  have hl : lv_has ls 1 [(0, .ref ea)] := hl
  unfold fX0_spread at h
  refine lv_aload_n hx hb dX0_spread_0 rfl (lv_at hl 0 rfl) ?_
  refine va_get (D := D) (ci := 0) (v := .int ex.2.2.2.2.2.1) (C := RX0) (T := TX0) (N := 10) hx hb htB inlX0 hown hK hP 0 rfl rfl 5 (by decide) (htB _ kw265) (fun _ h9 => h9) rfl dX0_spread_1 ?_
  refine lv_aload_n hx hb dX0_spread_4 rfl (lv_at hl 0 rfl) ?_
  refine va_get (D := D) (ci := 0) (v := .int ex.2.2.2.2.1) (C := RX0) (T := TX0) (N := 10) hx hb htB inlX0 hown hK hP 0 rfl rfl 4 (by decide) (htB _ kw264) (fun _ h9 => h9) rfl dX0_spread_5 ?_
  refine lv_isub hx hb dX0_spread_8 ?_
  obtain rfl := os h
  exact ret_i hx hb hr hlocks hP hK hD hS dX0_spread_9

theorem dX1_tally_0 : decode cX1_tally 0 = .ok (.aload_n 0, 1) := by decide +kernel
theorem dX1_tally_1 : decode cX1_tally 1 = .ok (.dup, 1) := by decide +kernel
theorem dX1_tally_2 : decode cX1_tally 2 = .ok (.getfield 33, 3) := by decide +kernel
theorem dX1_tally_5 : decode cX1_tally 5 = .ok (.iconst 1, 1) := by decide +kernel
theorem dX1_tally_6 : decode cX1_tally 6 = .ok (.iadd, 1) := by decide +kernel
theorem dX1_tally_7 : decode cX1_tally 7 = .ok (.putfield 33, 3) := by decide +kernel
theorem dX1_tally_10 : decode cX1_tally 10 = .ok (.aload_n 0, 1) := by decide +kernel
theorem dX1_tally_11 : decode cX1_tally 11 = .ok (.getfield 30, 3) := by decide +kernel
theorem dX1_tally_14 : decode cX1_tally 14 = .ok (.iload_n 1, 1) := by decide +kernel
theorem dX1_tally_15 : decode cX1_tally 15 = .ok (.aload_n 0, 1) := by decide +kernel
theorem dX1_tally_16 : decode cX1_tally 16 = .ok (.getfield 30, 3) := by decide +kernel
theorem dX1_tally_19 : decode cX1_tally 19 = .ok (.iload_n 1, 1) := by decide +kernel
theorem dX1_tally_20 : decode cX1_tally 20 = .ok (.invokestatic 47, 3) := by decide +kernel
theorem dX1_tally_23 : decode cX1_tally 23 = .ok (.iconst 1, 1) := by decide +kernel
theorem dX1_tally_24 : decode cX1_tally 24 = .ok (.iadd, 1) := by decide +kernel
theorem dX1_tally_25 : decode cX1_tally 25 = .ok (.invokestatic 71, 3) := by decide +kernel
theorem dX1_tally_28 : decode cX1_tally 28 = .ok (.aload_n 0, 1) := by decide +kernel
theorem dX1_tally_29 : decode cX1_tally 29 = .ok (.aload_n 2, 1) := by decide +kernel
theorem dX1_tally_30 : decode cX1_tally 30 = .ok (.getfield 75, 3) := by decide +kernel
theorem dX1_tally_33 : decode cX1_tally 33 = .ok (.putfield 37, 3) := by decide +kernel
theorem dX1_tally_36 : decode cX1_tally 36 = .ok (.aload_n 0, 1) := by decide +kernel
theorem dX1_tally_37 : decode cX1_tally 37 = .ok (.aload_n 0, 1) := by decide +kernel
theorem dX1_tally_38 : decode cX1_tally 38 = .ok (.getfield 40, 3) := by decide +kernel
theorem dX1_tally_41 : decode cX1_tally 41 = .ok (.aload_n 2, 1) := by decide +kernel
theorem dX1_tally_42 : decode cX1_tally 42 = .ok (.invokevirtual 80, 3) := by decide +kernel
theorem dX1_tally_45 : decode cX1_tally 45 = .ok (.invokestatic 62, 3) := by decide +kernel
theorem dX1_tally_48 : decode cX1_tally 48 = .ok (.putfield 40, 3) := by decide +kernel
theorem dX1_tally_51 : decode cX1_tally 51 = .ok (.aload_n 0, 1) := by decide +kernel
theorem dX1_tally_52 : decode cX1_tally 52 = .ok (.getfield 27, 3) := by decide +kernel
theorem dX1_tally_55 : decode cX1_tally 55 = .ok (.iconst 3, 1) := by decide +kernel
theorem dX1_tally_56 : decode cX1_tally 56 = .ok (.invokestatic 47, 3) := by decide +kernel
theorem dX1_tally_59 : decode cX1_tally 59 = .ok (.istore_n 3, 1) := by decide +kernel
theorem dX1_tally_60 : decode cX1_tally 60 = .ok (.iload_n 3, 1) := by decide +kernel
theorem dX1_tally_61 : decode cX1_tally 61 = .ok (.ifCond .le 16, 3) := by decide +kernel
theorem dX1_tally_64 : decode cX1_tally 64 = .ok (.aload_n 0, 1) := by decide +kernel
theorem dX1_tally_65 : decode cX1_tally 65 = .ok (.getfield 33, 3) := by decide +kernel
theorem dX1_tally_68 : decode cX1_tally 68 = .ok (.iload_n 3, 1) := by decide +kernel
theorem dX1_tally_69 : decode cX1_tally 69 = .ok (.irem, 1) := by decide +kernel
theorem dX1_tally_70 : decode cX1_tally 70 = .ok (.ifCond .ne 7, 3) := by decide +kernel
theorem dX1_tally_73 : decode cX1_tally 73 = .ok (.iconst 1, 1) := by decide +kernel
theorem dX1_tally_74 : decode cX1_tally 74 = .ok (.goto 4, 3) := by decide +kernel
theorem dX1_tally_77 : decode cX1_tally 77 = .ok (.iconst 0, 1) := by decide +kernel
theorem dX1_tally_78 : decode cX1_tally 78 = .ok (.istore 4, 2) := by decide +kernel
theorem dX1_tally_80 : decode cX1_tally 80 = .ok (.iconst 0, 1) := by decide +kernel
theorem dX1_tally_81 : decode cX1_tally 81 = .ok (.istore 5, 2) := by decide +kernel
theorem dX1_tally_83 : decode cX1_tally 83 = .ok (.iload 5, 2) := by decide +kernel
theorem dX1_tally_85 : decode cX1_tally 85 = .ok (.iconst 2, 1) := by decide +kernel
theorem dX1_tally_86 : decode cX1_tally 86 = .ok (.if_icmp .ge 58, 3) := by decide +kernel
theorem dX1_tally_89 : decode cX1_tally 89 = .ok (.aload_n 0, 1) := by decide +kernel
theorem dX1_tally_90 : decode cX1_tally 90 = .ok (.getfield 15, 3) := by decide +kernel
theorem dX1_tally_93 : decode cX1_tally 93 = .ok (.iload 5, 2) := by decide +kernel
theorem dX1_tally_95 : decode cX1_tally 95 = .ok (.aload_n 0, 1) := by decide +kernel
theorem dX1_tally_96 : decode cX1_tally 96 = .ok (.getfield 15, 3) := by decide +kernel
theorem dX1_tally_99 : decode cX1_tally 99 = .ok (.iload 5, 2) := by decide +kernel
theorem dX1_tally_101 : decode cX1_tally 101 = .ok (.invokestatic 47, 3) := by decide +kernel
theorem dX1_tally_104 : decode cX1_tally 104 = .ok (.iconst 1, 1) := by decide +kernel
theorem dX1_tally_105 : decode cX1_tally 105 = .ok (.iadd, 1) := by decide +kernel
theorem dX1_tally_106 : decode cX1_tally 106 = .ok (.invokestatic 71, 3) := by decide +kernel
theorem dX1_tally_109 : decode cX1_tally 109 = .ok (.iload 4, 2) := by decide +kernel
theorem dX1_tally_111 : decode cX1_tally 111 = .ok (.ifCond .eq 27, 3) := by decide +kernel
theorem dX1_tally_114 : decode cX1_tally 114 = .ok (.aload_n 0, 1) := by decide +kernel
theorem dX1_tally_115 : decode cX1_tally 115 = .ok (.getfield 9, 3) := by decide +kernel
theorem dX1_tally_118 : decode cX1_tally 118 = .ok (.iload 5, 2) := by decide +kernel
theorem dX1_tally_120 : decode cX1_tally 120 = .ok (.iconst 1, 1) := by decide +kernel
theorem dX1_tally_121 : decode cX1_tally 121 = .ok (.aload_n 0, 1) := by decide +kernel
theorem dX1_tally_122 : decode cX1_tally 122 = .ok (.getfield 9, 3) := by decide +kernel
theorem dX1_tally_125 : decode cX1_tally 125 = .ok (.iload 5, 2) := by decide +kernel
theorem dX1_tally_127 : decode cX1_tally 127 = .ok (.invokestatic 47, 3) := by decide +kernel
theorem dX1_tally_130 : decode cX1_tally 130 = .ok (.iconst 1, 1) := by decide +kernel
theorem dX1_tally_131 : decode cX1_tally 131 = .ok (.isub, 1) := by decide +kernel
theorem dX1_tally_132 : decode cX1_tally 132 = .ok (.invokestatic 62, 3) := by decide +kernel
theorem dX1_tally_135 : decode cX1_tally 135 = .ok (.invokestatic 71, 3) := by decide +kernel
theorem dX1_tally_138 : decode cX1_tally 138 = .ok (.iinc 5 1, 3) := by decide +kernel
theorem dX1_tally_141 : decode cX1_tally 141 = .ok (.goto (-58), 3) := by decide +kernel
theorem dX1_tally_144 : decode cX1_tally 144 = .ok (.return_, 1) := by decide +kernel
abbrev zX1_tally : List Cond := .code yX1_tally cX1_tally 6 none :: BIG
def fX1_tally_l83 (ex : ExT)  (K83 : (ShT × Int32 × Int32) → Option (ShT)) (v83 : ShT × Int32 × Int32) : Option (ShT) := (if 2 ≤ v83.2.2 then some v83.1 else (fX2_at 2 v83.1.2.1 v83.2.2).bind (fun r9 => (fX2_put 2 v83.1.2.1 v83.2.2 (r9 + 1)).bind (fun r10 => (if v83.2.1 = 0 then K83 ((v83.1.1, r10, v83.1.2.2.1, v83.1.2.2.2.1, v83.1.2.2.2.2.1, v83.1.2.2.2.2.2.1, v83.1.2.2.2.2.2.2.1, v83.1.2.2.2.2.2.2.2.1, v83.1.2.2.2.2.2.2.2.2.1, v83.1.2.2.2.2.2.2.2.2.2), v83.2.1, v83.2.2 + 1) else (fX2_at 2 v83.1.1 v83.2.2).bind (fun r12 => (fX2_put 2 v83.1.1 v83.2.2 (imax 1 (r12 - 1))).bind (fun r13 => K83 ((r13, r10, v83.1.2.2.1, v83.1.2.2.2.1, v83.1.2.2.2.2.1, v83.1.2.2.2.2.2.1, v83.1.2.2.2.2.2.2.1, v83.1.2.2.2.2.2.2.2.1, v83.1.2.2.2.2.2.2.2.2.1, v83.1.2.2.2.2.2.2.2.2.2), v83.2.1, v83.2.2 + 1)))))))
def fX1_tally (x : ShT) (ex : ExT) (v : Int32) : Option (ShT) := (fX2_at 6 x.2.2.2.2.2.2.1 v).bind (fun r1 => (fX2_put 6 x.2.2.2.2.2.2.1 v (r1 + 1)).bind (fun r2 => (fX0_spread ex).bind (fun r3 => (fX2_at 4 x.2.2.2.2.2.1 3).bind (fun r4 => (if r4 ≤ 0 then lp (fX1_tally_l83 ex) 2000 ((x.1, x.2.1, x.2.2.1, x.2.2.2.1, x.2.2.2.2.1, x.2.2.2.2.2.1, r2, (x.2.2.2.2.2.2.2.1 + 1), ex.2.2.2.1, (imax x.2.2.2.2.2.2.2.2.2 r3)), 0, 0) else gd (nz r4) ((if ((x.2.2.2.2.2.2.2.1 + 1) - (x.2.2.2.2.2.2.2.1 + 1) / r4 * r4) = 0 then lp (fX1_tally_l83 ex) 2000 ((x.1, x.2.1, x.2.2.1, x.2.2.2.1, x.2.2.2.2.1, x.2.2.2.2.2.1, r2, (x.2.2.2.2.2.2.2.1 + 1), ex.2.2.2.1, (imax x.2.2.2.2.2.2.2.2.2 r3)), 1, 0) else lp (fX1_tally_l83 ex) 2000 ((x.1, x.2.1, x.2.2.1, x.2.2.2.1, x.2.2.2.2.1, x.2.2.2.2.2.1, r2, (x.2.2.2.2.2.2.2.1 + 1), ex.2.2.2.1, (imax x.2.2.2.2.2.2.2.2.2 r3)), 0, 0))))))))
set_option maxHeartbeats 4000000 in
set_option maxRecDepth 100000 in
theorem mtX1_tally (l : Launch) (D : va_G) (t : Nat → ClassId) (xa : Nat) (xb : Nat → Nat) (x : ShT) (ea : Nat) (eb : Nat → Nat) (ex : ExT) (v : Int32) (out : ShT) (h : fX1_tally x ex v = some out)  (sz : Nat) : Met l yX1_tally zX1_tally ({ frames := 1, cells := 0, slots := 0, locals := 22 }) (sPc D t (gS t xa xb x ++ (gE t ea eb ex)) sz [.ref xa, .int v, .ref ea]) (qV D t (gS t xa xb out ++ (gE t ea eb ex)) (va_A (gS t xa xb x ++ (gE t ea eb ex)) sz)) 0 0 (va_A (gS t xa xb x ++ (gE t ea eb ex)) sz) := by
  refine met_of (Qf := fun A => qV D t (gS t xa xb out ++ (gE t ea eb ex)) A) (cc := cX1_tally) (maxL := 6) (ret := none) (by decide) rfl (Nat.le_of_ble_eq_true rfl) ?_
  intro p e s m args below meth c A hx hb hr hml hts hown hlocks hA hP hK hD hE hS ls hl
  have htB : ∀ w ∈ BIG, w.before args s = true := fun w h => hts w (List.mem_cons_of_mem _ h)
  have hown : s.vm.findClass RX1 = some m.cls := hown
  have hl : lv_has ls 6 [(0, .ref xa), (1, .int v), (2, .ref ea)] := hl
  unfold fX1_tally at h
  have J83 : ∀ (fu83 : Nat) (v83 : ShT × Int32 × Int32), lp (fX1_tally_l83 ex) fu83 v83 = some out → ∀ (H : Heap) (locs : List Loc), va_P D vwCl (gS t xa xb v83.1 ++ (gE t ea eb ex)) H → va_D A (gS t xa xb v83.1 ++ (gE t ea eb ex)) → va_S A s.heap H locs → ∀ ls : Array Slot, lv_has ls 6 [(0, .ref xa), (4, .int v83.2.1), (5, .int v83.2.2)] → W p l e ({ frames := 1, cells := 0, slots := 0, locals := 22 }) s m args below meth c H locs 0 0 (MQ below (qV D t (gS t xa xb out ++ (gE t ea eb ex)) A) args s 0 0 A) (F0 m 83 ls []) := by
    intro fu83
    induction fu83 with
    | zero => intro v83 h; cases h
    | succ fu83 ih83 =>
      intro v83 h H locs hP hD hS ls hl
      have h : fX1_tally_l83 ex (lp (fX1_tally_l83 ex) fu83) v83 = some out := h
      unfold fX1_tally_l83 at h
      refine lv_iload hx hb dX1_tally_83 (lv_at hl 2 rfl) ?_
      refine lv_iconst (v := 2) hx hb dX1_tally_85 (by decide) ?_
      refine lv_icmp_ge (tgt := 144) hx hb dX1_tally_86 (by decide) (fun c8 => ?_) (fun c8 => ?_)
      · have h := it_p c8 h
        obtain rfl := os h
        exact ret_v hx hb hr hlocks hP hK hD hS dX1_tally_144
      · have h := it_n c8 h
        refine lv_aload_n hx hb dX1_tally_89 rfl (lv_at hl 0 rfl) ?_
        refine va_get (D := D) (ci := 1) (v := .ref (xb 1)) (C := RX1) (T := TX1) (N := 10) hx hb htB inlX1 hown hK hP 0 rfl rfl 1 (by decide) (htB _ kw34) (fun _ h9 => h9) rfl dX1_tally_90 ?_
        refine lv_iload hx hb dX1_tally_93 (lv_at hl 2 rfl) ?_
        refine lv_aload_n hx hb dX1_tally_95 rfl (lv_at hl 0 rfl) ?_
        refine va_get (D := D) (ci := 1) (v := .ref (xb 1)) (C := RX1) (T := TX1) (N := 10) hx hb htB inlX1 hown hK hP 0 rfl rfl 1 (by decide) (htB _ kw34) (fun _ h9 => h9) rfl dX1_tally_96 ?_
        refine lv_iload hx hb dX1_tally_99 (lv_at hl 2 rfl) ?_
        obtain ⟨r9, h9, h⟩ := ob h
        refine call_i (v := r9) (wc := (gA t (xb 1) 2 v83.1.2.1)) (wc' := (gA t (xb 1) 2 v83.1.2.1)) (ws' := (gS t xa xb v83.1 ++ (gE t ea eb ex))) (cutI (wc := (gA t (xb 1) 2 v83.1.2.1)) (wc' := (gA t (xb 1) 2 v83.1.2.1)) (ws' := (gS t xa xb v83.1 ++ (gE t ea eb ex))) [2] hP hD hS hA rfl rfl rfl rfl) hS (fun hPc hDc => va_runSN (As := [.ref (xb 1), .int v83.2.2]) (rest := [.int v83.2.2, .ref (xb 1)]) ⟨hx, hb, hml, hown, hts⟩ (mtX2_at l D t (xb 1) 2 v83.1.2.1 v83.2.2 r9 h9 (by decide) _) ⟨va_cnB 2 hts (gB kw106) rfl rfl rfl hE.2.2.2.1 (htB _ kw2) (by decide +kernel) ⟨Nat.le_of_ble_eq_true rfl, Nat.le_of_ble_eq_true rfl⟩, (htB _ kw105), trivial⟩ (sPc_S hPc hK hDc hE) rfl rfl hl.1 rfl (lv_room (Nat.le_of_ble_eq_true rfl)) dX1_tally_101 ⟨Nat.zero_le _, Nat.zero_le _⟩) (fun H locs hP hD hS => ?_)
        refine lv_iconst (v := 1) hx hb dX1_tally_104 (by decide) ?_
        refine lv_iadd hx hb dX1_tally_105 ?_
        obtain ⟨r10, h10, h⟩ := ob h
        refine call_v (wc := (gA t (xb 1) 2 v83.1.2.1)) (wc' := (gA t (xb 1) 2 r10)) (ws' := (gS t xa xb (v83.1.1, r10, v83.1.2.2.1, v83.1.2.2.2.1, v83.1.2.2.2.2.1, v83.1.2.2.2.2.2.1, v83.1.2.2.2.2.2.2.1, v83.1.2.2.2.2.2.2.2.1, v83.1.2.2.2.2.2.2.2.2.1, v83.1.2.2.2.2.2.2.2.2.2) ++ (gE t ea eb ex))) (cutI (wc := (gA t (xb 1) 2 v83.1.2.1)) (wc' := (gA t (xb 1) 2 r10)) (ws' := (gS t xa xb (v83.1.1, r10, v83.1.2.2.1, v83.1.2.2.2.1, v83.1.2.2.2.2.1, v83.1.2.2.2.2.2.1, v83.1.2.2.2.2.2.2.1, v83.1.2.2.2.2.2.2.2.1, v83.1.2.2.2.2.2.2.2.2.1, v83.1.2.2.2.2.2.2.2.2.2) ++ (gE t ea eb ex))) [2] hP hD hS hA rfl rfl rfl rfl) hS (fun hPc hDc => va_runSN (As := [.ref (xb 1), .int v83.2.2, .int (r9 + 1)]) (rest := []) ⟨hx, hb, hml, hown, hts⟩ (mtX2_put l D t (xb 1) 2 v83.1.2.1 v83.2.2 (r9 + 1) r10 h10 (by decide) _) ⟨va_cnB 3 hts (gB kw109) rfl rfl rfl hE.2.2.2.2.2 (htB _ kw2) (by decide +kernel) ⟨Nat.le_of_ble_eq_true rfl, Nat.le_of_ble_eq_true rfl⟩, (htB _ kw108), trivial⟩ (sPc_S hPc hK hDc hE) rfl rfl hl.1 rfl (lv_room (Nat.le_of_ble_eq_true rfl)) dX1_tally_106 ⟨Nat.zero_le _, Nat.zero_le _⟩) (fun H locs hP hD hS => ?_)
        refine lv_iload hx hb dX1_tally_109 (lv_at hl 1 rfl) ?_
        refine lv_if_eq (tgt := 138) hx hb dX1_tally_111 (by decide) (fun c11 => ?_) (fun c11 => ?_)
        · have h := it_p c11 h
          refine lv_iinc (v := v83.2.2 + 1) (lv' := [(5, .int (v83.2.2 + 1)), (0, .ref xa), (4, .int v83.2.1)]) hx hb dX1_tally_138 hl (k := 2) rfl rfl (by decide) rfl (fun ls hl => ?_)
          refine lv_goto (tgt := 83) hx hb dX1_tally_141 (by decide) ?_
          exact ih83 ((v83.1.1, r10, v83.1.2.2.1, v83.1.2.2.2.1, v83.1.2.2.2.2.1, v83.1.2.2.2.2.2.1, v83.1.2.2.2.2.2.2.1, v83.1.2.2.2.2.2.2.2.1, v83.1.2.2.2.2.2.2.2.2.1, v83.1.2.2.2.2.2.2.2.2.2), v83.2.1, v83.2.2 + 1) h _ _ hP hD hS _ (lv_sub hl [1, 2, 0] rfl)
        · have h := it_n c11 h
          refine lv_aload_n hx hb dX1_tally_114 rfl (lv_at hl 0 rfl) ?_
          refine va_get (D := D) (ci := 1) (v := .ref (xb 0)) (C := RX1) (T := TX1) (N := 10) hx hb htB inlX1 hown hK hP 0 rfl rfl 0 (by decide) (htB _ kw33) (fun _ h9 => h9) rfl dX1_tally_115 ?_
          refine lv_iload hx hb dX1_tally_118 (lv_at hl 2 rfl) ?_
          refine lv_iconst (v := 1) hx hb dX1_tally_120 (by decide) ?_
          refine lv_aload_n hx hb dX1_tally_121 rfl (lv_at hl 0 rfl) ?_
          refine va_get (D := D) (ci := 1) (v := .ref (xb 0)) (C := RX1) (T := TX1) (N := 10) hx hb htB inlX1 hown hK hP 0 rfl rfl 0 (by decide) (htB _ kw33) (fun _ h9 => h9) rfl dX1_tally_122 ?_
          refine lv_iload hx hb dX1_tally_125 (lv_at hl 2 rfl) ?_
          obtain ⟨r12, h12, h⟩ := ob h
          refine call_i (v := r12) (wc := (gA t (xb 0) 2 v83.1.1)) (wc' := (gA t (xb 0) 2 v83.1.1)) (ws' := (gS t xa xb (v83.1.1, r10, v83.1.2.2.1, v83.1.2.2.2.1, v83.1.2.2.2.2.1, v83.1.2.2.2.2.2.1, v83.1.2.2.2.2.2.2.1, v83.1.2.2.2.2.2.2.2.1, v83.1.2.2.2.2.2.2.2.2.1, v83.1.2.2.2.2.2.2.2.2.2) ++ (gE t ea eb ex))) (cutI (wc := (gA t (xb 0) 2 v83.1.1)) (wc' := (gA t (xb 0) 2 v83.1.1)) (ws' := (gS t xa xb (v83.1.1, r10, v83.1.2.2.1, v83.1.2.2.2.1, v83.1.2.2.2.2.1, v83.1.2.2.2.2.2.1, v83.1.2.2.2.2.2.2.1, v83.1.2.2.2.2.2.2.2.1, v83.1.2.2.2.2.2.2.2.2.1, v83.1.2.2.2.2.2.2.2.2.2) ++ (gE t ea eb ex))) [1] hP hD hS hA rfl rfl rfl rfl) hS (fun hPc hDc => va_runSN (As := [.ref (xb 0), .int v83.2.2]) (rest := [.int 1, .int v83.2.2, .ref (xb 0)]) ⟨hx, hb, hml, hown, hts⟩ (mtX2_at l D t (xb 0) 2 v83.1.1 v83.2.2 r12 h12 (by decide) _) ⟨va_cnB 2 hts (gB kw106) rfl rfl rfl hE.2.2.2.1 (htB _ kw2) (by decide +kernel) ⟨Nat.le_of_ble_eq_true rfl, Nat.le_of_ble_eq_true rfl⟩, (htB _ kw105), trivial⟩ (sPc_S hPc hK hDc hE) rfl rfl hl.1 rfl (lv_room (Nat.le_of_ble_eq_true rfl)) dX1_tally_127 ⟨Nat.zero_le _, Nat.zero_le _⟩) (fun H locs hP hD hS => ?_)
          refine lv_iconst (v := 1) hx hb dX1_tally_130 (by decide) ?_
          refine lv_isub hx hb dX1_tally_131 ?_
          refine va_mmax hx hb (by rw [hml]; exact hl.1.symm) hown (htB _ kw245) (htB _ kw235) (htB _ kw92) (htB _ kw236) (Nat.le_of_ble_eq_true rfl) (Nat.le_of_ble_eq_true rfl) (Nat.zero_le _) (Nat.zero_le _) dX1_tally_132 ?_
          obtain ⟨r13, h13, h⟩ := ob h
          refine call_v (wc := (gA t (xb 0) 2 v83.1.1)) (wc' := (gA t (xb 0) 2 r13)) (ws' := (gS t xa xb (r13, r10, v83.1.2.2.1, v83.1.2.2.2.1, v83.1.2.2.2.2.1, v83.1.2.2.2.2.2.1, v83.1.2.2.2.2.2.2.1, v83.1.2.2.2.2.2.2.2.1, v83.1.2.2.2.2.2.2.2.2.1, v83.1.2.2.2.2.2.2.2.2.2) ++ (gE t ea eb ex))) (cutI (wc := (gA t (xb 0) 2 v83.1.1)) (wc' := (gA t (xb 0) 2 r13)) (ws' := (gS t xa xb (r13, r10, v83.1.2.2.1, v83.1.2.2.2.1, v83.1.2.2.2.2.1, v83.1.2.2.2.2.2.1, v83.1.2.2.2.2.2.2.1, v83.1.2.2.2.2.2.2.2.1, v83.1.2.2.2.2.2.2.2.2.1, v83.1.2.2.2.2.2.2.2.2.2) ++ (gE t ea eb ex))) [1] hP hD hS hA rfl rfl rfl rfl) hS (fun hPc hDc => va_runSN (As := [.ref (xb 0), .int v83.2.2, .int (imax 1 (r12 - 1))]) (rest := []) ⟨hx, hb, hml, hown, hts⟩ (mtX2_put l D t (xb 0) 2 v83.1.1 v83.2.2 (imax 1 (r12 - 1)) r13 h13 (by decide) _) ⟨va_cnB 3 hts (gB kw109) rfl rfl rfl hE.2.2.2.2.2 (htB _ kw2) (by decide +kernel) ⟨Nat.le_of_ble_eq_true rfl, Nat.le_of_ble_eq_true rfl⟩, (htB _ kw108), trivial⟩ (sPc_S hPc hK hDc hE) rfl rfl hl.1 rfl (lv_room (Nat.le_of_ble_eq_true rfl)) dX1_tally_135 ⟨Nat.zero_le _, Nat.zero_le _⟩) (fun H locs hP hD hS => ?_)
          refine lv_iinc (v := v83.2.2 + 1) (lv' := [(5, .int (v83.2.2 + 1)), (0, .ref xa), (4, .int v83.2.1)]) hx hb dX1_tally_138 hl (k := 2) rfl rfl (by decide) rfl (fun ls hl => ?_)
          refine lv_goto (tgt := 83) hx hb dX1_tally_141 (by decide) ?_
          exact ih83 ((r13, r10, v83.1.2.2.1, v83.1.2.2.2.1, v83.1.2.2.2.2.1, v83.1.2.2.2.2.2.1, v83.1.2.2.2.2.2.2.1, v83.1.2.2.2.2.2.2.2.1, v83.1.2.2.2.2.2.2.2.2.1, v83.1.2.2.2.2.2.2.2.2.2), v83.2.1, v83.2.2 + 1) h _ _ hP hD hS _ (lv_sub hl [1, 2, 0] rfl)
  refine lv_aload_n hx hb dX1_tally_0 rfl (lv_at hl 0 rfl) ?_
  refine lv_dup hx hb dX1_tally_1 rfl ?_
  refine va_get (D := D) (ci := 1) (v := .int x.2.2.2.2.2.2.2.1) (C := RX1) (T := TX1) (N := 10) hx hb htB inlX1 hown hK hP 0 rfl rfl 7 (by decide) (htB _ kw40) (fun _ h9 => h9) rfl dX1_tally_2 ?_
  refine lv_iconst (v := 1) hx hb dX1_tally_5 (by decide) ?_
  refine lv_iadd hx hb dX1_tally_6 ?_
  refine va_put (D := D) (ci := 1) (v := .int (x.2.2.2.2.2.2.2.1 + 1)) (ty := .int) (C := RX1) (T := TX1) (N := 10) hx hb htB inlX1 tyX1 tyX1_ok nmX1 hown hK hP hD hS 0 rfl rfl 7 (by decide) (htB _ kw40) (fun _ h9 => h9) rfl (by decide +kernel) rfl rfl (Nat.le_of_ble_eq_true rfl) dX1_tally_7 (fun H locs hP hD hS => ?_)
  have hP : va_P D vwCl (gS t xa xb (x.1, x.2.1, x.2.2.1, x.2.2.2.1, x.2.2.2.2.1, x.2.2.2.2.2.1, x.2.2.2.2.2.2.1, (x.2.2.2.2.2.2.2.1 + 1), x.2.2.2.2.2.2.2.2.1, x.2.2.2.2.2.2.2.2.2) ++ (gE t ea eb ex)) H := hP
  have hD : va_D A (gS t xa xb (x.1, x.2.1, x.2.2.1, x.2.2.2.1, x.2.2.2.2.1, x.2.2.2.2.2.1, x.2.2.2.2.2.2.1, (x.2.2.2.2.2.2.2.1 + 1), x.2.2.2.2.2.2.2.2.1, x.2.2.2.2.2.2.2.2.2) ++ (gE t ea eb ex)) := hD
  refine lv_aload_n hx hb dX1_tally_10 rfl (lv_at hl 0 rfl) ?_
  refine va_get (D := D) (ci := 1) (v := .ref (xb 6)) (C := RX1) (T := TX1) (N := 10) hx hb htB inlX1 hown hK hP 0 rfl rfl 6 (by decide) (htB _ kw39) (fun _ h9 => h9) rfl dX1_tally_11 ?_
  refine lv_iload_n hx hb dX1_tally_14 rfl (lv_at hl 1 rfl) ?_
  refine lv_aload_n hx hb dX1_tally_15 rfl (lv_at hl 0 rfl) ?_
  refine va_get (D := D) (ci := 1) (v := .ref (xb 6)) (C := RX1) (T := TX1) (N := 10) hx hb htB inlX1 hown hK hP 0 rfl rfl 6 (by decide) (htB _ kw39) (fun _ h9 => h9) rfl dX1_tally_16 ?_
  refine lv_iload_n hx hb dX1_tally_19 rfl (lv_at hl 1 rfl) ?_
  obtain ⟨r1, h1, h⟩ := ob h
  refine call_i (v := r1) (wc := (gA t (xb 6) 6 x.2.2.2.2.2.2.1)) (wc' := (gA t (xb 6) 6 x.2.2.2.2.2.2.1)) (ws' := (gS t xa xb (x.1, x.2.1, x.2.2.1, x.2.2.2.1, x.2.2.2.2.1, x.2.2.2.2.2.1, x.2.2.2.2.2.2.1, (x.2.2.2.2.2.2.2.1 + 1), x.2.2.2.2.2.2.2.2.1, x.2.2.2.2.2.2.2.2.2) ++ (gE t ea eb ex))) (cutI (wc := (gA t (xb 6) 6 x.2.2.2.2.2.2.1)) (wc' := (gA t (xb 6) 6 x.2.2.2.2.2.2.1)) (ws' := (gS t xa xb (x.1, x.2.1, x.2.2.1, x.2.2.2.1, x.2.2.2.2.1, x.2.2.2.2.2.1, x.2.2.2.2.2.2.1, (x.2.2.2.2.2.2.2.1 + 1), x.2.2.2.2.2.2.2.2.1, x.2.2.2.2.2.2.2.2.2) ++ (gE t ea eb ex))) [7] hP hD hS hA rfl rfl rfl rfl) hS (fun hPc hDc => va_runSN (As := [.ref (xb 6), .int v]) (rest := [.int v, .ref (xb 6)]) ⟨hx, hb, hml, hown, hts⟩ (mtX2_at l D t (xb 6) 6 x.2.2.2.2.2.2.1 v r1 h1 (by decide) _) ⟨va_cnB 2 hts (gB kw106) rfl rfl rfl hE.2.2.2.1 (htB _ kw2) (by decide +kernel) ⟨Nat.le_of_ble_eq_true rfl, Nat.le_of_ble_eq_true rfl⟩, (htB _ kw105), trivial⟩ (sPc_S hPc hK hDc hE) rfl rfl hl.1 rfl (lv_room (Nat.le_of_ble_eq_true rfl)) dX1_tally_20 ⟨Nat.zero_le _, Nat.zero_le _⟩) (fun H locs hP hD hS => ?_)
  refine lv_iconst (v := 1) hx hb dX1_tally_23 (by decide) ?_
  refine lv_iadd hx hb dX1_tally_24 ?_
  obtain ⟨r2, h2, h⟩ := ob h
  refine call_v (wc := (gA t (xb 6) 6 x.2.2.2.2.2.2.1)) (wc' := (gA t (xb 6) 6 r2)) (ws' := (gS t xa xb (x.1, x.2.1, x.2.2.1, x.2.2.2.1, x.2.2.2.2.1, x.2.2.2.2.2.1, r2, (x.2.2.2.2.2.2.2.1 + 1), x.2.2.2.2.2.2.2.2.1, x.2.2.2.2.2.2.2.2.2) ++ (gE t ea eb ex))) (cutI (wc := (gA t (xb 6) 6 x.2.2.2.2.2.2.1)) (wc' := (gA t (xb 6) 6 r2)) (ws' := (gS t xa xb (x.1, x.2.1, x.2.2.1, x.2.2.2.1, x.2.2.2.2.1, x.2.2.2.2.2.1, r2, (x.2.2.2.2.2.2.2.1 + 1), x.2.2.2.2.2.2.2.2.1, x.2.2.2.2.2.2.2.2.2) ++ (gE t ea eb ex))) [7] hP hD hS hA rfl rfl rfl rfl) hS (fun hPc hDc => va_runSN (As := [.ref (xb 6), .int v, .int (r1 + 1)]) (rest := []) ⟨hx, hb, hml, hown, hts⟩ (mtX2_put l D t (xb 6) 6 x.2.2.2.2.2.2.1 v (r1 + 1) r2 h2 (by decide) _) ⟨va_cnB 3 hts (gB kw109) rfl rfl rfl hE.2.2.2.2.2 (htB _ kw2) (by decide +kernel) ⟨Nat.le_of_ble_eq_true rfl, Nat.le_of_ble_eq_true rfl⟩, (htB _ kw108), trivial⟩ (sPc_S hPc hK hDc hE) rfl rfl hl.1 rfl (lv_room (Nat.le_of_ble_eq_true rfl)) dX1_tally_25 ⟨Nat.zero_le _, Nat.zero_le _⟩) (fun H locs hP hD hS => ?_)
  refine lv_aload_n hx hb dX1_tally_28 rfl (lv_at hl 0 rfl) ?_
  refine lv_aload_n hx hb dX1_tally_29 rfl (lv_at hl 2 rfl) ?_
  refine va_get (D := D) (ci := 0) (v := .int ex.2.2.2.1) (C := RX0) (T := TX0) (N := 10) hx hb htB inlX0 hown hK hP 8 rfl rfl 3 (by decide) (htB _ kw277) (fun _ h9 => h9) rfl dX1_tally_30 ?_
  refine va_put (D := D) (ci := 1) (v := .int ex.2.2.2.1) (ty := .int) (C := RX1) (T := TX1) (N := 10) hx hb htB inlX1 tyX1 tyX1_ok nmX1 hown hK hP hD hS 0 rfl rfl 8 (by decide) (htB _ kw41) (fun _ h9 => h9) rfl (by decide +kernel) rfl rfl (Nat.le_of_ble_eq_true rfl) dX1_tally_33 (fun H locs hP hD hS => ?_)
  have hP : va_P D vwCl (gS t xa xb (x.1, x.2.1, x.2.2.1, x.2.2.2.1, x.2.2.2.2.1, x.2.2.2.2.2.1, r2, (x.2.2.2.2.2.2.2.1 + 1), ex.2.2.2.1, x.2.2.2.2.2.2.2.2.2) ++ (gE t ea eb ex)) H := hP
  have hD : va_D A (gS t xa xb (x.1, x.2.1, x.2.2.1, x.2.2.2.1, x.2.2.2.2.1, x.2.2.2.2.2.1, r2, (x.2.2.2.2.2.2.2.1 + 1), ex.2.2.2.1, x.2.2.2.2.2.2.2.2.2) ++ (gE t ea eb ex)) := hD
  refine lv_aload_n hx hb dX1_tally_36 rfl (lv_at hl 0 rfl) ?_
  refine lv_aload_n hx hb dX1_tally_37 rfl (lv_at hl 0 rfl) ?_
  refine va_get (D := D) (ci := 1) (v := .int x.2.2.2.2.2.2.2.2.2) (C := RX1) (T := TX1) (N := 10) hx hb htB inlX1 hown hK hP 0 rfl rfl 9 (by decide) (htB _ kw42) (fun _ h9 => h9) rfl dX1_tally_38 ?_
  refine lv_aload_n hx hb dX1_tally_41 rfl (lv_at hl 2 rfl) ?_
  obtain ⟨r3, h3, h⟩ := ob h
  refine call_i (v := r3) (wc := (gE t ea eb ex)) (wc' := (gE t ea eb ex)) (ws' := (gS t xa xb (x.1, x.2.1, x.2.2.1, x.2.2.2.1, x.2.2.2.2.1, x.2.2.2.2.2.1, r2, (x.2.2.2.2.2.2.2.1 + 1), ex.2.2.2.1, x.2.2.2.2.2.2.2.2.2) ++ (gE t ea eb ex))) (cutB (bs := [gS t xa xb (x.1, x.2.1, x.2.2.1, x.2.2.2.1, x.2.2.2.2.1, x.2.2.2.2.2.1, r2, (x.2.2.2.2.2.2.2.1 + 1), ex.2.2.2.1, x.2.2.2.2.2.2.2.2.2), gE t ea eb ex]) (cs := [gE t ea eb ex]) (cs' := [gE t ea eb ex]) (bs' := [gS t xa xb (x.1, x.2.1, x.2.2.1, x.2.2.2.1, x.2.2.2.2.1, x.2.2.2.2.2.1, r2, (x.2.2.2.2.2.2.2.1 + 1), ex.2.2.2.1, x.2.2.2.2.2.2.2.2.2), gE t ea eb ex]) [1] hP hD hS hA rfl rfl rfl rfl) hS (fun hPc hDc => va_runV (As := []) (rest := [.int x.2.2.2.2.2.2.2.2.2, .ref xa]) ⟨hx, hb, hml, hown, hts⟩ (mtX0_spread l D t ea eb ex r3 h3 _) (cwV 0 hts (gBV kw278 kw279 kw280 kw21 kw281) rfl rfl rfl (by decide +kernel) ⟨Nat.le_of_ble_eq_true rfl, Nat.le_of_ble_eq_true rfl⟩) (sPc_V hPc hK hDc hE (va_recv hK hP (ci := 0) (q0 := 8) rfl rfl)) rfl rfl hl.1 rfl (lv_room (Nat.le_of_ble_eq_true rfl)) dX1_tally_42 ⟨Nat.zero_le _, Nat.zero_le _⟩) (fun H locs hP hD hS => ?_)
  refine va_mmax hx hb (by rw [hml]; exact hl.1.symm) hown (htB _ kw245) (htB _ kw235) (htB _ kw92) (htB _ kw236) (Nat.le_of_ble_eq_true rfl) (Nat.le_of_ble_eq_true rfl) (Nat.zero_le _) (Nat.zero_le _) dX1_tally_45 ?_
  refine va_put (D := D) (ci := 1) (v := .int (imax x.2.2.2.2.2.2.2.2.2 r3)) (ty := .int) (C := RX1) (T := TX1) (N := 10) hx hb htB inlX1 tyX1 tyX1_ok nmX1 hown hK hP hD hS 0 rfl rfl 9 (by decide) (htB _ kw42) (fun _ h9 => h9) rfl (by decide +kernel) rfl rfl (Nat.le_of_ble_eq_true rfl) dX1_tally_48 (fun H locs hP hD hS => ?_)
  have hP : va_P D vwCl (gS t xa xb (x.1, x.2.1, x.2.2.1, x.2.2.2.1, x.2.2.2.2.1, x.2.2.2.2.2.1, r2, (x.2.2.2.2.2.2.2.1 + 1), ex.2.2.2.1, (imax x.2.2.2.2.2.2.2.2.2 r3)) ++ (gE t ea eb ex)) H := hP
  have hD : va_D A (gS t xa xb (x.1, x.2.1, x.2.2.1, x.2.2.2.1, x.2.2.2.2.1, x.2.2.2.2.2.1, r2, (x.2.2.2.2.2.2.2.1 + 1), ex.2.2.2.1, (imax x.2.2.2.2.2.2.2.2.2 r3)) ++ (gE t ea eb ex)) := hD
  refine lv_aload_n hx hb dX1_tally_51 rfl (lv_at hl 0 rfl) ?_
  refine va_get (D := D) (ci := 1) (v := .ref (xb 5)) (C := RX1) (T := TX1) (N := 10) hx hb htB inlX1 hown hK hP 0 rfl rfl 5 (by decide) (htB _ kw38) (fun _ h9 => h9) rfl dX1_tally_52 ?_
  refine lv_iconst (v := 3) hx hb dX1_tally_55 (by decide) ?_
  obtain ⟨r4, h4, h⟩ := ob h
  refine call_i (v := r4) (wc := (gA t (xb 5) 4 x.2.2.2.2.2.1)) (wc' := (gA t (xb 5) 4 x.2.2.2.2.2.1)) (ws' := (gS t xa xb (x.1, x.2.1, x.2.2.1, x.2.2.2.1, x.2.2.2.2.1, x.2.2.2.2.2.1, r2, (x.2.2.2.2.2.2.2.1 + 1), ex.2.2.2.1, (imax x.2.2.2.2.2.2.2.2.2 r3)) ++ (gE t ea eb ex))) (cutI (wc := (gA t (xb 5) 4 x.2.2.2.2.2.1)) (wc' := (gA t (xb 5) 4 x.2.2.2.2.2.1)) (ws' := (gS t xa xb (x.1, x.2.1, x.2.2.1, x.2.2.2.1, x.2.2.2.2.1, x.2.2.2.2.2.1, r2, (x.2.2.2.2.2.2.2.1 + 1), ex.2.2.2.1, (imax x.2.2.2.2.2.2.2.2.2 r3)) ++ (gE t ea eb ex))) [6] hP hD hS hA rfl rfl rfl rfl) hS (fun hPc hDc => va_runSN (As := [.ref (xb 5), .int 3]) (rest := []) ⟨hx, hb, hml, hown, hts⟩ (mtX2_at l D t (xb 5) 4 x.2.2.2.2.2.1 3 r4 h4 (by decide) _) ⟨va_cnB 2 hts (gB kw106) rfl rfl rfl hE.2.2.2.1 (htB _ kw2) (by decide +kernel) ⟨Nat.le_of_ble_eq_true rfl, Nat.le_of_ble_eq_true rfl⟩, (htB _ kw105), trivial⟩ (sPc_S hPc hK hDc hE) rfl rfl hl.1 rfl (lv_room (Nat.le_of_ble_eq_true rfl)) dX1_tally_56 ⟨Nat.zero_le _, Nat.zero_le _⟩) (fun H locs hP hD hS => ?_)
  refine lv_istore_n (lv' := [(3, .int r4), (0, .ref xa), (1, .int v), (2, .ref ea)]) hx hb dX1_tally_59 rfl hl (by decide) rfl (fun ls hl => ?_)
  refine lv_iload_n hx hb dX1_tally_60 rfl (lv_at hl 0 rfl) ?_
  refine lv_if_le (tgt := 77) hx hb dX1_tally_61 (by decide) (fun c5 => ?_) (fun c5 => ?_)
  · have h := it_p c5 h
    refine lv_iconst (v := 0) hx hb dX1_tally_77 (by decide) ?_
    refine lv_istore (lv' := [(4, .int 0), (3, .int r4), (0, .ref xa), (1, .int v), (2, .ref ea)]) hx hb dX1_tally_78 hl (by decide) rfl (fun ls hl => ?_)
    refine lv_iconst (v := 0) hx hb dX1_tally_80 (by decide) ?_
    refine lv_istore (lv' := [(5, .int 0), (4, .int 0), (3, .int r4), (0, .ref xa), (1, .int v), (2, .ref ea)]) hx hb dX1_tally_81 hl (by decide) rfl (fun ls hl => ?_)
    exact J83 2000 ((x.1, x.2.1, x.2.2.1, x.2.2.2.1, x.2.2.2.2.1, x.2.2.2.2.2.1, r2, (x.2.2.2.2.2.2.2.1 + 1), ex.2.2.2.1, (imax x.2.2.2.2.2.2.2.2.2 r3)), 0, 0) h _ _ hP hD hS _ (lv_sub hl [3, 1, 0] rfl)
  · have h := it_n c5 h
    refine lv_aload_n hx hb dX1_tally_64 rfl (lv_at hl 1 rfl) ?_
    refine va_get (D := D) (ci := 1) (v := .int (x.2.2.2.2.2.2.2.1 + 1)) (C := RX1) (T := TX1) (N := 10) hx hb htB inlX1 hown hK hP 0 rfl rfl 7 (by decide) (htB _ kw40) (fun _ h9 => h9) rfl dX1_tally_65 ?_
    refine lv_iload_n hx hb dX1_tally_68 rfl (lv_at hl 0 rfl) ?_
    obtain ⟨g6, h⟩ := og h
    refine lv_irem hx hb dX1_tally_69 (nz_ne g6) ?_
    refine lv_if_ne (tgt := 77) hx hb dX1_tally_70 (by decide) (fun c7 => ?_) (fun c7 => ?_)
    · have h := it_n c7 h
      refine lv_iconst (v := 0) hx hb dX1_tally_77 (by decide) ?_
      refine lv_istore (lv' := [(4, .int 0), (3, .int r4), (0, .ref xa), (1, .int v), (2, .ref ea)]) hx hb dX1_tally_78 hl (by decide) rfl (fun ls hl => ?_)
      refine lv_iconst (v := 0) hx hb dX1_tally_80 (by decide) ?_
      refine lv_istore (lv' := [(5, .int 0), (4, .int 0), (3, .int r4), (0, .ref xa), (1, .int v), (2, .ref ea)]) hx hb dX1_tally_81 hl (by decide) rfl (fun ls hl => ?_)
      exact J83 2000 ((x.1, x.2.1, x.2.2.1, x.2.2.2.1, x.2.2.2.2.1, x.2.2.2.2.2.1, r2, (x.2.2.2.2.2.2.2.1 + 1), ex.2.2.2.1, (imax x.2.2.2.2.2.2.2.2.2 r3)), 0, 0) h _ _ hP hD hS _ (lv_sub hl [3, 1, 0] rfl)
    · have h := it_p c7 h
      refine lv_iconst (v := 1) hx hb dX1_tally_73 (by decide) ?_
      refine lv_goto (tgt := 78) hx hb dX1_tally_74 (by decide) ?_
      refine lv_istore (lv' := [(4, .int 1), (3, .int r4), (0, .ref xa), (1, .int v), (2, .ref ea)]) hx hb dX1_tally_78 hl (by decide) rfl (fun ls hl => ?_)
      refine lv_iconst (v := 0) hx hb dX1_tally_80 (by decide) ?_
      refine lv_istore (lv' := [(5, .int 0), (4, .int 1), (3, .int r4), (0, .ref xa), (1, .int v), (2, .ref ea)]) hx hb dX1_tally_81 hl (by decide) rfl (fun ls hl => ?_)
      exact J83 2000 ((x.1, x.2.1, x.2.2.1, x.2.2.2.1, x.2.2.2.2.1, x.2.2.2.2.2.1, r2, (x.2.2.2.2.2.2.2.1 + 1), ex.2.2.2.1, (imax x.2.2.2.2.2.2.2.2.2 r3)), 1, 0) h _ _ hP hD hS _ (lv_sub hl [3, 1, 0] rfl)
end
section
theorem dX0_runCurtains_0 : decode cX0_runCurtains 0 = .ok (.aload_n 1, 1) := by decide +kernel
theorem dX0_runCurtains_1 : decode cX0_runCurtains 1 = .ok (.iconst 0, 1) := by decide +kernel
theorem dX0_runCurtains_2 : decode cX0_runCurtains 2 = .ok (.invokevirtual 44, 3) := by decide +kernel
theorem dX0_runCurtains_5 : decode cX0_runCurtains 5 = .ok (.istore_n 3, 1) := by decide +kernel
theorem dX0_runCurtains_6 : decode cX0_runCurtains 6 = .ok (.aload_n 1, 1) := by decide +kernel
theorem dX0_runCurtains_7 : decode cX0_runCurtains 7 = .ok (.iconst 1, 1) := by decide +kernel
theorem dX0_runCurtains_8 : decode cX0_runCurtains 8 = .ok (.invokevirtual 44, 3) := by decide +kernel
theorem dX0_runCurtains_11 : decode cX0_runCurtains 11 = .ok (.istore 4, 2) := by decide +kernel
theorem dX0_runCurtains_13 : decode cX0_runCurtains 13 = .ok (.iconst 0, 1) := by decide +kernel
theorem dX0_runCurtains_14 : decode cX0_runCurtains 14 = .ok (.istore 5, 2) := by decide +kernel
theorem dX0_runCurtains_16 : decode cX0_runCurtains 16 = .ok (.aload_n 1, 1) := by decide +kernel
theorem dX0_runCurtains_17 : decode cX0_runCurtains 17 = .ok (.iload_n 2, 1) := by decide +kernel
theorem dX0_runCurtains_18 : decode cX0_runCurtains 18 = .ok (.invokevirtual 49, 3) := by decide +kernel
theorem dX0_runCurtains_21 : decode cX0_runCurtains 21 = .ok (.istore 6, 2) := by decide +kernel
theorem dX0_runCurtains_23 : decode cX0_runCurtains 23 = .ok (.iconst 0, 1) := by decide +kernel
theorem dX0_runCurtains_24 : decode cX0_runCurtains 24 = .ok (.istore 7, 2) := by decide +kernel
theorem dX0_runCurtains_26 : decode cX0_runCurtains 26 = .ok (.iload 7, 2) := by decide +kernel
theorem dX0_runCurtains_28 : decode cX0_runCurtains 28 = .ok (.aload_n 0, 1) := by decide +kernel
theorem dX0_runCurtains_29 : decode cX0_runCurtains 29 = .ok (.getfield 9, 3) := by decide +kernel
theorem dX0_runCurtains_32 : decode cX0_runCurtains 32 = .ok (.arraylength, 1) := by decide +kernel
theorem dX0_runCurtains_33 : decode cX0_runCurtains 33 = .ok (.if_icmp .ge 75, 3) := by decide +kernel
theorem dX0_runCurtains_36 : decode cX0_runCurtains 36 = .ok (.iload 7, 2) := by decide +kernel
theorem dX0_runCurtains_38 : decode cX0_runCurtains 38 = .ok (.aload_n 0, 1) := by decide +kernel
theorem dX0_runCurtains_39 : decode cX0_runCurtains 39 = .ok (.getfield 15, 3) := by decide +kernel
theorem dX0_runCurtains_42 : decode cX0_runCurtains 42 = .ok (.arraylength, 1) := by decide +kernel
theorem dX0_runCurtains_43 : decode cX0_runCurtains 43 = .ok (.if_icmp .ge 65, 3) := by decide +kernel
theorem dX0_runCurtains_46 : decode cX0_runCurtains 46 = .ok (.iload 5, 2) := by decide +kernel
theorem dX0_runCurtains_48 : decode cX0_runCurtains 48 = .ok (.iload_n 3, 1) := by decide +kernel
theorem dX0_runCurtains_49 : decode cX0_runCurtains 49 = .ok (.aload_n 1, 1) := by decide +kernel
theorem dX0_runCurtains_50 : decode cX0_runCurtains 50 = .ok (.getfield 52, 3) := by decide +kernel
theorem dX0_runCurtains_53 : decode cX0_runCurtains 53 = .ok (.iload 7, 2) := by decide +kernel
theorem dX0_runCurtains_55 : decode cX0_runCurtains 55 = .ok (.invokestatic 55, 3) := by decide +kernel
theorem dX0_runCurtains_58 : decode cX0_runCurtains 58 = .ok (.iadd, 1) := by decide +kernel
theorem dX0_runCurtains_59 : decode cX0_runCurtains 59 = .ok (.iadd, 1) := by decide +kernel
theorem dX0_runCurtains_60 : decode cX0_runCurtains 60 = .ok (.istore 5, 2) := by decide +kernel
theorem dX0_runCurtains_62 : decode cX0_runCurtains 62 = .ok (.iload 5, 2) := by decide +kernel
theorem dX0_runCurtains_64 : decode cX0_runCurtains 64 = .ok (.iload 6, 2) := by decide +kernel
theorem dX0_runCurtains_66 : decode cX0_runCurtains 66 = .ok (.iload 4, 2) := by decide +kernel
theorem dX0_runCurtains_68 : decode cX0_runCurtains 68 = .ok (.iadd, 1) := by decide +kernel
theorem dX0_runCurtains_69 : decode cX0_runCurtains 69 = .ok (.aload_n 1, 1) := by decide +kernel
theorem dX0_runCurtains_70 : decode cX0_runCurtains 70 = .ok (.getfield 59, 3) := by decide +kernel
theorem dX0_runCurtains_73 : decode cX0_runCurtains 73 = .ok (.iload 7, 2) := by decide +kernel
theorem dX0_runCurtains_75 : decode cX0_runCurtains 75 = .ok (.invokestatic 55, 3) := by decide +kernel
theorem dX0_runCurtains_78 : decode cX0_runCurtains 78 = .ok (.iadd, 1) := by decide +kernel
theorem dX0_runCurtains_79 : decode cX0_runCurtains 79 = .ok (.invokestatic 62, 3) := by decide +kernel
theorem dX0_runCurtains_82 : decode cX0_runCurtains 82 = .ok (.istore 6, 2) := by decide +kernel
theorem dX0_runCurtains_84 : decode cX0_runCurtains 84 = .ok (.aload_n 0, 1) := by decide +kernel
theorem dX0_runCurtains_85 : decode cX0_runCurtains 85 = .ok (.getfield 9, 3) := by decide +kernel
theorem dX0_runCurtains_88 : decode cX0_runCurtains 88 = .ok (.iload 7, 2) := by decide +kernel
theorem dX0_runCurtains_90 : decode cX0_runCurtains 90 = .ok (.iload 5, 2) := by decide +kernel
theorem dX0_runCurtains_92 : decode cX0_runCurtains 92 = .ok (.iastore, 1) := by decide +kernel
theorem dX0_runCurtains_93 : decode cX0_runCurtains 93 = .ok (.aload_n 0, 1) := by decide +kernel
theorem dX0_runCurtains_94 : decode cX0_runCurtains 94 = .ok (.getfield 15, 3) := by decide +kernel
theorem dX0_runCurtains_97 : decode cX0_runCurtains 97 = .ok (.iload 7, 2) := by decide +kernel
theorem dX0_runCurtains_99 : decode cX0_runCurtains 99 = .ok (.iload 6, 2) := by decide +kernel
theorem dX0_runCurtains_101 : decode cX0_runCurtains 101 = .ok (.iastore, 1) := by decide +kernel
theorem dX0_runCurtains_102 : decode cX0_runCurtains 102 = .ok (.iinc 7 1, 3) := by decide +kernel
theorem dX0_runCurtains_105 : decode cX0_runCurtains 105 = .ok (.goto (-79), 3) := by decide +kernel
theorem dX0_runCurtains_108 : decode cX0_runCurtains 108 = .ok (.return_, 1) := by decide +kernel
abbrev zX0_runCurtains : List Cond := .code yX0_runCurtains cX0_runCurtains 8 none :: BIG
def fX0_runCurtains_l26 (x : ShT)  (K26 : (ExT × Int32 × Int32 × Int32 × Int32 × Int32) → Option (ExT)) (v26 : ExT × Int32 × Int32 × Int32 × Int32 × Int32) : Option (ExT) := (if 24 ≤ v26.2.2.2.2.2 then some v26.1 else (if 24 ≤ v26.2.2.2.2.2 then some v26.1 else (fX2_at 24 x.2.2.1 v26.2.2.2.2.2).bind (fun r6 => (fX2_at 24 x.2.2.2.1 v26.2.2.2.2.2).bind (fun r7 => gd (pin v26.2.2.2.2.2 24) (K26 (((upd v26.1.1 (Int32.toNatClampNeg v26.2.2.2.2.2) (v26.2.2.2.1 + (v26.2.1 + r6))), (upd v26.1.2.1 (Int32.toNatClampNeg v26.2.2.2.2.2) (imax (v26.2.2.2.1 + (v26.2.1 + r6)) ((v26.2.2.2.2.1 + v26.2.2.1) + r7))), v26.1.2.2.1, v26.1.2.2.2.1, v26.1.2.2.2.2.1, v26.1.2.2.2.2.2.1, v26.1.2.2.2.2.2.2.1, v26.1.2.2.2.2.2.2.2.1, v26.1.2.2.2.2.2.2.2.2.1, v26.1.2.2.2.2.2.2.2.2.2), v26.2.1, v26.2.2.1, v26.2.2.2.1 + (v26.2.1 + r6), imax (v26.2.2.2.1 + (v26.2.1 + r6)) ((v26.2.2.2.2.1 + v26.2.2.1) + r7), v26.2.2.2.2.2 + 1))))))
def fX0_runCurtains (ex : ExT) (x : ShT) (v : Int32) : Option (ExT) := (fX1_ticksWithoutDrag x 0).bind (fun r1 => (fX1_ticksWithoutDrag x 1).bind (fun r2 => (fX1_startOfSecond x v).bind (fun r3 => lp (fX0_runCurtains_l26 x) 2000 (ex, r1, r2, 0, r3, 0))))
set_option maxHeartbeats 4000000 in
set_option maxRecDepth 100000 in
theorem mtX0_runCurtains (l : Launch) (D : va_G) (t : Nat → ClassId) (ea : Nat) (eb : Nat → Nat) (ex : ExT) (xa : Nat) (xb : Nat → Nat) (x : ShT) (v : Int32) (out : ExT) (h : fX0_runCurtains ex x v = some out)  (sz : Nat) : Met l yX0_runCurtains zX0_runCurtains ({ frames := 2, cells := 0, slots := 0, locals := 44 }) (sPc D t (gE t ea eb ex ++ (gS t xa xb x)) sz [.ref ea, .ref xa, .int v]) (qV D t (gE t ea eb out ++ (gS t xa xb x)) (va_A (gE t ea eb ex ++ (gS t xa xb x)) sz)) 0 0 (va_A (gE t ea eb ex ++ (gS t xa xb x)) sz) := by
  refine met_of (Qf := fun A => qV D t (gE t ea eb out ++ (gS t xa xb x)) A) (cc := cX0_runCurtains) (maxL := 8) (ret := none) (by decide) rfl (Nat.le_of_ble_eq_true rfl) ?_
  intro p e s m args below meth c A hx hb hr hml hts hown hlocks hA hP hK hD hE hS ls hl
  have htB : ∀ w ∈ BIG, w.before args s = true := fun w h => hts w (List.mem_cons_of_mem _ h)
  have hown : s.vm.findClass RX0 = some m.cls := hown
  have hl : lv_has ls 8 [(0, .ref ea), (1, .ref xa), (2, .int v)] := hl
  unfold fX0_runCurtains at h
  have J26 : ∀ (fu26 : Nat) (v26 : ExT × Int32 × Int32 × Int32 × Int32 × Int32), lp (fX0_runCurtains_l26 x) fu26 v26 = some out → ∀ (H : Heap) (locs : List Loc), va_P D vwCl (gE t ea eb v26.1 ++ (gS t xa xb x)) H → va_D A (gE t ea eb v26.1 ++ (gS t xa xb x)) → va_S A s.heap H locs → ∀ ls : Array Slot, lv_has ls 8 [(0, .ref ea), (1, .ref xa), (3, .int v26.2.1), (4, .int v26.2.2.1), (5, .int v26.2.2.2.1), (6, .int v26.2.2.2.2.1), (7, .int v26.2.2.2.2.2)] → W p l e ({ frames := 2, cells := 0, slots := 0, locals := 44 }) s m args below meth c H locs 0 0 (MQ below (qV D t (gE t ea eb out ++ (gS t xa xb x)) A) args s 0 0 A) (F0 m 26 ls []) := by
    intro fu26
    induction fu26 with
    | zero => intro v26 h; cases h
    | succ fu26 ih26 =>
      intro v26 h H locs hP hD hS ls hl
      have h : fX0_runCurtains_l26 x (lp (fX0_runCurtains_l26 x) fu26) v26 = some out := h
      unfold fX0_runCurtains_l26 at h
      refine lv_iload hx hb dX0_runCurtains_26 (lv_at hl 6 rfl) ?_
      refine lv_aload_n hx hb dX0_runCurtains_28 rfl (lv_at hl 0 rfl) ?_
      refine va_get (D := D) (ci := 0) (v := .ref (eb 0)) (C := RX0) (T := TX0) (N := 10) hx hb htB inlX0 hown hK hP 0 rfl rfl 0 (by decide) (htB _ kw47) (fun _ h9 => h9) rfl dX0_runCurtains_29 ?_
      refine va_alen (v := 24) hx hb hK hP 1 0 rfl rfl rfl dX0_runCurtains_32 ?_
      refine lv_icmp_ge (tgt := 108) hx hb dX0_runCurtains_33 (by decide) (fun c4 => ?_) (fun c4 => ?_)
      · have h := it_p c4 h
        obtain rfl := os h
        exact ret_v hx hb hr hlocks hP hK hD hS dX0_runCurtains_108
      · have h := it_n c4 h
        refine lv_iload hx hb dX0_runCurtains_36 (lv_at hl 6 rfl) ?_
        refine lv_aload_n hx hb dX0_runCurtains_38 rfl (lv_at hl 0 rfl) ?_
        refine va_get (D := D) (ci := 0) (v := .ref (eb 1)) (C := RX0) (T := TX0) (N := 10) hx hb htB inlX0 hown hK hP 0 rfl rfl 1 (by decide) (htB _ kw48) (fun _ h9 => h9) rfl dX0_runCurtains_39 ?_
        refine va_alen (v := 24) hx hb hK hP 2 0 rfl rfl rfl dX0_runCurtains_42 ?_
        refine lv_icmp_ge (tgt := 108) hx hb dX0_runCurtains_43 (by decide) (fun c5 => ?_) (fun c5 => ?_)
        · have h := it_p c5 h
          obtain rfl := os h
          exact ret_v hx hb hr hlocks hP hK hD hS dX0_runCurtains_108
        · have h := it_n c5 h
          refine lv_iload hx hb dX0_runCurtains_46 (lv_at hl 4 rfl) ?_
          refine lv_iload_n hx hb dX0_runCurtains_48 rfl (lv_at hl 2 rfl) ?_
          refine lv_aload_n hx hb dX0_runCurtains_49 rfl (lv_at hl 1 rfl) ?_
          refine va_get (D := D) (ci := 1) (v := .ref (xb 2)) (C := RX1) (T := TX1) (N := 10) hx hb htB inlX1 hown hK hP 4 rfl rfl 2 (by decide) (htB _ kw232) (fun _ h9 => h9) rfl dX0_runCurtains_50 ?_
          refine lv_iload hx hb dX0_runCurtains_53 (lv_at hl 6 rfl) ?_
          obtain ⟨r6, h6, h⟩ := ob h
          refine call_i (v := r6) (wc := (gA t (xb 2) 24 x.2.2.1)) (wc' := (gA t (xb 2) 24 x.2.2.1)) (ws' := (gE t ea eb v26.1 ++ (gS t xa xb x))) (cutI (wc := (gA t (xb 2) 24 x.2.2.1)) (wc' := (gA t (xb 2) 24 x.2.2.1)) (ws' := (gE t ea eb v26.1 ++ (gS t xa xb x))) [7] hP hD hS hA rfl rfl rfl rfl) hS (fun hPc hDc => va_runSN (As := [.ref (xb 2), .int v26.2.2.2.2.2]) (rest := [.int v26.2.1, .int v26.2.2.2.1]) ⟨hx, hb, hml, hown, hts⟩ (mtX2_at l D t (xb 2) 24 x.2.2.1 v26.2.2.2.2.2 r6 h6 (by decide) _) ⟨va_cnB 2 hts (gB kw106) rfl rfl rfl hE.2.1 (htB _ kw2) (by decide +kernel) ⟨Nat.le_of_ble_eq_true rfl, Nat.le_of_ble_eq_true rfl⟩, (htB _ kw105), trivial⟩ (sPc_S hPc hK hDc hE) rfl rfl hl.1 rfl (lv_room (Nat.le_of_ble_eq_true rfl)) dX0_runCurtains_55 ⟨Nat.zero_le _, Nat.zero_le _⟩) (fun H locs hP hD hS => ?_)
          refine lv_iadd hx hb dX0_runCurtains_58 ?_
          refine lv_iadd hx hb dX0_runCurtains_59 ?_
          refine lv_istore (lv' := [(5, .int (v26.2.2.2.1 + (v26.2.1 + r6))), (0, .ref ea), (1, .ref xa), (3, .int v26.2.1), (4, .int v26.2.2.1), (6, .int v26.2.2.2.2.1), (7, .int v26.2.2.2.2.2)]) hx hb dX0_runCurtains_60 hl (by decide) rfl (fun ls hl => ?_)
          refine lv_iload hx hb dX0_runCurtains_62 (lv_at hl 0 rfl) ?_
          refine lv_iload hx hb dX0_runCurtains_64 (lv_at hl 5 rfl) ?_
          refine lv_iload hx hb dX0_runCurtains_66 (lv_at hl 4 rfl) ?_
          refine lv_iadd hx hb dX0_runCurtains_68 ?_
          refine lv_aload_n hx hb dX0_runCurtains_69 rfl (lv_at hl 2 rfl) ?_
          refine va_get (D := D) (ci := 1) (v := .ref (xb 3)) (C := RX1) (T := TX1) (N := 10) hx hb htB inlX1 hown hK hP 4 rfl rfl 3 (by decide) (htB _ kw233) (fun _ h9 => h9) rfl dX0_runCurtains_70 ?_
          refine lv_iload hx hb dX0_runCurtains_73 (lv_at hl 6 rfl) ?_
          obtain ⟨r7, h7, h⟩ := ob h
          refine call_i (v := r7) (wc := (gA t (xb 3) 24 x.2.2.2.1)) (wc' := (gA t (xb 3) 24 x.2.2.2.1)) (ws' := (gE t ea eb v26.1 ++ (gS t xa xb x))) (cutI (wc := (gA t (xb 3) 24 x.2.2.2.1)) (wc' := (gA t (xb 3) 24 x.2.2.2.1)) (ws' := (gE t ea eb v26.1 ++ (gS t xa xb x))) [8] hP hD hS hA rfl rfl rfl rfl) hS (fun hPc hDc => va_runSN (As := [.ref (xb 3), .int v26.2.2.2.2.2]) (rest := [.int (v26.2.2.2.2.1 + v26.2.2.1), .int (v26.2.2.2.1 + (v26.2.1 + r6))]) ⟨hx, hb, hml, hown, hts⟩ (mtX2_at l D t (xb 3) 24 x.2.2.2.1 v26.2.2.2.2.2 r7 h7 (by decide) _) ⟨va_cnB 2 hts (gB kw106) rfl rfl rfl hE.2.1 (htB _ kw2) (by decide +kernel) ⟨Nat.le_of_ble_eq_true rfl, Nat.le_of_ble_eq_true rfl⟩, (htB _ kw105), trivial⟩ (sPc_S hPc hK hDc hE) rfl rfl hl.1 rfl (lv_room (Nat.le_of_ble_eq_true rfl)) dX0_runCurtains_75 ⟨Nat.zero_le _, Nat.zero_le _⟩) (fun H locs hP hD hS => ?_)
          refine lv_iadd hx hb dX0_runCurtains_78 ?_
          refine va_mmax hx hb (by rw [hml]; exact hl.1.symm) hown (htB _ kw234) (htB _ kw235) (htB _ kw92) (htB _ kw236) (Nat.le_of_ble_eq_true rfl) (Nat.le_of_ble_eq_true rfl) (Nat.zero_le _) (Nat.zero_le _) dX0_runCurtains_79 ?_
          refine lv_istore (lv' := [(6, .int (imax (v26.2.2.2.1 + (v26.2.1 + r6)) ((v26.2.2.2.2.1 + v26.2.2.1) + r7))), (5, .int (v26.2.2.2.1 + (v26.2.1 + r6))), (0, .ref ea), (1, .ref xa), (3, .int v26.2.1), (4, .int v26.2.2.1), (7, .int v26.2.2.2.2.2)]) hx hb dX0_runCurtains_82 hl (by decide) rfl (fun ls hl => ?_)
          refine lv_aload_n hx hb dX0_runCurtains_84 rfl (lv_at hl 2 rfl) ?_
          refine va_get (D := D) (ci := 0) (v := .ref (eb 0)) (C := RX0) (T := TX0) (N := 10) hx hb htB inlX0 hown hK hP 0 rfl rfl 0 (by decide) (htB _ kw47) (fun _ h9 => h9) rfl dX0_runCurtains_85 ?_
          refine lv_iload hx hb dX0_runCurtains_88 (lv_at hl 6 rfl) ?_
          refine lv_iload hx hb dX0_runCurtains_90 (lv_at hl 1 rfl) ?_
          obtain ⟨g8, h⟩ := og h
          refine va_iast hx hb hK hP hD hS 1 0 rfl rfl (pin_in g8) dX0_runCurtains_92 (fun H locs hP hD hS => ?_)
          have hP : va_P D vwCl (gE t ea eb ((upd v26.1.1 (Int32.toNatClampNeg v26.2.2.2.2.2) (v26.2.2.2.1 + (v26.2.1 + r6))), v26.1.2.1, v26.1.2.2.1, v26.1.2.2.2.1, v26.1.2.2.2.2.1, v26.1.2.2.2.2.2.1, v26.1.2.2.2.2.2.2.1, v26.1.2.2.2.2.2.2.2.1, v26.1.2.2.2.2.2.2.2.2.1, v26.1.2.2.2.2.2.2.2.2.2) ++ (gS t xa xb x)) H := hP
          have hD : va_D A (gE t ea eb ((upd v26.1.1 (Int32.toNatClampNeg v26.2.2.2.2.2) (v26.2.2.2.1 + (v26.2.1 + r6))), v26.1.2.1, v26.1.2.2.1, v26.1.2.2.2.1, v26.1.2.2.2.2.1, v26.1.2.2.2.2.2.1, v26.1.2.2.2.2.2.2.1, v26.1.2.2.2.2.2.2.2.1, v26.1.2.2.2.2.2.2.2.2.1, v26.1.2.2.2.2.2.2.2.2.2) ++ (gS t xa xb x)) := hD
          refine lv_aload_n hx hb dX0_runCurtains_93 rfl (lv_at hl 2 rfl) ?_
          refine va_get (D := D) (ci := 0) (v := .ref (eb 1)) (C := RX0) (T := TX0) (N := 10) hx hb htB inlX0 hown hK hP 0 rfl rfl 1 (by decide) (htB _ kw48) (fun _ h9 => h9) rfl dX0_runCurtains_94 ?_
          refine lv_iload hx hb dX0_runCurtains_97 (lv_at hl 6 rfl) ?_
          refine lv_iload hx hb dX0_runCurtains_99 (lv_at hl 0 rfl) ?_
          refine va_iast hx hb hK hP hD hS 2 0 rfl rfl (pin_in g8) dX0_runCurtains_101 (fun H locs hP hD hS => ?_)
          have hP : va_P D vwCl (gE t ea eb ((upd v26.1.1 (Int32.toNatClampNeg v26.2.2.2.2.2) (v26.2.2.2.1 + (v26.2.1 + r6))), (upd v26.1.2.1 (Int32.toNatClampNeg v26.2.2.2.2.2) (imax (v26.2.2.2.1 + (v26.2.1 + r6)) ((v26.2.2.2.2.1 + v26.2.2.1) + r7))), v26.1.2.2.1, v26.1.2.2.2.1, v26.1.2.2.2.2.1, v26.1.2.2.2.2.2.1, v26.1.2.2.2.2.2.2.1, v26.1.2.2.2.2.2.2.2.1, v26.1.2.2.2.2.2.2.2.2.1, v26.1.2.2.2.2.2.2.2.2.2) ++ (gS t xa xb x)) H := hP
          have hD : va_D A (gE t ea eb ((upd v26.1.1 (Int32.toNatClampNeg v26.2.2.2.2.2) (v26.2.2.2.1 + (v26.2.1 + r6))), (upd v26.1.2.1 (Int32.toNatClampNeg v26.2.2.2.2.2) (imax (v26.2.2.2.1 + (v26.2.1 + r6)) ((v26.2.2.2.2.1 + v26.2.2.1) + r7))), v26.1.2.2.1, v26.1.2.2.2.1, v26.1.2.2.2.2.1, v26.1.2.2.2.2.2.1, v26.1.2.2.2.2.2.2.1, v26.1.2.2.2.2.2.2.2.1, v26.1.2.2.2.2.2.2.2.2.1, v26.1.2.2.2.2.2.2.2.2.2) ++ (gS t xa xb x)) := hD
          refine lv_iinc (v := v26.2.2.2.2.2 + 1) (lv' := [(7, .int (v26.2.2.2.2.2 + 1)), (6, .int (imax (v26.2.2.2.1 + (v26.2.1 + r6)) ((v26.2.2.2.2.1 + v26.2.2.1) + r7))), (5, .int (v26.2.2.2.1 + (v26.2.1 + r6))), (0, .ref ea), (1, .ref xa), (3, .int v26.2.1), (4, .int v26.2.2.1)]) hx hb dX0_runCurtains_102 hl (k := 6) rfl rfl (by decide) rfl (fun ls hl => ?_)
          refine lv_goto (tgt := 26) hx hb dX0_runCurtains_105 (by decide) ?_
          exact ih26 (((upd v26.1.1 (Int32.toNatClampNeg v26.2.2.2.2.2) (v26.2.2.2.1 + (v26.2.1 + r6))), (upd v26.1.2.1 (Int32.toNatClampNeg v26.2.2.2.2.2) (imax (v26.2.2.2.1 + (v26.2.1 + r6)) ((v26.2.2.2.2.1 + v26.2.2.1) + r7))), v26.1.2.2.1, v26.1.2.2.2.1, v26.1.2.2.2.2.1, v26.1.2.2.2.2.2.1, v26.1.2.2.2.2.2.2.1, v26.1.2.2.2.2.2.2.2.1, v26.1.2.2.2.2.2.2.2.2.1, v26.1.2.2.2.2.2.2.2.2.2), v26.2.1, v26.2.2.1, v26.2.2.2.1 + (v26.2.1 + r6), imax (v26.2.2.2.1 + (v26.2.1 + r6)) ((v26.2.2.2.2.1 + v26.2.2.1) + r7), v26.2.2.2.2.2 + 1) h _ _ hP hD hS _ (lv_sub hl [3, 4, 5, 6, 2, 1, 0] rfl)
  refine lv_aload_n hx hb dX0_runCurtains_0 rfl (lv_at hl 1 rfl) ?_
  refine lv_iconst (v := 0) hx hb dX0_runCurtains_1 (by decide) ?_
  obtain ⟨r1, h1, h⟩ := ob h
  refine call_i (v := r1) (wc := (gS t xa xb x)) (wc' := (gS t xa xb x)) (ws' := (gE t ea eb ex ++ (gS t xa xb x))) (cutB (bs := [gE t ea eb ex, gS t xa xb x]) (cs := [gS t xa xb x]) (cs' := [gS t xa xb x]) (bs' := [gE t ea eb ex, gS t xa xb x]) [1] hP hD hS hA rfl rfl rfl rfl) hS (fun hPc hDc => va_runV (As := [.int 0]) (rest := []) ⟨hx, hb, hml, hown, hts⟩ (mtX1_ticksWithoutDrag l D t xa xb x 0 r1 h1 _) (cwV 1 hts (gBV kw237 kw238 kw239 kw16 kw240) rfl rfl rfl (by decide +kernel) ⟨Nat.le_of_ble_eq_true rfl, Nat.le_of_ble_eq_true rfl⟩) (sPc_V hPc hK hDc hE (va_recv hK hP (ci := 1) (q0 := 4) rfl rfl)) rfl rfl hl.1 rfl (lv_room (Nat.le_of_ble_eq_true rfl)) dX0_runCurtains_2 ⟨Nat.zero_le _, Nat.zero_le _⟩) (fun H locs hP hD hS => ?_)
  refine lv_istore_n (lv' := [(3, .int r1), (0, .ref ea), (1, .ref xa), (2, .int v)]) hx hb dX0_runCurtains_5 rfl hl (by decide) rfl (fun ls hl => ?_)
  refine lv_aload_n hx hb dX0_runCurtains_6 rfl (lv_at hl 2 rfl) ?_
  refine lv_iconst (v := 1) hx hb dX0_runCurtains_7 (by decide) ?_
  obtain ⟨r2, h2, h⟩ := ob h
  refine call_i (v := r2) (wc := (gS t xa xb x)) (wc' := (gS t xa xb x)) (ws' := (gE t ea eb ex ++ (gS t xa xb x))) (cutB (bs := [gE t ea eb ex, gS t xa xb x]) (cs := [gS t xa xb x]) (cs' := [gS t xa xb x]) (bs' := [gE t ea eb ex, gS t xa xb x]) [1] hP hD hS hA rfl rfl rfl rfl) hS (fun hPc hDc => va_runV (As := [.int 1]) (rest := []) ⟨hx, hb, hml, hown, hts⟩ (mtX1_ticksWithoutDrag l D t xa xb x 1 r2 h2 _) (cwV 1 hts (gBV kw237 kw238 kw239 kw16 kw240) rfl rfl rfl (by decide +kernel) ⟨Nat.le_of_ble_eq_true rfl, Nat.le_of_ble_eq_true rfl⟩) (sPc_V hPc hK hDc hE (va_recv hK hP (ci := 1) (q0 := 4) rfl rfl)) rfl rfl hl.1 rfl (lv_room (Nat.le_of_ble_eq_true rfl)) dX0_runCurtains_8 ⟨Nat.zero_le _, Nat.zero_le _⟩) (fun H locs hP hD hS => ?_)
  refine lv_istore (lv' := [(4, .int r2), (3, .int r1), (0, .ref ea), (1, .ref xa), (2, .int v)]) hx hb dX0_runCurtains_11 hl (by decide) rfl (fun ls hl => ?_)
  refine lv_iconst (v := 0) hx hb dX0_runCurtains_13 (by decide) ?_
  refine lv_istore (lv' := [(5, .int 0), (4, .int r2), (3, .int r1), (0, .ref ea), (1, .ref xa), (2, .int v)]) hx hb dX0_runCurtains_14 hl (by decide) rfl (fun ls hl => ?_)
  refine lv_aload_n hx hb dX0_runCurtains_16 rfl (lv_at hl 4 rfl) ?_
  refine lv_iload_n hx hb dX0_runCurtains_17 rfl (lv_at hl 5 rfl) ?_
  obtain ⟨r3, h3, h⟩ := ob h
  refine call_i (v := r3) (wc := (gS t xa xb x)) (wc' := (gS t xa xb x)) (ws' := (gE t ea eb ex ++ (gS t xa xb x))) (cutB (bs := [gE t ea eb ex, gS t xa xb x]) (cs := [gS t xa xb x]) (cs' := [gS t xa xb x]) (bs' := [gE t ea eb ex, gS t xa xb x]) [1] hP hD hS hA rfl rfl rfl rfl) hS (fun hPc hDc => va_runV (As := [.int v]) (rest := []) ⟨hx, hb, hml, hown, hts⟩ (mtX1_startOfSecond l D t xa xb x v r3 h3 _) (cwV 1 hts (gBV kw241 kw242 kw243 kw16 kw244) rfl rfl rfl (by decide +kernel) ⟨Nat.le_of_ble_eq_true rfl, Nat.le_of_ble_eq_true rfl⟩) (sPc_V hPc hK hDc hE (va_recv hK hP (ci := 1) (q0 := 4) rfl rfl)) rfl rfl hl.1 rfl (lv_room (Nat.le_of_ble_eq_true rfl)) dX0_runCurtains_18 ⟨Nat.zero_le _, Nat.zero_le _⟩) (fun H locs hP hD hS => ?_)
  refine lv_istore (lv' := [(6, .int r3), (5, .int 0), (4, .int r2), (3, .int r1), (0, .ref ea), (1, .ref xa), (2, .int v)]) hx hb dX0_runCurtains_21 hl (by decide) rfl (fun ls hl => ?_)
  refine lv_iconst (v := 0) hx hb dX0_runCurtains_23 (by decide) ?_
  refine lv_istore (lv' := [(7, .int 0), (6, .int r3), (5, .int 0), (4, .int r2), (3, .int r1), (0, .ref ea), (1, .ref xa), (2, .int v)]) hx hb dX0_runCurtains_24 hl (by decide) rfl (fun ls hl => ?_)
  exact J26 2000 (ex, r1, r2, 0, r3, 0) h _ _ hP hD hS _ (lv_sub hl [5, 6, 4, 3, 2, 1, 0] rfl)

theorem dX0_openColumns_0 : decode cX0_openColumns 0 = .ok (.aload_n 0, 1) := by decide +kernel
theorem dX0_openColumns_1 : decode cX0_openColumns 1 = .ok (.getfield 9, 3) := by decide +kernel
theorem dX0_openColumns_4 : decode cX0_openColumns 4 = .ok (.bipush 23, 2) := by decide +kernel
theorem dX0_openColumns_6 : decode cX0_openColumns 6 = .ok (.invokestatic 55, 3) := by decide +kernel
theorem dX0_openColumns_9 : decode cX0_openColumns 9 = .ok (.istore_n 2, 1) := by decide +kernel
theorem dX0_openColumns_10 : decode cX0_openColumns 10 = .ok (.iload_n 2, 1) := by decide +kernel
theorem dX0_openColumns_11 : decode cX0_openColumns 11 = .ok (.aload_n 1, 1) := by decide +kernel
theorem dX0_openColumns_12 : decode cX0_openColumns 12 = .ok (.getfield 68, 3) := by decide +kernel
theorem dX0_openColumns_15 : decode cX0_openColumns 15 = .ok (.iconst 2, 1) := by decide +kernel
theorem dX0_openColumns_16 : decode cX0_openColumns 16 = .ok (.invokestatic 55, 3) := by decide +kernel
theorem dX0_openColumns_19 : decode cX0_openColumns 19 = .ok (.iadd, 1) := by decide +kernel
theorem dX0_openColumns_20 : decode cX0_openColumns 20 = .ok (.istore_n 3, 1) := by decide +kernel
theorem dX0_openColumns_21 : decode cX0_openColumns 21 = .ok (.bipush 24, 2) := by decide +kernel
theorem dX0_openColumns_23 : decode cX0_openColumns 23 = .ok (.aload_n 1, 1) := by decide +kernel
theorem dX0_openColumns_24 : decode cX0_openColumns 24 = .ok (.invokevirtual 71, 3) := by decide +kernel
theorem dX0_openColumns_27 : decode cX0_openColumns 27 = .ok (.isub, 1) := by decide +kernel
theorem dX0_openColumns_28 : decode cX0_openColumns 28 = .ok (.istore 4, 2) := by decide +kernel
theorem dX0_openColumns_30 : decode cX0_openColumns 30 = .ok (.iconst 0, 1) := by decide +kernel
theorem dX0_openColumns_31 : decode cX0_openColumns 31 = .ok (.istore 5, 2) := by decide +kernel
theorem dX0_openColumns_33 : decode cX0_openColumns 33 = .ok (.iload 5, 2) := by decide +kernel
theorem dX0_openColumns_35 : decode cX0_openColumns 35 = .ok (.aload_n 0, 1) := by decide +kernel
theorem dX0_openColumns_36 : decode cX0_openColumns 36 = .ok (.getfield 18, 3) := by decide +kernel
theorem dX0_openColumns_39 : decode cX0_openColumns 39 = .ok (.arraylength, 1) := by decide +kernel
theorem dX0_openColumns_40 : decode cX0_openColumns 40 = .ok (.if_icmp .ge 71, 3) := by decide +kernel
theorem dX0_openColumns_43 : decode cX0_openColumns 43 = .ok (.aload_n 0, 1) := by decide +kernel
theorem dX0_openColumns_44 : decode cX0_openColumns 44 = .ok (.getfield 15, 3) := by decide +kernel
theorem dX0_openColumns_47 : decode cX0_openColumns 47 = .ok (.iload 5, 2) := by decide +kernel
theorem dX0_openColumns_49 : decode cX0_openColumns 49 = .ok (.invokestatic 55, 3) := by decide +kernel
theorem dX0_openColumns_52 : decode cX0_openColumns 52 = .ok (.istore 6, 2) := by decide +kernel
theorem dX0_openColumns_54 : decode cX0_openColumns 54 = .ok (.iload 6, 2) := by decide +kernel
theorem dX0_openColumns_56 : decode cX0_openColumns 56 = .ok (.aload_n 0, 1) := by decide +kernel
theorem dX0_openColumns_57 : decode cX0_openColumns 57 = .ok (.getfield 9, 3) := by decide +kernel
theorem dX0_openColumns_60 : decode cX0_openColumns 60 = .ok (.iload 5, 2) := by decide +kernel
theorem dX0_openColumns_62 : decode cX0_openColumns 62 = .ok (.invokestatic 55, 3) := by decide +kernel
theorem dX0_openColumns_65 : decode cX0_openColumns 65 = .ok (.isub, 1) := by decide +kernel
theorem dX0_openColumns_66 : decode cX0_openColumns 66 = .ok (.istore 7, 2) := by decide +kernel
theorem dX0_openColumns_68 : decode cX0_openColumns 68 = .ok (.iload 5, 2) := by decide +kernel
theorem dX0_openColumns_70 : decode cX0_openColumns 70 = .ok (.iload 4, 2) := by decide +kernel
theorem dX0_openColumns_72 : decode cX0_openColumns 72 = .ok (.if_icmp .ge 7, 3) := by decide +kernel
theorem dX0_openColumns_75 : decode cX0_openColumns 75 = .ok (.iconst 0, 1) := by decide +kernel
theorem dX0_openColumns_76 : decode cX0_openColumns 76 = .ok (.goto 11, 3) := by decide +kernel
theorem dX0_openColumns_79 : decode cX0_openColumns 79 = .ok (.iload 6, 2) := by decide +kernel
theorem dX0_openColumns_81 : decode cX0_openColumns 81 = .ok (.iload_n 3, 1) := by decide +kernel
theorem dX0_openColumns_82 : decode cX0_openColumns 82 = .ok (.invokestatic 75, 3) := by decide +kernel
theorem dX0_openColumns_85 : decode cX0_openColumns 85 = .ok (.iload_n 2, 1) := by decide +kernel
theorem dX0_openColumns_86 : decode cX0_openColumns 86 = .ok (.isub, 1) := by decide +kernel
theorem dX0_openColumns_87 : decode cX0_openColumns 87 = .ok (.istore 8, 2) := by decide +kernel
theorem dX0_openColumns_89 : decode cX0_openColumns 89 = .ok (.aload_n 0, 1) := by decide +kernel
theorem dX0_openColumns_90 : decode cX0_openColumns 90 = .ok (.getfield 18, 3) := by decide +kernel
theorem dX0_openColumns_93 : decode cX0_openColumns 93 = .ok (.iload 5, 2) := by decide +kernel
theorem dX0_openColumns_95 : decode cX0_openColumns 95 = .ok (.iload 7, 2) := by decide +kernel
theorem dX0_openColumns_97 : decode cX0_openColumns 97 = .ok (.iconst 0, 1) := by decide +kernel
theorem dX0_openColumns_98 : decode cX0_openColumns 98 = .ok (.iload 8, 2) := by decide +kernel
theorem dX0_openColumns_100 : decode cX0_openColumns 100 = .ok (.invokestatic 62, 3) := by decide +kernel
theorem dX0_openColumns_103 : decode cX0_openColumns 103 = .ok (.isub, 1) := by decide +kernel
theorem dX0_openColumns_104 : decode cX0_openColumns 104 = .ok (.iastore, 1) := by decide +kernel
theorem dX0_openColumns_105 : decode cX0_openColumns 105 = .ok (.iinc 5 1, 3) := by decide +kernel
theorem dX0_openColumns_108 : decode cX0_openColumns 108 = .ok (.goto (-75), 3) := by decide +kernel
theorem dX0_openColumns_111 : decode cX0_openColumns 111 = .ok (.return_, 1) := by decide +kernel
abbrev zX0_openColumns : List Cond := .code yX0_openColumns cX0_openColumns 9 none :: BIG
def fX0_openColumns_j87 (x : ShT) (K33 : (ExT × Int32 × Int32 × Int32 × Int32) → Option (ExT)) (v87 : ExT × Int32 × Int32 × Int32 × Int32 × Int32 × Int32) : Option (ExT) := gd (pin v87.2.2.2.2.1 24) (K33 ((v87.1.1, v87.1.2.1, (upd v87.1.2.2.1 (Int32.toNatClampNeg v87.2.2.2.2.1) (v87.2.2.2.2.2.1 - (imax 0 v87.2.2.2.2.2.2))), v87.1.2.2.2.1, v87.1.2.2.2.2.1, v87.1.2.2.2.2.2.1, v87.1.2.2.2.2.2.2.1, v87.1.2.2.2.2.2.2.2.1, v87.1.2.2.2.2.2.2.2.2.1, v87.1.2.2.2.2.2.2.2.2.2), v87.2.1, v87.2.2.1, v87.2.2.2.1, v87.2.2.2.2.1 + 1))
def fX0_openColumns_l33 (x : ShT)  (K33 : (ExT × Int32 × Int32 × Int32 × Int32) → Option (ExT)) (v33 : ExT × Int32 × Int32 × Int32 × Int32) : Option (ExT) := (if 24 ≤ v33.2.2.2.2 then some v33.1 else (fX2_at 24 v33.1.2.1 v33.2.2.2.2).bind (fun r5 => (fX2_at 24 v33.1.1 v33.2.2.2.2).bind (fun r6 => (if v33.2.2.2.1 ≤ v33.2.2.2.2 then fX0_openColumns_j87 x K33 (v33.1, v33.2.1, v33.2.2.1, v33.2.2.2.1, v33.2.2.2.2, r5 - r6, (imin r5 v33.2.2.1) - v33.2.1) else fX0_openColumns_j87 x K33 (v33.1, v33.2.1, v33.2.2.1, v33.2.2.2.1, v33.2.2.2.2, r5 - r6, 0)))))
def fX0_openColumns (ex : ExT) (x : ShT) : Option (ExT) := (fX2_at 24 ex.1 23).bind (fun r1 => (fX2_at 4 x.2.2.2.2.2.1 2).bind (fun r2 => (fX1_bounceColumns x).bind (fun r3 => lp (fX0_openColumns_l33 x) 2000 (ex, r1, r1 + r2, 24 - r3, 0))))
set_option maxHeartbeats 4000000 in
set_option maxRecDepth 100000 in
theorem mtX0_openColumns (l : Launch) (D : va_G) (t : Nat → ClassId) (ea : Nat) (eb : Nat → Nat) (ex : ExT) (xa : Nat) (xb : Nat → Nat) (x : ShT) (out : ExT) (h : fX0_openColumns ex x = some out)  (sz : Nat) : Met l yX0_openColumns zX0_openColumns ({ frames := 2, cells := 0, slots := 0, locals := 42 }) (sPc D t (gE t ea eb ex ++ (gS t xa xb x)) sz [.ref ea, .ref xa]) (qV D t (gE t ea eb out ++ (gS t xa xb x)) (va_A (gE t ea eb ex ++ (gS t xa xb x)) sz)) 0 0 (va_A (gE t ea eb ex ++ (gS t xa xb x)) sz) := by
  refine met_of (Qf := fun A => qV D t (gE t ea eb out ++ (gS t xa xb x)) A) (cc := cX0_openColumns) (maxL := 9) (ret := none) (by decide) rfl (Nat.le_of_ble_eq_true rfl) ?_
  intro p e s m args below meth c A hx hb hr hml hts hown hlocks hA hP hK hD hE hS ls hl
  have htB : ∀ w ∈ BIG, w.before args s = true := fun w h => hts w (List.mem_cons_of_mem _ h)
  have hown : s.vm.findClass RX0 = some m.cls := hown
  have hl : lv_has ls 9 [(0, .ref ea), (1, .ref xa)] := hl
  unfold fX0_openColumns at h
  have J33 : ∀ (fu33 : Nat) (v33 : ExT × Int32 × Int32 × Int32 × Int32), lp (fX0_openColumns_l33 x) fu33 v33 = some out → ∀ (H : Heap) (locs : List Loc), va_P D vwCl (gE t ea eb v33.1 ++ (gS t xa xb x)) H → va_D A (gE t ea eb v33.1 ++ (gS t xa xb x)) → va_S A s.heap H locs → ∀ ls : Array Slot, lv_has ls 9 [(0, .ref ea), (2, .int v33.2.1), (3, .int v33.2.2.1), (4, .int v33.2.2.2.1), (5, .int v33.2.2.2.2)] → W p l e ({ frames := 2, cells := 0, slots := 0, locals := 42 }) s m args below meth c H locs 0 0 (MQ below (qV D t (gE t ea eb out ++ (gS t xa xb x)) A) args s 0 0 A) (F0 m 33 ls []) := by
    intro fu33
    induction fu33 with
    | zero => intro v33 h; cases h
    | succ fu33 ih33 =>
      intro v33 h H locs hP hD hS ls hl
      have h : fX0_openColumns_l33 x (lp (fX0_openColumns_l33 x) fu33) v33 = some out := h
      unfold fX0_openColumns_l33 at h
      have J87 : ∀ v87 : ExT × Int32 × Int32 × Int32 × Int32 × Int32 × Int32, fX0_openColumns_j87 x (lp (fX0_openColumns_l33 x) fu33) v87 = some out → ∀ (H : Heap) (locs : List Loc), va_P D vwCl (gE t ea eb v87.1 ++ (gS t xa xb x)) H → va_D A (gE t ea eb v87.1 ++ (gS t xa xb x)) → va_S A s.heap H locs → ∀ ls : Array Slot, lv_has ls 9 [(0, .ref ea), (2, .int v87.2.1), (3, .int v87.2.2.1), (4, .int v87.2.2.2.1), (5, .int v87.2.2.2.2.1), (7, .int v87.2.2.2.2.2.1)] → W p l e ({ frames := 2, cells := 0, slots := 0, locals := 42 }) s m args below meth c H locs 0 0 (MQ below (qV D t (gE t ea eb out ++ (gS t xa xb x)) A) args s 0 0 A) (F0 m 87 ls [.int v87.2.2.2.2.2.2]) := by
        intro v87 h H locs hP hD hS ls hl
        unfold fX0_openColumns_j87 at h
        refine lv_istore (lv' := [(8, .int v87.2.2.2.2.2.2), (0, .ref ea), (2, .int v87.2.1), (3, .int v87.2.2.1), (4, .int v87.2.2.2.1), (5, .int v87.2.2.2.2.1), (7, .int v87.2.2.2.2.2.1)]) hx hb dX0_openColumns_87 hl (by decide) rfl (fun ls hl => ?_)
        refine lv_aload_n hx hb dX0_openColumns_89 rfl (lv_at hl 1 rfl) ?_
        refine va_get (D := D) (ci := 0) (v := .ref (eb 2)) (C := RX0) (T := TX0) (N := 10) hx hb htB inlX0 hown hK hP 0 rfl rfl 2 (by decide) (htB _ kw49) (fun _ h9 => h9) rfl dX0_openColumns_90 ?_
        refine lv_iload hx hb dX0_openColumns_93 (lv_at hl 5 rfl) ?_
        refine lv_iload hx hb dX0_openColumns_95 (lv_at hl 6 rfl) ?_
        refine lv_iconst (v := 0) hx hb dX0_openColumns_97 (by decide) ?_
        refine lv_iload hx hb dX0_openColumns_98 (lv_at hl 0 rfl) ?_
        refine va_mmax hx hb (by rw [hml]; exact hl.1.symm) hown (htB _ kw234) (htB _ kw235) (htB _ kw92) (htB _ kw236) (Nat.le_of_ble_eq_true rfl) (Nat.le_of_ble_eq_true rfl) (Nat.zero_le _) (Nat.zero_le _) dX0_openColumns_100 ?_
        refine lv_isub hx hb dX0_openColumns_103 ?_
        obtain ⟨g8, h⟩ := og h
        refine va_iast hx hb hK hP hD hS 3 0 rfl rfl (pin_in g8) dX0_openColumns_104 (fun H locs hP hD hS => ?_)
        have hP : va_P D vwCl (gE t ea eb (v87.1.1, v87.1.2.1, (upd v87.1.2.2.1 (Int32.toNatClampNeg v87.2.2.2.2.1) (v87.2.2.2.2.2.1 - (imax 0 v87.2.2.2.2.2.2))), v87.1.2.2.2.1, v87.1.2.2.2.2.1, v87.1.2.2.2.2.2.1, v87.1.2.2.2.2.2.2.1, v87.1.2.2.2.2.2.2.2.1, v87.1.2.2.2.2.2.2.2.2.1, v87.1.2.2.2.2.2.2.2.2.2) ++ (gS t xa xb x)) H := hP
        have hD : va_D A (gE t ea eb (v87.1.1, v87.1.2.1, (upd v87.1.2.2.1 (Int32.toNatClampNeg v87.2.2.2.2.1) (v87.2.2.2.2.2.1 - (imax 0 v87.2.2.2.2.2.2))), v87.1.2.2.2.1, v87.1.2.2.2.2.1, v87.1.2.2.2.2.2.1, v87.1.2.2.2.2.2.2.1, v87.1.2.2.2.2.2.2.2.1, v87.1.2.2.2.2.2.2.2.2.1, v87.1.2.2.2.2.2.2.2.2.2) ++ (gS t xa xb x)) := hD
        refine lv_iinc (v := v87.2.2.2.2.1 + 1) (lv' := [(5, .int (v87.2.2.2.2.1 + 1)), (8, .int v87.2.2.2.2.2.2), (0, .ref ea), (2, .int v87.2.1), (3, .int v87.2.2.1), (4, .int v87.2.2.2.1), (7, .int v87.2.2.2.2.2.1)]) hx hb dX0_openColumns_105 hl (k := 5) rfl rfl (by decide) rfl (fun ls hl => ?_)
        refine lv_goto (tgt := 33) hx hb dX0_openColumns_108 (by decide) ?_
        exact ih33 ((v87.1.1, v87.1.2.1, (upd v87.1.2.2.1 (Int32.toNatClampNeg v87.2.2.2.2.1) (v87.2.2.2.2.2.1 - (imax 0 v87.2.2.2.2.2.2))), v87.1.2.2.2.1, v87.1.2.2.2.2.1, v87.1.2.2.2.2.2.1, v87.1.2.2.2.2.2.2.1, v87.1.2.2.2.2.2.2.2.1, v87.1.2.2.2.2.2.2.2.2.1, v87.1.2.2.2.2.2.2.2.2.2), v87.2.1, v87.2.2.1, v87.2.2.2.1, v87.2.2.2.2.1 + 1) h _ _ hP hD hS _ (lv_sub hl [2, 3, 4, 5, 0] rfl)
      refine lv_iload hx hb dX0_openColumns_33 (lv_at hl 4 rfl) ?_
      refine lv_aload_n hx hb dX0_openColumns_35 rfl (lv_at hl 0 rfl) ?_
      refine va_get (D := D) (ci := 0) (v := .ref (eb 2)) (C := RX0) (T := TX0) (N := 10) hx hb htB inlX0 hown hK hP 0 rfl rfl 2 (by decide) (htB _ kw49) (fun _ h9 => h9) rfl dX0_openColumns_36 ?_
      refine va_alen (v := 24) hx hb hK hP 3 0 rfl rfl rfl dX0_openColumns_39 ?_
      refine lv_icmp_ge (tgt := 111) hx hb dX0_openColumns_40 (by decide) (fun c4 => ?_) (fun c4 => ?_)
      · have h := it_p c4 h
        obtain rfl := os h
        exact ret_v hx hb hr hlocks hP hK hD hS dX0_openColumns_111
      · have h := it_n c4 h
        refine lv_aload_n hx hb dX0_openColumns_43 rfl (lv_at hl 0 rfl) ?_
        refine va_get (D := D) (ci := 0) (v := .ref (eb 1)) (C := RX0) (T := TX0) (N := 10) hx hb htB inlX0 hown hK hP 0 rfl rfl 1 (by decide) (htB _ kw48) (fun _ h9 => h9) rfl dX0_openColumns_44 ?_
        refine lv_iload hx hb dX0_openColumns_47 (lv_at hl 4 rfl) ?_
        obtain ⟨r5, h5, h⟩ := ob h
        refine call_i (v := r5) (wc := (gA t (eb 1) 24 v33.1.2.1)) (wc' := (gA t (eb 1) 24 v33.1.2.1)) (ws' := (gE t ea eb v33.1 ++ (gS t xa xb x))) (cutI (wc := (gA t (eb 1) 24 v33.1.2.1)) (wc' := (gA t (eb 1) 24 v33.1.2.1)) (ws' := (gE t ea eb v33.1 ++ (gS t xa xb x))) [2] hP hD hS hA rfl rfl rfl rfl) hS (fun hPc hDc => va_runSN (As := [.ref (eb 1), .int v33.2.2.2.2]) (rest := []) ⟨hx, hb, hml, hown, hts⟩ (mtX2_at l D t (eb 1) 24 v33.1.2.1 v33.2.2.2.2 r5 h5 (by decide) _) ⟨va_cnB 2 hts (gB kw106) rfl rfl rfl hE.2.1 (htB _ kw2) (by decide +kernel) ⟨Nat.le_of_ble_eq_true rfl, Nat.le_of_ble_eq_true rfl⟩, (htB _ kw105), trivial⟩ (sPc_S hPc hK hDc hE) rfl rfl hl.1 rfl (lv_room (Nat.le_of_ble_eq_true rfl)) dX0_openColumns_49 ⟨Nat.zero_le _, Nat.zero_le _⟩) (fun H locs hP hD hS => ?_)
        refine lv_istore (lv' := [(6, .int r5), (0, .ref ea), (2, .int v33.2.1), (3, .int v33.2.2.1), (4, .int v33.2.2.2.1), (5, .int v33.2.2.2.2)]) hx hb dX0_openColumns_52 hl (by decide) rfl (fun ls hl => ?_)
        refine lv_iload hx hb dX0_openColumns_54 (lv_at hl 0 rfl) ?_
        refine lv_aload_n hx hb dX0_openColumns_56 rfl (lv_at hl 1 rfl) ?_
        refine va_get (D := D) (ci := 0) (v := .ref (eb 0)) (C := RX0) (T := TX0) (N := 10) hx hb htB inlX0 hown hK hP 0 rfl rfl 0 (by decide) (htB _ kw47) (fun _ h9 => h9) rfl dX0_openColumns_57 ?_
        refine lv_iload hx hb dX0_openColumns_60 (lv_at hl 5 rfl) ?_
        obtain ⟨r6, h6, h⟩ := ob h
        refine call_i (v := r6) (wc := (gA t (eb 0) 24 v33.1.1)) (wc' := (gA t (eb 0) 24 v33.1.1)) (ws' := (gE t ea eb v33.1 ++ (gS t xa xb x))) (cutI (wc := (gA t (eb 0) 24 v33.1.1)) (wc' := (gA t (eb 0) 24 v33.1.1)) (ws' := (gE t ea eb v33.1 ++ (gS t xa xb x))) [1] hP hD hS hA rfl rfl rfl rfl) hS (fun hPc hDc => va_runSN (As := [.ref (eb 0), .int v33.2.2.2.2]) (rest := [.int r5]) ⟨hx, hb, hml, hown, hts⟩ (mtX2_at l D t (eb 0) 24 v33.1.1 v33.2.2.2.2 r6 h6 (by decide) _) ⟨va_cnB 2 hts (gB kw106) rfl rfl rfl hE.2.1 (htB _ kw2) (by decide +kernel) ⟨Nat.le_of_ble_eq_true rfl, Nat.le_of_ble_eq_true rfl⟩, (htB _ kw105), trivial⟩ (sPc_S hPc hK hDc hE) rfl rfl hl.1 rfl (lv_room (Nat.le_of_ble_eq_true rfl)) dX0_openColumns_62 ⟨Nat.zero_le _, Nat.zero_le _⟩) (fun H locs hP hD hS => ?_)
        refine lv_isub hx hb dX0_openColumns_65 ?_
        refine lv_istore (lv' := [(7, .int (r5 - r6)), (6, .int r5), (0, .ref ea), (2, .int v33.2.1), (3, .int v33.2.2.1), (4, .int v33.2.2.2.1), (5, .int v33.2.2.2.2)]) hx hb dX0_openColumns_66 hl (by decide) rfl (fun ls hl => ?_)
        refine lv_iload hx hb dX0_openColumns_68 (lv_at hl 6 rfl) ?_
        refine lv_iload hx hb dX0_openColumns_70 (lv_at hl 5 rfl) ?_
        refine lv_icmp_ge (tgt := 79) hx hb dX0_openColumns_72 (by decide) (fun c7 => ?_) (fun c7 => ?_)
        · have h := it_p c7 h
          refine lv_iload hx hb dX0_openColumns_79 (lv_at hl 1 rfl) ?_
          refine lv_iload_n hx hb dX0_openColumns_81 rfl (lv_at hl 4 rfl) ?_
          refine va_mmin hx hb (by rw [hml]; exact hl.1.symm) hown (htB _ kw253) (htB _ kw91) (htB _ kw92) (htB _ kw93) (Nat.le_of_ble_eq_true rfl) (Nat.le_of_ble_eq_true rfl) (Nat.zero_le _) (Nat.zero_le _) dX0_openColumns_82 ?_
          refine lv_iload_n hx hb dX0_openColumns_85 rfl (lv_at hl 3 rfl) ?_
          refine lv_isub hx hb dX0_openColumns_86 ?_
          exact J87 (v33.1, v33.2.1, v33.2.2.1, v33.2.2.2.1, v33.2.2.2.2, r5 - r6, (imin r5 v33.2.2.1) - v33.2.1) h _ _ hP hD hS _ (lv_sub hl [2, 3, 4, 5, 6, 0] rfl)
        · have h := it_n c7 h
          refine lv_iconst (v := 0) hx hb dX0_openColumns_75 (by decide) ?_
          refine lv_goto (tgt := 87) hx hb dX0_openColumns_76 (by decide) ?_
          exact J87 (v33.1, v33.2.1, v33.2.2.1, v33.2.2.2.1, v33.2.2.2.2, r5 - r6, 0) h _ _ hP hD hS _ (lv_sub hl [2, 3, 4, 5, 6, 0] rfl)
  refine lv_aload_n hx hb dX0_openColumns_0 rfl (lv_at hl 0 rfl) ?_
  refine va_get (D := D) (ci := 0) (v := .ref (eb 0)) (C := RX0) (T := TX0) (N := 10) hx hb htB inlX0 hown hK hP 0 rfl rfl 0 (by decide) (htB _ kw47) (fun _ h9 => h9) rfl dX0_openColumns_1 ?_
  refine lv_bipush (v := 23) hx hb dX0_openColumns_4 (by decide) ?_
  obtain ⟨r1, h1, h⟩ := ob h
  refine call_i (v := r1) (wc := (gA t (eb 0) 24 ex.1)) (wc' := (gA t (eb 0) 24 ex.1)) (ws' := (gE t ea eb ex ++ (gS t xa xb x))) (cutI (wc := (gA t (eb 0) 24 ex.1)) (wc' := (gA t (eb 0) 24 ex.1)) (ws' := (gE t ea eb ex ++ (gS t xa xb x))) [1] hP hD hS hA rfl rfl rfl rfl) hS (fun hPc hDc => va_runSN (As := [.ref (eb 0), .int 23]) (rest := []) ⟨hx, hb, hml, hown, hts⟩ (mtX2_at l D t (eb 0) 24 ex.1 23 r1 h1 (by decide) _) ⟨va_cnB 2 hts (gB kw106) rfl rfl rfl hE.2.1 (htB _ kw2) (by decide +kernel) ⟨Nat.le_of_ble_eq_true rfl, Nat.le_of_ble_eq_true rfl⟩, (htB _ kw105), trivial⟩ (sPc_S hPc hK hDc hE) rfl rfl hl.1 rfl (lv_room (Nat.le_of_ble_eq_true rfl)) dX0_openColumns_6 ⟨Nat.zero_le _, Nat.zero_le _⟩) (fun H locs hP hD hS => ?_)
  refine lv_istore_n (lv' := [(2, .int r1), (0, .ref ea), (1, .ref xa)]) hx hb dX0_openColumns_9 rfl hl (by decide) rfl (fun ls hl => ?_)
  refine lv_iload_n hx hb dX0_openColumns_10 rfl (lv_at hl 0 rfl) ?_
  refine lv_aload_n hx hb dX0_openColumns_11 rfl (lv_at hl 2 rfl) ?_
  refine va_get (D := D) (ci := 1) (v := .ref (xb 5)) (C := RX1) (T := TX1) (N := 10) hx hb htB inlX1 hown hK hP 4 rfl rfl 5 (by decide) (htB _ kw252) (fun _ h9 => h9) rfl dX0_openColumns_12 ?_
  refine lv_iconst (v := 2) hx hb dX0_openColumns_15 (by decide) ?_
  obtain ⟨r2, h2, h⟩ := ob h
  refine call_i (v := r2) (wc := (gA t (xb 5) 4 x.2.2.2.2.2.1)) (wc' := (gA t (xb 5) 4 x.2.2.2.2.2.1)) (ws' := (gE t ea eb ex ++ (gS t xa xb x))) (cutI (wc := (gA t (xb 5) 4 x.2.2.2.2.2.1)) (wc' := (gA t (xb 5) 4 x.2.2.2.2.2.1)) (ws' := (gE t ea eb ex ++ (gS t xa xb x))) [10] hP hD hS hA rfl rfl rfl rfl) hS (fun hPc hDc => va_runSN (As := [.ref (xb 5), .int 2]) (rest := [.int r1]) ⟨hx, hb, hml, hown, hts⟩ (mtX2_at l D t (xb 5) 4 x.2.2.2.2.2.1 2 r2 h2 (by decide) _) ⟨va_cnB 2 hts (gB kw106) rfl rfl rfl hE.2.1 (htB _ kw2) (by decide +kernel) ⟨Nat.le_of_ble_eq_true rfl, Nat.le_of_ble_eq_true rfl⟩, (htB _ kw105), trivial⟩ (sPc_S hPc hK hDc hE) rfl rfl hl.1 rfl (lv_room (Nat.le_of_ble_eq_true rfl)) dX0_openColumns_16 ⟨Nat.zero_le _, Nat.zero_le _⟩) (fun H locs hP hD hS => ?_)
  refine lv_iadd hx hb dX0_openColumns_19 ?_
  refine lv_istore_n (lv' := [(3, .int (r1 + r2)), (2, .int r1), (0, .ref ea), (1, .ref xa)]) hx hb dX0_openColumns_20 rfl hl (by decide) rfl (fun ls hl => ?_)
  refine lv_bipush (v := 24) hx hb dX0_openColumns_21 (by decide) ?_
  refine lv_aload_n hx hb dX0_openColumns_23 rfl (lv_at hl 3 rfl) ?_
  obtain ⟨r3, h3, h⟩ := ob h
  refine call_i (v := r3) (wc := (gS t xa xb x)) (wc' := (gS t xa xb x)) (ws' := (gE t ea eb ex ++ (gS t xa xb x))) (cutB (bs := [gE t ea eb ex, gS t xa xb x]) (cs := [gS t xa xb x]) (cs' := [gS t xa xb x]) (bs' := [gE t ea eb ex, gS t xa xb x]) [1] hP hD hS hA rfl rfl rfl rfl) hS (fun hPc hDc => va_runV (As := []) (rest := [.int 24]) ⟨hx, hb, hml, hown, hts⟩ (mtX1_bounceColumns l D t xa xb x r3 h3 _) (cwV 0 hts (gBV kw254 kw255 kw256 kw16 kw257) rfl rfl rfl (by decide +kernel) ⟨Nat.le_of_ble_eq_true rfl, Nat.le_of_ble_eq_true rfl⟩) (sPc_V hPc hK hDc hE (va_recv hK hP (ci := 1) (q0 := 4) rfl rfl)) rfl rfl hl.1 rfl (lv_room (Nat.le_of_ble_eq_true rfl)) dX0_openColumns_24 ⟨Nat.zero_le _, Nat.zero_le _⟩) (fun H locs hP hD hS => ?_)
  refine lv_isub hx hb dX0_openColumns_27 ?_
  refine lv_istore (lv' := [(4, .int (24 - r3)), (3, .int (r1 + r2)), (2, .int r1), (0, .ref ea), (1, .ref xa)]) hx hb dX0_openColumns_28 hl (by decide) rfl (fun ls hl => ?_)
  refine lv_iconst (v := 0) hx hb dX0_openColumns_30 (by decide) ?_
  refine lv_istore (lv' := [(5, .int 0), (4, .int (24 - r3)), (3, .int (r1 + r2)), (2, .int r1), (0, .ref ea), (1, .ref xa)]) hx hb dX0_openColumns_31 hl (by decide) rfl (fun ls hl => ?_)
  exact J33 2000 (ex, r1, r1 + r2, 24 - r3, 0) h _ _ hP hD hS _ (lv_sub hl [4, 3, 2, 1, 0] rfl)

theorem dX0_sumUp_0 : decode cX0_sumUp 0 = .ok (.aload_n 0, 1) := by decide +kernel
theorem dX0_sumUp_1 : decode cX0_sumUp 1 = .ok (.iconst 0, 1) := by decide +kernel
theorem dX0_sumUp_2 : decode cX0_sumUp 2 = .ok (.putfield 78, 3) := by decide +kernel
theorem dX0_sumUp_5 : decode cX0_sumUp 5 = .ok (.aload_n 0, 1) := by decide +kernel
theorem dX0_sumUp_6 : decode cX0_sumUp 6 = .ok (.aload_n 0, 1) := by decide +kernel
theorem dX0_sumUp_7 : decode cX0_sumUp 7 = .ok (.getfield 18, 3) := by decide +kernel
theorem dX0_sumUp_10 : decode cX0_sumUp 10 = .ok (.iconst 0, 1) := by decide +kernel
theorem dX0_sumUp_11 : decode cX0_sumUp 11 = .ok (.invokestatic 55, 3) := by decide +kernel
theorem dX0_sumUp_14 : decode cX0_sumUp 14 = .ok (.putfield 25, 3) := by decide +kernel
theorem dX0_sumUp_17 : decode cX0_sumUp 17 = .ok (.aload_n 0, 1) := by decide +kernel
theorem dX0_sumUp_18 : decode cX0_sumUp 18 = .ok (.aload_n 0, 1) := by decide +kernel
theorem dX0_sumUp_19 : decode cX0_sumUp 19 = .ok (.getfield 25, 3) := by decide +kernel
theorem dX0_sumUp_22 : decode cX0_sumUp 22 = .ok (.putfield 21, 3) := by decide +kernel
theorem dX0_sumUp_25 : decode cX0_sumUp 25 = .ok (.aload_n 0, 1) := by decide +kernel
theorem dX0_sumUp_26 : decode cX0_sumUp 26 = .ok (.iconst 0, 1) := by decide +kernel
theorem dX0_sumUp_27 : decode cX0_sumUp 27 = .ok (.putfield 81, 3) := by decide +kernel
theorem dX0_sumUp_30 : decode cX0_sumUp 30 = .ok (.aload_n 0, 1) := by decide +kernel
theorem dX0_sumUp_31 : decode cX0_sumUp 31 = .ok (.iconst 0, 1) := by decide +kernel
theorem dX0_sumUp_32 : decode cX0_sumUp 32 = .ok (.putfield 84, 3) := by decide +kernel
theorem dX0_sumUp_35 : decode cX0_sumUp 35 = .ok (.aload_n 0, 1) := by decide +kernel
theorem dX0_sumUp_36 : decode cX0_sumUp 36 = .ok (.iconst 0, 1) := by decide +kernel
theorem dX0_sumUp_37 : decode cX0_sumUp 37 = .ok (.putfield 87, 3) := by decide +kernel
theorem dX0_sumUp_40 : decode cX0_sumUp 40 = .ok (.aload_n 0, 1) := by decide +kernel
theorem dX0_sumUp_41 : decode cX0_sumUp 41 = .ok (.iconst 0, 1) := by decide +kernel
theorem dX0_sumUp_42 : decode cX0_sumUp 42 = .ok (.putfield 90, 3) := by decide +kernel
theorem dX0_sumUp_45 : decode cX0_sumUp 45 = .ok (.iconst 0, 1) := by decide +kernel
theorem dX0_sumUp_46 : decode cX0_sumUp 46 = .ok (.istore_n 2, 1) := by decide +kernel
theorem dX0_sumUp_47 : decode cX0_sumUp 47 = .ok (.iload_n 2, 1) := by decide +kernel
theorem dX0_sumUp_48 : decode cX0_sumUp 48 = .ok (.aload_n 0, 1) := by decide +kernel
theorem dX0_sumUp_49 : decode cX0_sumUp 49 = .ok (.getfield 18, 3) := by decide +kernel
theorem dX0_sumUp_52 : decode cX0_sumUp 52 = .ok (.arraylength, 1) := by decide +kernel
theorem dX0_sumUp_53 : decode cX0_sumUp 53 = .ok (.if_icmp .ge 117, 3) := by decide +kernel
theorem dX0_sumUp_56 : decode cX0_sumUp 56 = .ok (.aload_n 0, 1) := by decide +kernel
theorem dX0_sumUp_57 : decode cX0_sumUp 57 = .ok (.getfield 18, 3) := by decide +kernel
theorem dX0_sumUp_60 : decode cX0_sumUp 60 = .ok (.iload_n 2, 1) := by decide +kernel
theorem dX0_sumUp_61 : decode cX0_sumUp 61 = .ok (.iaload, 1) := by decide +kernel
theorem dX0_sumUp_62 : decode cX0_sumUp 62 = .ok (.iload_n 1, 1) := by decide +kernel
theorem dX0_sumUp_63 : decode cX0_sumUp 63 = .ok (.isub, 1) := by decide +kernel
theorem dX0_sumUp_64 : decode cX0_sumUp 64 = .ok (.invokestatic 93, 3) := by decide +kernel
theorem dX0_sumUp_67 : decode cX0_sumUp 67 = .ok (.istore_n 3, 1) := by decide +kernel
theorem dX0_sumUp_68 : decode cX0_sumUp 68 = .ok (.aload_n 0, 1) := by decide +kernel
theorem dX0_sumUp_69 : decode cX0_sumUp 69 = .ok (.dup, 1) := by decide +kernel
theorem dX0_sumUp_70 : decode cX0_sumUp 70 = .ok (.getfield 78, 3) := by decide +kernel
theorem dX0_sumUp_73 : decode cX0_sumUp 73 = .ok (.aload_n 0, 1) := by decide +kernel
theorem dX0_sumUp_74 : decode cX0_sumUp 74 = .ok (.getfield 18, 3) := by decide +kernel
theorem dX0_sumUp_77 : decode cX0_sumUp 77 = .ok (.iload_n 2, 1) := by decide +kernel
theorem dX0_sumUp_78 : decode cX0_sumUp 78 = .ok (.iaload, 1) := by decide +kernel
theorem dX0_sumUp_79 : decode cX0_sumUp 79 = .ok (.iadd, 1) := by decide +kernel
theorem dX0_sumUp_80 : decode cX0_sumUp 80 = .ok (.putfield 78, 3) := by decide +kernel
theorem dX0_sumUp_83 : decode cX0_sumUp 83 = .ok (.aload_n 0, 1) := by decide +kernel
theorem dX0_sumUp_84 : decode cX0_sumUp 84 = .ok (.dup, 1) := by decide +kernel
theorem dX0_sumUp_85 : decode cX0_sumUp 85 = .ok (.getfield 81, 3) := by decide +kernel
theorem dX0_sumUp_88 : decode cX0_sumUp 88 = .ok (.iload_n 3, 1) := by decide +kernel
theorem dX0_sumUp_89 : decode cX0_sumUp 89 = .ok (.iadd, 1) := by decide +kernel
theorem dX0_sumUp_90 : decode cX0_sumUp 90 = .ok (.putfield 81, 3) := by decide +kernel
theorem dX0_sumUp_93 : decode cX0_sumUp 93 = .ok (.aload_n 0, 1) := by decide +kernel
theorem dX0_sumUp_94 : decode cX0_sumUp 94 = .ok (.aload_n 0, 1) := by decide +kernel
theorem dX0_sumUp_95 : decode cX0_sumUp 95 = .ok (.getfield 25, 3) := by decide +kernel
theorem dX0_sumUp_98 : decode cX0_sumUp 98 = .ok (.aload_n 0, 1) := by decide +kernel
theorem dX0_sumUp_99 : decode cX0_sumUp 99 = .ok (.getfield 18, 3) := by decide +kernel
theorem dX0_sumUp_102 : decode cX0_sumUp 102 = .ok (.iload_n 2, 1) := by decide +kernel
theorem dX0_sumUp_103 : decode cX0_sumUp 103 = .ok (.iaload, 1) := by decide +kernel
theorem dX0_sumUp_104 : decode cX0_sumUp 104 = .ok (.invokestatic 75, 3) := by decide +kernel
theorem dX0_sumUp_107 : decode cX0_sumUp 107 = .ok (.putfield 25, 3) := by decide +kernel
theorem dX0_sumUp_110 : decode cX0_sumUp 110 = .ok (.aload_n 0, 1) := by decide +kernel
theorem dX0_sumUp_111 : decode cX0_sumUp 111 = .ok (.aload_n 0, 1) := by decide +kernel
theorem dX0_sumUp_112 : decode cX0_sumUp 112 = .ok (.getfield 21, 3) := by decide +kernel
theorem dX0_sumUp_115 : decode cX0_sumUp 115 = .ok (.aload_n 0, 1) := by decide +kernel
theorem dX0_sumUp_116 : decode cX0_sumUp 116 = .ok (.getfield 18, 3) := by decide +kernel
theorem dX0_sumUp_119 : decode cX0_sumUp 119 = .ok (.iload_n 2, 1) := by decide +kernel
theorem dX0_sumUp_120 : decode cX0_sumUp 120 = .ok (.iaload, 1) := by decide +kernel
theorem dX0_sumUp_121 : decode cX0_sumUp 121 = .ok (.invokestatic 62, 3) := by decide +kernel
theorem dX0_sumUp_124 : decode cX0_sumUp 124 = .ok (.putfield 21, 3) := by decide +kernel
theorem dX0_sumUp_127 : decode cX0_sumUp 127 = .ok (.iload_n 3, 1) := by decide +kernel
theorem dX0_sumUp_128 : decode cX0_sumUp 128 = .ok (.aload_n 0, 1) := by decide +kernel
theorem dX0_sumUp_129 : decode cX0_sumUp 129 = .ok (.getfield 84, 3) := by decide +kernel
theorem dX0_sumUp_132 : decode cX0_sumUp 132 = .ok (.if_icmp .le 13, 3) := by decide +kernel
theorem dX0_sumUp_135 : decode cX0_sumUp 135 = .ok (.aload_n 0, 1) := by decide +kernel
theorem dX0_sumUp_136 : decode cX0_sumUp 136 = .ok (.iload_n 3, 1) := by decide +kernel
theorem dX0_sumUp_137 : decode cX0_sumUp 137 = .ok (.putfield 84, 3) := by decide +kernel
theorem dX0_sumUp_140 : decode cX0_sumUp 140 = .ok (.aload_n 0, 1) := by decide +kernel
theorem dX0_sumUp_141 : decode cX0_sumUp 141 = .ok (.iload_n 2, 1) := by decide +kernel
theorem dX0_sumUp_142 : decode cX0_sumUp 142 = .ok (.putfield 87, 3) := by decide +kernel
theorem dX0_sumUp_145 : decode cX0_sumUp 145 = .ok (.aload_n 0, 1) := by decide +kernel
theorem dX0_sumUp_146 : decode cX0_sumUp 146 = .ok (.getfield 18, 3) := by decide +kernel
theorem dX0_sumUp_149 : decode cX0_sumUp 149 = .ok (.iload_n 2, 1) := by decide +kernel
theorem dX0_sumUp_150 : decode cX0_sumUp 150 = .ok (.iaload, 1) := by decide +kernel
theorem dX0_sumUp_151 : decode cX0_sumUp 151 = .ok (.ifCond .ne 13, 3) := by decide +kernel
theorem dX0_sumUp_154 : decode cX0_sumUp 154 = .ok (.aload_n 0, 1) := by decide +kernel
theorem dX0_sumUp_155 : decode cX0_sumUp 155 = .ok (.dup, 1) := by decide +kernel
theorem dX0_sumUp_156 : decode cX0_sumUp 156 = .ok (.getfield 90, 3) := by decide +kernel
theorem dX0_sumUp_159 : decode cX0_sumUp 159 = .ok (.iconst 1, 1) := by decide +kernel
theorem dX0_sumUp_160 : decode cX0_sumUp 160 = .ok (.iadd, 1) := by decide +kernel
theorem dX0_sumUp_161 : decode cX0_sumUp 161 = .ok (.putfield 90, 3) := by decide +kernel
theorem dX0_sumUp_164 : decode cX0_sumUp 164 = .ok (.iinc 2 1, 3) := by decide +kernel
theorem dX0_sumUp_167 : decode cX0_sumUp 167 = .ok (.goto (-120), 3) := by decide +kernel
theorem dX0_sumUp_170 : decode cX0_sumUp 170 = .ok (.return_, 1) := by decide +kernel
abbrev zX0_sumUp : List Cond := .code yX0_sumUp cX0_sumUp 4 none :: BIG
def fX0_sumUp_j145  (K47 : (ExT × Int32 × Int32) → Option (ExT)) (v145 : ExT × Int32 × Int32) : Option (ExT) := gd (pin v145.2.2 24) ((if (v145.1.2.2.1 (Int32.toNatClampNeg v145.2.2)) = 0 then K47 ((v145.1.1, v145.1.2.1, v145.1.2.2.1, v145.1.2.2.2.1, v145.1.2.2.2.2.1, v145.1.2.2.2.2.2.1, v145.1.2.2.2.2.2.2.1, v145.1.2.2.2.2.2.2.2.1, v145.1.2.2.2.2.2.2.2.2.1, (v145.1.2.2.2.2.2.2.2.2.2 + 1)), v145.2.1, v145.2.2 + 1) else K47 (v145.1, v145.2.1, v145.2.2 + 1)))
def fX0_sumUp_l47   (K47 : (ExT × Int32 × Int32) → Option (ExT)) (v47 : ExT × Int32 × Int32) : Option (ExT) := (if 24 ≤ v47.2.2 then some v47.1 else gd (pin v47.2.2 24) ((if (iabs ((v47.1.2.2.1 (Int32.toNatClampNeg v47.2.2)) - v47.2.1)) ≤ v47.1.2.2.2.2.2.2.2.1 then fX0_sumUp_j145 K47 ((v47.1.1, v47.1.2.1, v47.1.2.2.1, (v47.1.2.2.2.1 + (v47.1.2.2.1 (Int32.toNatClampNeg v47.2.2))), (imin v47.1.2.2.2.2.1 (v47.1.2.2.1 (Int32.toNatClampNeg v47.2.2))), (imax v47.1.2.2.2.2.2.1 (v47.1.2.2.1 (Int32.toNatClampNeg v47.2.2))), (v47.1.2.2.2.2.2.2.1 + (iabs ((v47.1.2.2.1 (Int32.toNatClampNeg v47.2.2)) - v47.2.1))), v47.1.2.2.2.2.2.2.2.1, v47.1.2.2.2.2.2.2.2.2.1, v47.1.2.2.2.2.2.2.2.2.2), v47.2.1, v47.2.2) else fX0_sumUp_j145 K47 ((v47.1.1, v47.1.2.1, v47.1.2.2.1, (v47.1.2.2.2.1 + (v47.1.2.2.1 (Int32.toNatClampNeg v47.2.2))), (imin v47.1.2.2.2.2.1 (v47.1.2.2.1 (Int32.toNatClampNeg v47.2.2))), (imax v47.1.2.2.2.2.2.1 (v47.1.2.2.1 (Int32.toNatClampNeg v47.2.2))), (v47.1.2.2.2.2.2.2.1 + (iabs ((v47.1.2.2.1 (Int32.toNatClampNeg v47.2.2)) - v47.2.1))), (iabs ((v47.1.2.2.1 (Int32.toNatClampNeg v47.2.2)) - v47.2.1)), v47.2.2, v47.1.2.2.2.2.2.2.2.2.2), v47.2.1, v47.2.2))))
def fX0_sumUp (ex : ExT) (w : Int32) : Option (ExT) := (fX2_at 24 ex.2.2.1 0).bind (fun r1 => lp (fX0_sumUp_l47) 2000 ((ex.1, ex.2.1, ex.2.2.1, 0, r1, r1, 0, 0, 0, 0), w, 0))
set_option maxHeartbeats 4000000 in
set_option maxRecDepth 100000 in
theorem mtX0_sumUp (l : Launch) (D : va_G) (t : Nat → ClassId) (ea : Nat) (eb : Nat → Nat) (ex : ExT) (w : Int32) (out : ExT) (h : fX0_sumUp ex w = some out)  (sz : Nat) : Met l yX0_sumUp zX0_sumUp ({ frames := 1, cells := 0, slots := 0, locals := 21 }) (sPc D t (gE t ea eb ex) sz [.ref ea, .int w]) (qV D t (gE t ea eb out) (va_A (gE t ea eb ex) sz)) 0 0 (va_A (gE t ea eb ex) sz) := by
  refine met_of (Qf := fun A => qV D t (gE t ea eb out) A) (cc := cX0_sumUp) (maxL := 4) (ret := none) (by decide) rfl (Nat.le_of_ble_eq_true rfl) ?_
  intro p e s m args below meth c A hx hb hr hml hts hown hlocks hA hP hK hD hE hS ls hl
  have htB : ∀ w ∈ BIG, w.before args s = true := fun w h => hts w (List.mem_cons_of_mem _ h)
  have hown : s.vm.findClass RX0 = some m.cls := hown
  have hl : lv_has ls 4 [(0, .ref ea), (1, .int w)] := hl
  unfold fX0_sumUp at h
  have J47 : ∀ (fu47 : Nat) (v47 : ExT × Int32 × Int32), lp (fX0_sumUp_l47) fu47 v47 = some out → ∀ (H : Heap) (locs : List Loc), va_P D vwCl (gE t ea eb v47.1) H → va_D A (gE t ea eb v47.1) → va_S A s.heap H locs → ∀ ls : Array Slot, lv_has ls 4 [(0, .ref ea), (1, .int v47.2.1), (2, .int v47.2.2)] → W p l e ({ frames := 1, cells := 0, slots := 0, locals := 21 }) s m args below meth c H locs 0 0 (MQ below (qV D t (gE t ea eb out) A) args s 0 0 A) (F0 m 47 ls []) := by
    intro fu47
    induction fu47 with
    | zero => intro v47 h; cases h
    | succ fu47 ih47 =>
      intro v47 h H locs hP hD hS ls hl
      have h : fX0_sumUp_l47 (lp (fX0_sumUp_l47) fu47) v47 = some out := h
      unfold fX0_sumUp_l47 at h
      have J145 : ∀ v145 : ExT × Int32 × Int32, fX0_sumUp_j145 (lp (fX0_sumUp_l47) fu47) v145 = some out → ∀ (H : Heap) (locs : List Loc), va_P D vwCl (gE t ea eb v145.1) H → va_D A (gE t ea eb v145.1) → va_S A s.heap H locs → ∀ ls : Array Slot, lv_has ls 4 [(0, .ref ea), (1, .int v145.2.1), (2, .int v145.2.2)] → W p l e ({ frames := 1, cells := 0, slots := 0, locals := 21 }) s m args below meth c H locs 0 0 (MQ below (qV D t (gE t ea eb out) A) args s 0 0 A) (F0 m 145 ls []) := by
        intro v145 h H locs hP hD hS ls hl
        unfold fX0_sumUp_j145 at h
        refine lv_aload_n hx hb dX0_sumUp_145 rfl (lv_at hl 0 rfl) ?_
        refine va_get (D := D) (ci := 0) (v := .ref (eb 2)) (C := RX0) (T := TX0) (N := 10) hx hb htB inlX0 hown hK hP 0 rfl rfl 2 (by decide) (htB _ kw49) (fun _ h9 => h9) rfl dX0_sumUp_146 ?_
        refine lv_iload_n hx hb dX0_sumUp_149 rfl (lv_at hl 2 rfl) ?_
        obtain ⟨g5, h⟩ := og h
        refine va_iald hx hb hK hP 3 0 rfl rfl (pin_in g5) dX0_sumUp_150 ?_
        refine lv_if_ne (tgt := 164) hx hb dX0_sumUp_151 (by decide) (fun c6 => ?_) (fun c6 => ?_)
        · have h := it_n c6 h
          refine lv_iinc (v := v145.2.2 + 1) (lv' := [(2, .int (v145.2.2 + 1)), (0, .ref ea), (1, .int v145.2.1)]) hx hb dX0_sumUp_164 hl (k := 2) rfl rfl (by decide) rfl (fun ls hl => ?_)
          refine lv_goto (tgt := 47) hx hb dX0_sumUp_167 (by decide) ?_
          exact ih47 (v145.1, v145.2.1, v145.2.2 + 1) h _ _ hP hD hS _ (lv_sub hl [1, 2, 0] rfl)
        · have h := it_p c6 h
          refine lv_aload_n hx hb dX0_sumUp_154 rfl (lv_at hl 0 rfl) ?_
          refine lv_dup hx hb dX0_sumUp_155 rfl ?_
          refine va_get (D := D) (ci := 0) (v := .int v145.1.2.2.2.2.2.2.2.2.2) (C := RX0) (T := TX0) (N := 10) hx hb htB inlX0 hown hK hP 0 rfl rfl 9 (by decide) (htB _ kw269) (fun _ h9 => h9) rfl dX0_sumUp_156 ?_
          refine lv_iconst (v := 1) hx hb dX0_sumUp_159 (by decide) ?_
          refine lv_iadd hx hb dX0_sumUp_160 ?_
          refine va_put (D := D) (ci := 0) (v := .int (v145.1.2.2.2.2.2.2.2.2.2 + 1)) (ty := .int) (C := RX0) (T := TX0) (N := 10) hx hb htB inlX0 tyX0 tyX0_ok nmX0 hown hK hP hD hS 0 rfl rfl 9 (by decide) (htB _ kw269) (fun _ h9 => h9) rfl (by decide +kernel) rfl rfl (Nat.le_of_ble_eq_true rfl) dX0_sumUp_161 (fun H locs hP hD hS => ?_)
          have hP : va_P D vwCl (gE t ea eb (v145.1.1, v145.1.2.1, v145.1.2.2.1, v145.1.2.2.2.1, v145.1.2.2.2.2.1, v145.1.2.2.2.2.2.1, v145.1.2.2.2.2.2.2.1, v145.1.2.2.2.2.2.2.2.1, v145.1.2.2.2.2.2.2.2.2.1, (v145.1.2.2.2.2.2.2.2.2.2 + 1))) H := hP
          have hD : va_D A (gE t ea eb (v145.1.1, v145.1.2.1, v145.1.2.2.1, v145.1.2.2.2.1, v145.1.2.2.2.2.1, v145.1.2.2.2.2.2.1, v145.1.2.2.2.2.2.2.1, v145.1.2.2.2.2.2.2.2.1, v145.1.2.2.2.2.2.2.2.2.1, (v145.1.2.2.2.2.2.2.2.2.2 + 1))) := hD
          refine lv_iinc (v := v145.2.2 + 1) (lv' := [(2, .int (v145.2.2 + 1)), (0, .ref ea), (1, .int v145.2.1)]) hx hb dX0_sumUp_164 hl (k := 2) rfl rfl (by decide) rfl (fun ls hl => ?_)
          refine lv_goto (tgt := 47) hx hb dX0_sumUp_167 (by decide) ?_
          exact ih47 ((v145.1.1, v145.1.2.1, v145.1.2.2.1, v145.1.2.2.2.1, v145.1.2.2.2.2.1, v145.1.2.2.2.2.2.1, v145.1.2.2.2.2.2.2.1, v145.1.2.2.2.2.2.2.2.1, v145.1.2.2.2.2.2.2.2.2.1, (v145.1.2.2.2.2.2.2.2.2.2 + 1)), v145.2.1, v145.2.2 + 1) h _ _ hP hD hS _ (lv_sub hl [1, 2, 0] rfl)
      refine lv_iload_n hx hb dX0_sumUp_47 rfl (lv_at hl 2 rfl) ?_
      refine lv_aload_n hx hb dX0_sumUp_48 rfl (lv_at hl 0 rfl) ?_
      refine va_get (D := D) (ci := 0) (v := .ref (eb 2)) (C := RX0) (T := TX0) (N := 10) hx hb htB inlX0 hown hK hP 0 rfl rfl 2 (by decide) (htB _ kw49) (fun _ h9 => h9) rfl dX0_sumUp_49 ?_
      refine va_alen (v := 24) hx hb hK hP 3 0 rfl rfl rfl dX0_sumUp_52 ?_
      refine lv_icmp_ge (tgt := 170) hx hb dX0_sumUp_53 (by decide) (fun c2 => ?_) (fun c2 => ?_)
      · have h := it_p c2 h
        obtain rfl := os h
        exact ret_v hx hb hr hlocks hP hK hD hS dX0_sumUp_170
      · have h := it_n c2 h
        refine lv_aload_n hx hb dX0_sumUp_56 rfl (lv_at hl 0 rfl) ?_
        refine va_get (D := D) (ci := 0) (v := .ref (eb 2)) (C := RX0) (T := TX0) (N := 10) hx hb htB inlX0 hown hK hP 0 rfl rfl 2 (by decide) (htB _ kw49) (fun _ h9 => h9) rfl dX0_sumUp_57 ?_
        refine lv_iload_n hx hb dX0_sumUp_60 rfl (lv_at hl 2 rfl) ?_
        obtain ⟨g3, h⟩ := og h
        refine va_iald hx hb hK hP 3 0 rfl rfl (pin_in g3) dX0_sumUp_61 ?_
        refine lv_iload_n hx hb dX0_sumUp_62 rfl (lv_at hl 1 rfl) ?_
        refine lv_isub hx hb dX0_sumUp_63 ?_
        refine va_mabs hx hb (by rw [hml]; exact hl.1.symm) hown (htB _ kw270) (htB _ kw271) (htB _ kw92) (htB _ kw272) (Nat.le_of_ble_eq_true rfl) (Nat.le_of_ble_eq_true rfl) (Nat.zero_le _) (Nat.zero_le _) dX0_sumUp_64 ?_
        refine lv_istore_n (lv' := [(3, .int (iabs ((v47.1.2.2.1 (Int32.toNatClampNeg v47.2.2)) - v47.2.1))), (0, .ref ea), (1, .int v47.2.1), (2, .int v47.2.2)]) hx hb dX0_sumUp_67 rfl hl (by decide) rfl (fun ls hl => ?_)
        refine lv_aload_n hx hb dX0_sumUp_68 rfl (lv_at hl 1 rfl) ?_
        refine lv_dup hx hb dX0_sumUp_69 rfl ?_
        refine va_get (D := D) (ci := 0) (v := .int v47.1.2.2.2.1) (C := RX0) (T := TX0) (N := 10) hx hb htB inlX0 hown hK hP 0 rfl rfl 3 (by decide) (htB _ kw263) (fun _ h9 => h9) rfl dX0_sumUp_70 ?_
        refine lv_aload_n hx hb dX0_sumUp_73 rfl (lv_at hl 1 rfl) ?_
        refine va_get (D := D) (ci := 0) (v := .ref (eb 2)) (C := RX0) (T := TX0) (N := 10) hx hb htB inlX0 hown hK hP 0 rfl rfl 2 (by decide) (htB _ kw49) (fun _ h9 => h9) rfl dX0_sumUp_74 ?_
        refine lv_iload_n hx hb dX0_sumUp_77 rfl (lv_at hl 3 rfl) ?_
        refine va_iald hx hb hK hP 3 0 rfl rfl (pin_in g3) dX0_sumUp_78 ?_
        refine lv_iadd hx hb dX0_sumUp_79 ?_
        refine va_put (D := D) (ci := 0) (v := .int (v47.1.2.2.2.1 + (v47.1.2.2.1 (Int32.toNatClampNeg v47.2.2)))) (ty := .int) (C := RX0) (T := TX0) (N := 10) hx hb htB inlX0 tyX0 tyX0_ok nmX0 hown hK hP hD hS 0 rfl rfl 3 (by decide) (htB _ kw263) (fun _ h9 => h9) rfl (by decide +kernel) rfl rfl (Nat.le_of_ble_eq_true rfl) dX0_sumUp_80 (fun H locs hP hD hS => ?_)
        have hP : va_P D vwCl (gE t ea eb (v47.1.1, v47.1.2.1, v47.1.2.2.1, (v47.1.2.2.2.1 + (v47.1.2.2.1 (Int32.toNatClampNeg v47.2.2))), v47.1.2.2.2.2.1, v47.1.2.2.2.2.2.1, v47.1.2.2.2.2.2.2.1, v47.1.2.2.2.2.2.2.2.1, v47.1.2.2.2.2.2.2.2.2.1, v47.1.2.2.2.2.2.2.2.2.2)) H := hP
        have hD : va_D A (gE t ea eb (v47.1.1, v47.1.2.1, v47.1.2.2.1, (v47.1.2.2.2.1 + (v47.1.2.2.1 (Int32.toNatClampNeg v47.2.2))), v47.1.2.2.2.2.1, v47.1.2.2.2.2.2.1, v47.1.2.2.2.2.2.2.1, v47.1.2.2.2.2.2.2.2.1, v47.1.2.2.2.2.2.2.2.2.1, v47.1.2.2.2.2.2.2.2.2.2)) := hD
        refine lv_aload_n hx hb dX0_sumUp_83 rfl (lv_at hl 1 rfl) ?_
        refine lv_dup hx hb dX0_sumUp_84 rfl ?_
        refine va_get (D := D) (ci := 0) (v := .int v47.1.2.2.2.2.2.2.1) (C := RX0) (T := TX0) (N := 10) hx hb htB inlX0 hown hK hP 0 rfl rfl 6 (by decide) (htB _ kw266) (fun _ h9 => h9) rfl dX0_sumUp_85 ?_
        refine lv_iload_n hx hb dX0_sumUp_88 rfl (lv_at hl 0 rfl) ?_
        refine lv_iadd hx hb dX0_sumUp_89 ?_
        refine va_put (D := D) (ci := 0) (v := .int (v47.1.2.2.2.2.2.2.1 + (iabs ((v47.1.2.2.1 (Int32.toNatClampNeg v47.2.2)) - v47.2.1)))) (ty := .int) (C := RX0) (T := TX0) (N := 10) hx hb htB inlX0 tyX0 tyX0_ok nmX0 hown hK hP hD hS 0 rfl rfl 6 (by decide) (htB _ kw266) (fun _ h9 => h9) rfl (by decide +kernel) rfl rfl (Nat.le_of_ble_eq_true rfl) dX0_sumUp_90 (fun H locs hP hD hS => ?_)
        have hP : va_P D vwCl (gE t ea eb (v47.1.1, v47.1.2.1, v47.1.2.2.1, (v47.1.2.2.2.1 + (v47.1.2.2.1 (Int32.toNatClampNeg v47.2.2))), v47.1.2.2.2.2.1, v47.1.2.2.2.2.2.1, (v47.1.2.2.2.2.2.2.1 + (iabs ((v47.1.2.2.1 (Int32.toNatClampNeg v47.2.2)) - v47.2.1))), v47.1.2.2.2.2.2.2.2.1, v47.1.2.2.2.2.2.2.2.2.1, v47.1.2.2.2.2.2.2.2.2.2)) H := hP
        have hD : va_D A (gE t ea eb (v47.1.1, v47.1.2.1, v47.1.2.2.1, (v47.1.2.2.2.1 + (v47.1.2.2.1 (Int32.toNatClampNeg v47.2.2))), v47.1.2.2.2.2.1, v47.1.2.2.2.2.2.1, (v47.1.2.2.2.2.2.2.1 + (iabs ((v47.1.2.2.1 (Int32.toNatClampNeg v47.2.2)) - v47.2.1))), v47.1.2.2.2.2.2.2.2.1, v47.1.2.2.2.2.2.2.2.2.1, v47.1.2.2.2.2.2.2.2.2.2)) := hD
        refine lv_aload_n hx hb dX0_sumUp_93 rfl (lv_at hl 1 rfl) ?_
        refine lv_aload_n hx hb dX0_sumUp_94 rfl (lv_at hl 1 rfl) ?_
        refine va_get (D := D) (ci := 0) (v := .int v47.1.2.2.2.2.1) (C := RX0) (T := TX0) (N := 10) hx hb htB inlX0 hown hK hP 0 rfl rfl 4 (by decide) (htB _ kw264) (fun _ h9 => h9) rfl dX0_sumUp_95 ?_
        refine lv_aload_n hx hb dX0_sumUp_98 rfl (lv_at hl 1 rfl) ?_
        refine va_get (D := D) (ci := 0) (v := .ref (eb 2)) (C := RX0) (T := TX0) (N := 10) hx hb htB inlX0 hown hK hP 0 rfl rfl 2 (by decide) (htB _ kw49) (fun _ h9 => h9) rfl dX0_sumUp_99 ?_
        refine lv_iload_n hx hb dX0_sumUp_102 rfl (lv_at hl 3 rfl) ?_
        refine va_iald hx hb hK hP 3 0 rfl rfl (pin_in g3) dX0_sumUp_103 ?_
        refine va_mmin hx hb (by rw [hml]; exact hl.1.symm) hown (htB _ kw253) (htB _ kw91) (htB _ kw92) (htB _ kw93) (Nat.le_of_ble_eq_true rfl) (Nat.le_of_ble_eq_true rfl) (Nat.zero_le _) (Nat.zero_le _) dX0_sumUp_104 ?_
        refine va_put (D := D) (ci := 0) (v := .int (imin v47.1.2.2.2.2.1 (v47.1.2.2.1 (Int32.toNatClampNeg v47.2.2)))) (ty := .int) (C := RX0) (T := TX0) (N := 10) hx hb htB inlX0 tyX0 tyX0_ok nmX0 hown hK hP hD hS 0 rfl rfl 4 (by decide) (htB _ kw264) (fun _ h9 => h9) rfl (by decide +kernel) rfl rfl (Nat.le_of_ble_eq_true rfl) dX0_sumUp_107 (fun H locs hP hD hS => ?_)
        have hP : va_P D vwCl (gE t ea eb (v47.1.1, v47.1.2.1, v47.1.2.2.1, (v47.1.2.2.2.1 + (v47.1.2.2.1 (Int32.toNatClampNeg v47.2.2))), (imin v47.1.2.2.2.2.1 (v47.1.2.2.1 (Int32.toNatClampNeg v47.2.2))), v47.1.2.2.2.2.2.1, (v47.1.2.2.2.2.2.2.1 + (iabs ((v47.1.2.2.1 (Int32.toNatClampNeg v47.2.2)) - v47.2.1))), v47.1.2.2.2.2.2.2.2.1, v47.1.2.2.2.2.2.2.2.2.1, v47.1.2.2.2.2.2.2.2.2.2)) H := hP
        have hD : va_D A (gE t ea eb (v47.1.1, v47.1.2.1, v47.1.2.2.1, (v47.1.2.2.2.1 + (v47.1.2.2.1 (Int32.toNatClampNeg v47.2.2))), (imin v47.1.2.2.2.2.1 (v47.1.2.2.1 (Int32.toNatClampNeg v47.2.2))), v47.1.2.2.2.2.2.1, (v47.1.2.2.2.2.2.2.1 + (iabs ((v47.1.2.2.1 (Int32.toNatClampNeg v47.2.2)) - v47.2.1))), v47.1.2.2.2.2.2.2.2.1, v47.1.2.2.2.2.2.2.2.2.1, v47.1.2.2.2.2.2.2.2.2.2)) := hD
        refine lv_aload_n hx hb dX0_sumUp_110 rfl (lv_at hl 1 rfl) ?_
        refine lv_aload_n hx hb dX0_sumUp_111 rfl (lv_at hl 1 rfl) ?_
        refine va_get (D := D) (ci := 0) (v := .int v47.1.2.2.2.2.2.1) (C := RX0) (T := TX0) (N := 10) hx hb htB inlX0 hown hK hP 0 rfl rfl 5 (by decide) (htB _ kw265) (fun _ h9 => h9) rfl dX0_sumUp_112 ?_
        refine lv_aload_n hx hb dX0_sumUp_115 rfl (lv_at hl 1 rfl) ?_
        refine va_get (D := D) (ci := 0) (v := .ref (eb 2)) (C := RX0) (T := TX0) (N := 10) hx hb htB inlX0 hown hK hP 0 rfl rfl 2 (by decide) (htB _ kw49) (fun _ h9 => h9) rfl dX0_sumUp_116 ?_
        refine lv_iload_n hx hb dX0_sumUp_119 rfl (lv_at hl 3 rfl) ?_
        refine va_iald hx hb hK hP 3 0 rfl rfl (pin_in g3) dX0_sumUp_120 ?_
        refine va_mmax hx hb (by rw [hml]; exact hl.1.symm) hown (htB _ kw234) (htB _ kw235) (htB _ kw92) (htB _ kw236) (Nat.le_of_ble_eq_true rfl) (Nat.le_of_ble_eq_true rfl) (Nat.zero_le _) (Nat.zero_le _) dX0_sumUp_121 ?_
        refine va_put (D := D) (ci := 0) (v := .int (imax v47.1.2.2.2.2.2.1 (v47.1.2.2.1 (Int32.toNatClampNeg v47.2.2)))) (ty := .int) (C := RX0) (T := TX0) (N := 10) hx hb htB inlX0 tyX0 tyX0_ok nmX0 hown hK hP hD hS 0 rfl rfl 5 (by decide) (htB _ kw265) (fun _ h9 => h9) rfl (by decide +kernel) rfl rfl (Nat.le_of_ble_eq_true rfl) dX0_sumUp_124 (fun H locs hP hD hS => ?_)
        have hP : va_P D vwCl (gE t ea eb (v47.1.1, v47.1.2.1, v47.1.2.2.1, (v47.1.2.2.2.1 + (v47.1.2.2.1 (Int32.toNatClampNeg v47.2.2))), (imin v47.1.2.2.2.2.1 (v47.1.2.2.1 (Int32.toNatClampNeg v47.2.2))), (imax v47.1.2.2.2.2.2.1 (v47.1.2.2.1 (Int32.toNatClampNeg v47.2.2))), (v47.1.2.2.2.2.2.2.1 + (iabs ((v47.1.2.2.1 (Int32.toNatClampNeg v47.2.2)) - v47.2.1))), v47.1.2.2.2.2.2.2.2.1, v47.1.2.2.2.2.2.2.2.2.1, v47.1.2.2.2.2.2.2.2.2.2)) H := hP
        have hD : va_D A (gE t ea eb (v47.1.1, v47.1.2.1, v47.1.2.2.1, (v47.1.2.2.2.1 + (v47.1.2.2.1 (Int32.toNatClampNeg v47.2.2))), (imin v47.1.2.2.2.2.1 (v47.1.2.2.1 (Int32.toNatClampNeg v47.2.2))), (imax v47.1.2.2.2.2.2.1 (v47.1.2.2.1 (Int32.toNatClampNeg v47.2.2))), (v47.1.2.2.2.2.2.2.1 + (iabs ((v47.1.2.2.1 (Int32.toNatClampNeg v47.2.2)) - v47.2.1))), v47.1.2.2.2.2.2.2.2.1, v47.1.2.2.2.2.2.2.2.2.1, v47.1.2.2.2.2.2.2.2.2.2)) := hD
        refine lv_iload_n hx hb dX0_sumUp_127 rfl (lv_at hl 0 rfl) ?_
        refine lv_aload_n hx hb dX0_sumUp_128 rfl (lv_at hl 1 rfl) ?_
        refine va_get (D := D) (ci := 0) (v := .int v47.1.2.2.2.2.2.2.2.1) (C := RX0) (T := TX0) (N := 10) hx hb htB inlX0 hown hK hP 0 rfl rfl 7 (by decide) (htB _ kw267) (fun _ h9 => h9) rfl dX0_sumUp_129 ?_
        refine lv_icmp_le (tgt := 145) hx hb dX0_sumUp_132 (by decide) (fun c4 => ?_) (fun c4 => ?_)
        · have h := it_p c4 h
          exact J145 ((v47.1.1, v47.1.2.1, v47.1.2.2.1, (v47.1.2.2.2.1 + (v47.1.2.2.1 (Int32.toNatClampNeg v47.2.2))), (imin v47.1.2.2.2.2.1 (v47.1.2.2.1 (Int32.toNatClampNeg v47.2.2))), (imax v47.1.2.2.2.2.2.1 (v47.1.2.2.1 (Int32.toNatClampNeg v47.2.2))), (v47.1.2.2.2.2.2.2.1 + (iabs ((v47.1.2.2.1 (Int32.toNatClampNeg v47.2.2)) - v47.2.1))), v47.1.2.2.2.2.2.2.2.1, v47.1.2.2.2.2.2.2.2.2.1, v47.1.2.2.2.2.2.2.2.2.2), v47.2.1, v47.2.2) h _ _ hP hD hS _ (lv_sub hl [1, 2, 3] rfl)
        · have h := it_n c4 h
          refine lv_aload_n hx hb dX0_sumUp_135 rfl (lv_at hl 1 rfl) ?_
          refine lv_iload_n hx hb dX0_sumUp_136 rfl (lv_at hl 0 rfl) ?_
          refine va_put (D := D) (ci := 0) (v := .int (iabs ((v47.1.2.2.1 (Int32.toNatClampNeg v47.2.2)) - v47.2.1))) (ty := .int) (C := RX0) (T := TX0) (N := 10) hx hb htB inlX0 tyX0 tyX0_ok nmX0 hown hK hP hD hS 0 rfl rfl 7 (by decide) (htB _ kw267) (fun _ h9 => h9) rfl (by decide +kernel) rfl rfl (Nat.le_of_ble_eq_true rfl) dX0_sumUp_137 (fun H locs hP hD hS => ?_)
          have hP : va_P D vwCl (gE t ea eb (v47.1.1, v47.1.2.1, v47.1.2.2.1, (v47.1.2.2.2.1 + (v47.1.2.2.1 (Int32.toNatClampNeg v47.2.2))), (imin v47.1.2.2.2.2.1 (v47.1.2.2.1 (Int32.toNatClampNeg v47.2.2))), (imax v47.1.2.2.2.2.2.1 (v47.1.2.2.1 (Int32.toNatClampNeg v47.2.2))), (v47.1.2.2.2.2.2.2.1 + (iabs ((v47.1.2.2.1 (Int32.toNatClampNeg v47.2.2)) - v47.2.1))), (iabs ((v47.1.2.2.1 (Int32.toNatClampNeg v47.2.2)) - v47.2.1)), v47.1.2.2.2.2.2.2.2.2.1, v47.1.2.2.2.2.2.2.2.2.2)) H := hP
          have hD : va_D A (gE t ea eb (v47.1.1, v47.1.2.1, v47.1.2.2.1, (v47.1.2.2.2.1 + (v47.1.2.2.1 (Int32.toNatClampNeg v47.2.2))), (imin v47.1.2.2.2.2.1 (v47.1.2.2.1 (Int32.toNatClampNeg v47.2.2))), (imax v47.1.2.2.2.2.2.1 (v47.1.2.2.1 (Int32.toNatClampNeg v47.2.2))), (v47.1.2.2.2.2.2.2.1 + (iabs ((v47.1.2.2.1 (Int32.toNatClampNeg v47.2.2)) - v47.2.1))), (iabs ((v47.1.2.2.1 (Int32.toNatClampNeg v47.2.2)) - v47.2.1)), v47.1.2.2.2.2.2.2.2.2.1, v47.1.2.2.2.2.2.2.2.2.2)) := hD
          refine lv_aload_n hx hb dX0_sumUp_140 rfl (lv_at hl 1 rfl) ?_
          refine lv_iload_n hx hb dX0_sumUp_141 rfl (lv_at hl 3 rfl) ?_
          refine va_put (D := D) (ci := 0) (v := .int v47.2.2) (ty := .int) (C := RX0) (T := TX0) (N := 10) hx hb htB inlX0 tyX0 tyX0_ok nmX0 hown hK hP hD hS 0 rfl rfl 8 (by decide) (htB _ kw268) (fun _ h9 => h9) rfl (by decide +kernel) rfl rfl (Nat.le_of_ble_eq_true rfl) dX0_sumUp_142 (fun H locs hP hD hS => ?_)
          have hP : va_P D vwCl (gE t ea eb (v47.1.1, v47.1.2.1, v47.1.2.2.1, (v47.1.2.2.2.1 + (v47.1.2.2.1 (Int32.toNatClampNeg v47.2.2))), (imin v47.1.2.2.2.2.1 (v47.1.2.2.1 (Int32.toNatClampNeg v47.2.2))), (imax v47.1.2.2.2.2.2.1 (v47.1.2.2.1 (Int32.toNatClampNeg v47.2.2))), (v47.1.2.2.2.2.2.2.1 + (iabs ((v47.1.2.2.1 (Int32.toNatClampNeg v47.2.2)) - v47.2.1))), (iabs ((v47.1.2.2.1 (Int32.toNatClampNeg v47.2.2)) - v47.2.1)), v47.2.2, v47.1.2.2.2.2.2.2.2.2.2)) H := hP
          have hD : va_D A (gE t ea eb (v47.1.1, v47.1.2.1, v47.1.2.2.1, (v47.1.2.2.2.1 + (v47.1.2.2.1 (Int32.toNatClampNeg v47.2.2))), (imin v47.1.2.2.2.2.1 (v47.1.2.2.1 (Int32.toNatClampNeg v47.2.2))), (imax v47.1.2.2.2.2.2.1 (v47.1.2.2.1 (Int32.toNatClampNeg v47.2.2))), (v47.1.2.2.2.2.2.2.1 + (iabs ((v47.1.2.2.1 (Int32.toNatClampNeg v47.2.2)) - v47.2.1))), (iabs ((v47.1.2.2.1 (Int32.toNatClampNeg v47.2.2)) - v47.2.1)), v47.2.2, v47.1.2.2.2.2.2.2.2.2.2)) := hD
          exact J145 ((v47.1.1, v47.1.2.1, v47.1.2.2.1, (v47.1.2.2.2.1 + (v47.1.2.2.1 (Int32.toNatClampNeg v47.2.2))), (imin v47.1.2.2.2.2.1 (v47.1.2.2.1 (Int32.toNatClampNeg v47.2.2))), (imax v47.1.2.2.2.2.2.1 (v47.1.2.2.1 (Int32.toNatClampNeg v47.2.2))), (v47.1.2.2.2.2.2.2.1 + (iabs ((v47.1.2.2.1 (Int32.toNatClampNeg v47.2.2)) - v47.2.1))), (iabs ((v47.1.2.2.1 (Int32.toNatClampNeg v47.2.2)) - v47.2.1)), v47.2.2, v47.1.2.2.2.2.2.2.2.2.2), v47.2.1, v47.2.2) h _ _ hP hD hS _ (lv_sub hl [1, 2, 3] rfl)
  refine lv_aload_n hx hb dX0_sumUp_0 rfl (lv_at hl 0 rfl) ?_
  refine lv_iconst (v := 0) hx hb dX0_sumUp_1 (by decide) ?_
  refine va_put (D := D) (ci := 0) (v := .int 0) (ty := .int) (C := RX0) (T := TX0) (N := 10) hx hb htB inlX0 tyX0 tyX0_ok nmX0 hown hK hP hD hS 0 rfl rfl 3 (by decide) (htB _ kw263) (fun _ h9 => h9) rfl (by decide +kernel) rfl rfl (Nat.le_of_ble_eq_true rfl) dX0_sumUp_2 (fun H locs hP hD hS => ?_)
  have hP : va_P D vwCl (gE t ea eb (ex.1, ex.2.1, ex.2.2.1, 0, ex.2.2.2.2.1, ex.2.2.2.2.2.1, ex.2.2.2.2.2.2.1, ex.2.2.2.2.2.2.2.1, ex.2.2.2.2.2.2.2.2.1, ex.2.2.2.2.2.2.2.2.2)) H := hP
  have hD : va_D A (gE t ea eb (ex.1, ex.2.1, ex.2.2.1, 0, ex.2.2.2.2.1, ex.2.2.2.2.2.1, ex.2.2.2.2.2.2.1, ex.2.2.2.2.2.2.2.1, ex.2.2.2.2.2.2.2.2.1, ex.2.2.2.2.2.2.2.2.2)) := hD
  refine lv_aload_n hx hb dX0_sumUp_5 rfl (lv_at hl 0 rfl) ?_
  refine lv_aload_n hx hb dX0_sumUp_6 rfl (lv_at hl 0 rfl) ?_
  refine va_get (D := D) (ci := 0) (v := .ref (eb 2)) (C := RX0) (T := TX0) (N := 10) hx hb htB inlX0 hown hK hP 0 rfl rfl 2 (by decide) (htB _ kw49) (fun _ h9 => h9) rfl dX0_sumUp_7 ?_
  refine lv_iconst (v := 0) hx hb dX0_sumUp_10 (by decide) ?_
  obtain ⟨r1, h1, h⟩ := ob h
  refine call_i (v := r1) (wc := (gA t (eb 2) 24 ex.2.2.1)) (wc' := (gA t (eb 2) 24 ex.2.2.1)) (ws' := (gE t ea eb (ex.1, ex.2.1, ex.2.2.1, 0, ex.2.2.2.2.1, ex.2.2.2.2.2.1, ex.2.2.2.2.2.2.1, ex.2.2.2.2.2.2.2.1, ex.2.2.2.2.2.2.2.2.1, ex.2.2.2.2.2.2.2.2.2))) (cutI (wc := (gA t (eb 2) 24 ex.2.2.1)) (wc' := (gA t (eb 2) 24 ex.2.2.1)) (ws' := (gE t ea eb (ex.1, ex.2.1, ex.2.2.1, 0, ex.2.2.2.2.1, ex.2.2.2.2.2.1, ex.2.2.2.2.2.2.1, ex.2.2.2.2.2.2.2.1, ex.2.2.2.2.2.2.2.2.1, ex.2.2.2.2.2.2.2.2.2))) [3] hP hD hS hA rfl rfl rfl rfl) hS (fun hPc hDc => va_runSN (As := [.ref (eb 2), .int 0]) (rest := [.ref ea]) ⟨hx, hb, hml, hown, hts⟩ (mtX2_at l D t (eb 2) 24 ex.2.2.1 0 r1 h1 (by decide) _) ⟨va_cnB 2 hts (gB kw106) rfl rfl rfl hE.2.1 (htB _ kw2) (by decide +kernel) ⟨Nat.le_of_ble_eq_true rfl, Nat.le_of_ble_eq_true rfl⟩, (htB _ kw105), trivial⟩ (sPc_S hPc hK hDc hE) rfl rfl hl.1 rfl (lv_room (Nat.le_of_ble_eq_true rfl)) dX0_sumUp_11 ⟨Nat.zero_le _, Nat.zero_le _⟩) (fun H locs hP hD hS => ?_)
  refine va_put (D := D) (ci := 0) (v := .int r1) (ty := .int) (C := RX0) (T := TX0) (N := 10) hx hb htB inlX0 tyX0 tyX0_ok nmX0 hown hK hP hD hS 0 rfl rfl 4 (by decide) (htB _ kw264) (fun _ h9 => h9) rfl (by decide +kernel) rfl rfl (Nat.le_of_ble_eq_true rfl) dX0_sumUp_14 (fun H locs hP hD hS => ?_)
  have hP : va_P D vwCl (gE t ea eb (ex.1, ex.2.1, ex.2.2.1, 0, r1, ex.2.2.2.2.2.1, ex.2.2.2.2.2.2.1, ex.2.2.2.2.2.2.2.1, ex.2.2.2.2.2.2.2.2.1, ex.2.2.2.2.2.2.2.2.2)) H := hP
  have hD : va_D A (gE t ea eb (ex.1, ex.2.1, ex.2.2.1, 0, r1, ex.2.2.2.2.2.1, ex.2.2.2.2.2.2.1, ex.2.2.2.2.2.2.2.1, ex.2.2.2.2.2.2.2.2.1, ex.2.2.2.2.2.2.2.2.2)) := hD
  refine lv_aload_n hx hb dX0_sumUp_17 rfl (lv_at hl 0 rfl) ?_
  refine lv_aload_n hx hb dX0_sumUp_18 rfl (lv_at hl 0 rfl) ?_
  refine va_get (D := D) (ci := 0) (v := .int r1) (C := RX0) (T := TX0) (N := 10) hx hb htB inlX0 hown hK hP 0 rfl rfl 4 (by decide) (htB _ kw264) (fun _ h9 => h9) rfl dX0_sumUp_19 ?_
  refine va_put (D := D) (ci := 0) (v := .int r1) (ty := .int) (C := RX0) (T := TX0) (N := 10) hx hb htB inlX0 tyX0 tyX0_ok nmX0 hown hK hP hD hS 0 rfl rfl 5 (by decide) (htB _ kw265) (fun _ h9 => h9) rfl (by decide +kernel) rfl rfl (Nat.le_of_ble_eq_true rfl) dX0_sumUp_22 (fun H locs hP hD hS => ?_)
  have hP : va_P D vwCl (gE t ea eb (ex.1, ex.2.1, ex.2.2.1, 0, r1, r1, ex.2.2.2.2.2.2.1, ex.2.2.2.2.2.2.2.1, ex.2.2.2.2.2.2.2.2.1, ex.2.2.2.2.2.2.2.2.2)) H := hP
  have hD : va_D A (gE t ea eb (ex.1, ex.2.1, ex.2.2.1, 0, r1, r1, ex.2.2.2.2.2.2.1, ex.2.2.2.2.2.2.2.1, ex.2.2.2.2.2.2.2.2.1, ex.2.2.2.2.2.2.2.2.2)) := hD
  refine lv_aload_n hx hb dX0_sumUp_25 rfl (lv_at hl 0 rfl) ?_
  refine lv_iconst (v := 0) hx hb dX0_sumUp_26 (by decide) ?_
  refine va_put (D := D) (ci := 0) (v := .int 0) (ty := .int) (C := RX0) (T := TX0) (N := 10) hx hb htB inlX0 tyX0 tyX0_ok nmX0 hown hK hP hD hS 0 rfl rfl 6 (by decide) (htB _ kw266) (fun _ h9 => h9) rfl (by decide +kernel) rfl rfl (Nat.le_of_ble_eq_true rfl) dX0_sumUp_27 (fun H locs hP hD hS => ?_)
  have hP : va_P D vwCl (gE t ea eb (ex.1, ex.2.1, ex.2.2.1, 0, r1, r1, 0, ex.2.2.2.2.2.2.2.1, ex.2.2.2.2.2.2.2.2.1, ex.2.2.2.2.2.2.2.2.2)) H := hP
  have hD : va_D A (gE t ea eb (ex.1, ex.2.1, ex.2.2.1, 0, r1, r1, 0, ex.2.2.2.2.2.2.2.1, ex.2.2.2.2.2.2.2.2.1, ex.2.2.2.2.2.2.2.2.2)) := hD
  refine lv_aload_n hx hb dX0_sumUp_30 rfl (lv_at hl 0 rfl) ?_
  refine lv_iconst (v := 0) hx hb dX0_sumUp_31 (by decide) ?_
  refine va_put (D := D) (ci := 0) (v := .int 0) (ty := .int) (C := RX0) (T := TX0) (N := 10) hx hb htB inlX0 tyX0 tyX0_ok nmX0 hown hK hP hD hS 0 rfl rfl 7 (by decide) (htB _ kw267) (fun _ h9 => h9) rfl (by decide +kernel) rfl rfl (Nat.le_of_ble_eq_true rfl) dX0_sumUp_32 (fun H locs hP hD hS => ?_)
  have hP : va_P D vwCl (gE t ea eb (ex.1, ex.2.1, ex.2.2.1, 0, r1, r1, 0, 0, ex.2.2.2.2.2.2.2.2.1, ex.2.2.2.2.2.2.2.2.2)) H := hP
  have hD : va_D A (gE t ea eb (ex.1, ex.2.1, ex.2.2.1, 0, r1, r1, 0, 0, ex.2.2.2.2.2.2.2.2.1, ex.2.2.2.2.2.2.2.2.2)) := hD
  refine lv_aload_n hx hb dX0_sumUp_35 rfl (lv_at hl 0 rfl) ?_
  refine lv_iconst (v := 0) hx hb dX0_sumUp_36 (by decide) ?_
  refine va_put (D := D) (ci := 0) (v := .int 0) (ty := .int) (C := RX0) (T := TX0) (N := 10) hx hb htB inlX0 tyX0 tyX0_ok nmX0 hown hK hP hD hS 0 rfl rfl 8 (by decide) (htB _ kw268) (fun _ h9 => h9) rfl (by decide +kernel) rfl rfl (Nat.le_of_ble_eq_true rfl) dX0_sumUp_37 (fun H locs hP hD hS => ?_)
  have hP : va_P D vwCl (gE t ea eb (ex.1, ex.2.1, ex.2.2.1, 0, r1, r1, 0, 0, 0, ex.2.2.2.2.2.2.2.2.2)) H := hP
  have hD : va_D A (gE t ea eb (ex.1, ex.2.1, ex.2.2.1, 0, r1, r1, 0, 0, 0, ex.2.2.2.2.2.2.2.2.2)) := hD
  refine lv_aload_n hx hb dX0_sumUp_40 rfl (lv_at hl 0 rfl) ?_
  refine lv_iconst (v := 0) hx hb dX0_sumUp_41 (by decide) ?_
  refine va_put (D := D) (ci := 0) (v := .int 0) (ty := .int) (C := RX0) (T := TX0) (N := 10) hx hb htB inlX0 tyX0 tyX0_ok nmX0 hown hK hP hD hS 0 rfl rfl 9 (by decide) (htB _ kw269) (fun _ h9 => h9) rfl (by decide +kernel) rfl rfl (Nat.le_of_ble_eq_true rfl) dX0_sumUp_42 (fun H locs hP hD hS => ?_)
  have hP : va_P D vwCl (gE t ea eb (ex.1, ex.2.1, ex.2.2.1, 0, r1, r1, 0, 0, 0, 0)) H := hP
  have hD : va_D A (gE t ea eb (ex.1, ex.2.1, ex.2.2.1, 0, r1, r1, 0, 0, 0, 0)) := hD
  refine lv_iconst (v := 0) hx hb dX0_sumUp_45 (by decide) ?_
  refine lv_istore_n (lv' := [(2, .int 0), (0, .ref ea), (1, .int w)]) hx hb dX0_sumUp_46 rfl hl (by decide) rfl (fun ls hl => ?_)
  exact J47 2000 ((ex.1, ex.2.1, ex.2.2.1, 0, r1, r1, 0, 0, 0, 0), w, 0) h _ _ hP hD hS _ (lv_sub hl [1, 2, 0] rfl)

theorem dX0_expose_0 : decode cX0_expose 0 = .ok (.aload_n 0, 1) := by decide +kernel
theorem dX0_expose_1 : decode cX0_expose 1 = .ok (.aload_n 1, 1) := by decide +kernel
theorem dX0_expose_2 : decode cX0_expose 2 = .ok (.iload_n 2, 1) := by decide +kernel
theorem dX0_expose_3 : decode cX0_expose 3 = .ok (.invokevirtual 28, 3) := by decide +kernel
theorem dX0_expose_6 : decode cX0_expose 6 = .ok (.aload_n 0, 1) := by decide +kernel
theorem dX0_expose_7 : decode cX0_expose 7 = .ok (.aload_n 1, 1) := by decide +kernel
theorem dX0_expose_8 : decode cX0_expose 8 = .ok (.invokevirtual 32, 3) := by decide +kernel
theorem dX0_expose_11 : decode cX0_expose 11 = .ok (.aload_n 0, 1) := by decide +kernel
theorem dX0_expose_12 : decode cX0_expose 12 = .ok (.iload_n 2, 1) := by decide +kernel
theorem dX0_expose_13 : decode cX0_expose 13 = .ok (.invokestatic 36, 3) := by decide +kernel
theorem dX0_expose_16 : decode cX0_expose 16 = .ok (.invokevirtual 40, 3) := by decide +kernel
theorem dX0_expose_19 : decode cX0_expose 19 = .ok (.return_, 1) := by decide +kernel
abbrev zX0_expose : List Cond := .code yX0_expose cX0_expose 3 none :: BIG
def fX0_expose (ex : ExT) (x : ShT) (v : Int32) : Option (ExT) := (fX0_runCurtains ex x v).bind (fun r1 => (fX0_openColumns r1 x).bind (fun r2 => (fX2_wantedLight v).bind (fun r3 => (fX0_sumUp r2 r3).bind (fun r4 => some r4))))
set_option maxHeartbeats 4000000 in
set_option maxRecDepth 100000 in
theorem mtX0_expose (l : Launch) (D : va_G) (t : Nat → ClassId) (ea : Nat) (eb : Nat → Nat) (ex : ExT) (xa : Nat) (xb : Nat → Nat) (x : ShT) (v : Int32) (out : ExT) (h : fX0_expose ex x v = some out)  (sz : Nat) : Met l yX0_expose zX0_expose ({ frames := 3, cells := 0, slots := 0, locals := 71 }) (sPc D t (gE t ea eb ex ++ (gS t xa xb x)) sz [.ref ea, .ref xa, .int v]) (qV D t (gE t ea eb out ++ (gS t xa xb x)) (va_A (gE t ea eb ex ++ (gS t xa xb x)) sz)) 0 0 (va_A (gE t ea eb ex ++ (gS t xa xb x)) sz) := by
  refine met_of (Qf := fun A => qV D t (gE t ea eb out ++ (gS t xa xb x)) A) (cc := cX0_expose) (maxL := 3) (ret := none) (by decide) rfl (Nat.le_of_ble_eq_true rfl) ?_
  intro p e s m args below meth c A hx hb hr hml hts hown hlocks hA hP hK hD hE hS ls hl
  have htB : ∀ w ∈ BIG, w.before args s = true := fun w h => hts w (List.mem_cons_of_mem _ h)
  have hown : s.vm.findClass RX0 = some m.cls := hown
  have hl : lv_has ls 3 [(0, .ref ea), (1, .ref xa), (2, .int v)] := hl
  unfold fX0_expose at h
  refine lv_aload_n hx hb dX0_expose_0 rfl (lv_at hl 0 rfl) ?_
  refine lv_aload_n hx hb dX0_expose_1 rfl (lv_at hl 1 rfl) ?_
  refine lv_iload_n hx hb dX0_expose_2 rfl (lv_at hl 2 rfl) ?_
  obtain ⟨r1, h1, h⟩ := ob h
  refine call_v (wc := (gE t ea eb ex ++ (gS t xa xb x))) (wc' := (gE t ea eb r1 ++ (gS t xa xb x))) (ws' := (gE t ea eb r1 ++ (gS t xa xb x))) (cutB (bs := [gE t ea eb ex, gS t xa xb x]) (cs := [gE t ea eb ex, gS t xa xb x]) (cs' := [gE t ea eb r1, gS t xa xb x]) (bs' := [gE t ea eb r1, gS t xa xb x]) [0, 1] hP hD hS hA rfl rfl rfl rfl) hS (fun hPc hDc => va_runV (As := [.ref xa, .int v]) (rest := []) ⟨hx, hb, hml, hown, hts⟩ (mtX0_runCurtains l D t ea eb ex xa xb x v r1 h1 _) (cwV 2 hts (gBV kw228 kw229 kw230 kw21 kw231) rfl rfl rfl (by decide +kernel) ⟨Nat.le_of_ble_eq_true rfl, Nat.le_of_ble_eq_true rfl⟩) (sPc_V hPc hK hDc hE (va_recv hK hP (ci := 0) (q0 := 0) rfl rfl)) rfl rfl hl.1 rfl (lv_room (Nat.le_of_ble_eq_true rfl)) dX0_expose_3 ⟨Nat.zero_le _, Nat.zero_le _⟩) (fun H locs hP hD hS => ?_)
  refine lv_aload_n hx hb dX0_expose_6 rfl (lv_at hl 0 rfl) ?_
  refine lv_aload_n hx hb dX0_expose_7 rfl (lv_at hl 1 rfl) ?_
  obtain ⟨r2, h2, h⟩ := ob h
  refine call_v (wc := (gE t ea eb r1 ++ (gS t xa xb x))) (wc' := (gE t ea eb r2 ++ (gS t xa xb x))) (ws' := (gE t ea eb r2 ++ (gS t xa xb x))) (cutB (bs := [gE t ea eb r1, gS t xa xb x]) (cs := [gE t ea eb r1, gS t xa xb x]) (cs' := [gE t ea eb r2, gS t xa xb x]) (bs' := [gE t ea eb r2, gS t xa xb x]) [0, 1] hP hD hS hA rfl rfl rfl rfl) hS (fun hPc hDc => va_runV (As := [.ref xa]) (rest := []) ⟨hx, hb, hml, hown, hts⟩ (mtX0_openColumns l D t ea eb r1 xa xb x r2 h2 _) (cwV 1 hts (gBV kw248 kw249 kw250 kw21 kw251) rfl rfl rfl (by decide +kernel) ⟨Nat.le_of_ble_eq_true rfl, Nat.le_of_ble_eq_true rfl⟩) (sPc_V hPc hK hDc hE (va_recv hK hP (ci := 0) (q0 := 0) rfl rfl)) rfl rfl hl.1 rfl (lv_room (Nat.le_of_ble_eq_true rfl)) dX0_expose_8 ⟨Nat.zero_le _, Nat.zero_le _⟩) (fun H locs hP hD hS => ?_)
  refine lv_aload_n hx hb dX0_expose_11 rfl (lv_at hl 0 rfl) ?_
  refine lv_iload_n hx hb dX0_expose_12 rfl (lv_at hl 2 rfl) ?_
  obtain ⟨r3, h3, h⟩ := ob h
  refine call_i (v := r3) (wc := ([] : va_W)) (wc' := ([] : va_W)) (ws' := (gE t ea eb r2 ++ (gS t xa xb x))) (cutB (bs := [gE t ea eb r2, gS t xa xb x]) (cs := []) (cs' := []) (bs' := [gE t ea eb r2, gS t xa xb x]) [] hP hD hS hA rfl rfl rfl rfl) hS (fun hPc hDc => va_runSN (As := [.int v]) (rest := [.ref ea]) ⟨hx, hb, hml, hown, hts⟩ (mtX2_wantedLight l D t v r3 h3 _) ⟨va_cnB 1 hts (gB kw247) rfl rfl rfl hE.1 (htB _ kw2) (by decide +kernel) ⟨Nat.le_of_ble_eq_true rfl, Nat.le_of_ble_eq_true rfl⟩, (htB _ kw246), trivial⟩ (sPc_S hPc hK hDc hE) rfl rfl hl.1 rfl (lv_room (Nat.le_of_ble_eq_true rfl)) dX0_expose_13 ⟨Nat.zero_le _, Nat.zero_le _⟩) (fun H locs hP hD hS => ?_)
  obtain ⟨r4, h4, h⟩ := ob h
  refine call_v (wc := (gE t ea eb r2)) (wc' := (gE t ea eb r4)) (ws' := (gE t ea eb r4 ++ (gS t xa xb x))) (cutB (bs := [gE t ea eb r2, gS t xa xb x]) (cs := [gE t ea eb r2]) (cs' := [gE t ea eb r4]) (bs' := [gE t ea eb r4, gS t xa xb x]) [0] hP hD hS hA rfl rfl rfl rfl) hS (fun hPc hDc => va_runV (As := [.int r3]) (rest := []) ⟨hx, hb, hml, hown, hts⟩ (mtX0_sumUp l D t ea eb r2 r3 r4 h4 _) (cwV 1 hts (gBV kw259 kw260 kw261 kw21 kw262) rfl rfl rfl (by decide +kernel) ⟨Nat.le_of_ble_eq_true rfl, Nat.le_of_ble_eq_true rfl⟩) (sPc_V hPc hK hDc hE (va_recv hK hP (ci := 0) (q0 := 0) rfl rfl)) rfl rfl hl.1 rfl (lv_room (Nat.le_of_ble_eq_true rfl)) dX0_expose_16 ⟨Nat.zero_le _, Nat.zero_le _⟩) (fun H locs hP hD hS => ?_)
  obtain rfl := os h
  exact ret_v hx hb hr hlocks hP hK hD hS dX0_expose_19
end
section
theorem dX2_fire_0 : decode cX2_fire 0 = .ok (.iconst 0, 1) := by decide +kernel
theorem dX2_fire_1 : decode cX2_fire 1 = .ok (.istore 4, 2) := by decide +kernel
theorem dX2_fire_3 : decode cX2_fire 3 = .ok (.iload 4, 2) := by decide +kernel
theorem dX2_fire_5 : decode cX2_fire 5 = .ok (.iload_n 3, 1) := by decide +kernel
theorem dX2_fire_6 : decode cX2_fire 6 = .ok (.if_icmp .ge 27, 3) := by decide +kernel
theorem dX2_fire_9 : decode cX2_fire 9 = .ok (.aload_n 0, 1) := by decide +kernel
theorem dX2_fire_10 : decode cX2_fire 10 = .ok (.getfield 22, 3) := by decide +kernel
theorem dX2_fire_13 : decode cX2_fire 13 = .ok (.aload_n 1, 1) := by decide +kernel
theorem dX2_fire_14 : decode cX2_fire 14 = .ok (.iload_n 2, 1) := by decide +kernel
theorem dX2_fire_15 : decode cX2_fire 15 = .ok (.invokevirtual 143, 3) := by decide +kernel
theorem dX2_fire_18 : decode cX2_fire 18 = .ok (.aload_n 1, 1) := by decide +kernel
theorem dX2_fire_19 : decode cX2_fire 19 = .ok (.iload_n 2, 1) := by decide +kernel
theorem dX2_fire_20 : decode cX2_fire 20 = .ok (.aload_n 0, 1) := by decide +kernel
theorem dX2_fire_21 : decode cX2_fire 21 = .ok (.getfield 22, 3) := by decide +kernel
theorem dX2_fire_24 : decode cX2_fire 24 = .ok (.invokevirtual 197, 3) := by decide +kernel
theorem dX2_fire_27 : decode cX2_fire 27 = .ok (.iinc 4 1, 3) := by decide +kernel
theorem dX2_fire_30 : decode cX2_fire 30 = .ok (.goto (-27), 3) := by decide +kernel
theorem dX2_fire_33 : decode cX2_fire 33 = .ok (.return_, 1) := by decide +kernel
abbrev zX2_fire : List Cond := .code yX2_fire cX2_fire 5 none :: BIG
def fX2_fire_l3 (bo : BoT)  (K3 : (ExT × ShT × Int32 × Int32 × Int32) → Option (ExT × ShT)) (v3 : ExT × ShT × Int32 × Int32 × Int32) : Option (ExT × ShT) := (if v3.2.2.2.1 ≤ v3.2.2.2.2 then some (v3.1, v3.2.1) else (fX0_expose v3.1 v3.2.1 v3.2.2.1).bind (fun r2 => (fX1_tally v3.2.1 r2 v3.2.2.1).bind (fun r3 => K3 (r2, r3, v3.2.2.1, v3.2.2.2.1, v3.2.2.2.2 + 1))))
def fX2_fire (bo : BoT) (ex : ExT) (x : ShT) (v : Int32) (n : Int32) : Option (ExT × ShT) := lp (fX2_fire_l3 bo) 2000 (ex, x, v, n, 0)
set_option maxHeartbeats 4000000 in
set_option maxRecDepth 100000 in
theorem mtX2_fire (l : Launch) (D : va_G) (t : Nat → ClassId) (bh : Nat) (bk : Nat → Nat) (bo : BoT) (eb : Nat → Nat) (ex : ExT) (xa : Nat) (xb : Nat → Nat) (x : ShT) (v : Int32) (n : Int32) (out : ExT × ShT) (h : fX2_fire bo ex x v n = some out)  (sz : Nat) : Met l yX2_fire zX2_fire ({ frames := 4, cells := 0, slots := 0, locals := 93 }) (sPc D t (gBo bh bk bo ++ (gE t (bk 2) eb ex ++ (gS t xa xb x))) sz [.ref bh, .ref xa, .int v, .int n]) (qV D t (gBo bh bk bo ++ (gE t (bk 2) eb out.1 ++ (gS t xa xb out.2))) (va_A (gBo bh bk bo ++ (gE t (bk 2) eb ex ++ (gS t xa xb x))) sz)) 0 0 (va_A (gBo bh bk bo ++ (gE t (bk 2) eb ex ++ (gS t xa xb x))) sz) := by
  refine met_of (Qf := fun A => qV D t (gBo bh bk bo ++ (gE t (bk 2) eb out.1 ++ (gS t xa xb out.2))) A) (cc := cX2_fire) (maxL := 5) (ret := none) (by decide) rfl (Nat.le_of_ble_eq_true rfl) ?_
  intro p e s m args below meth c A hx hb hr hml hts hown hlocks hA hP hK hD hE hS ls hl
  have htB : ∀ w ∈ BIG, w.before args s = true := fun w h => hts w (List.mem_cons_of_mem _ h)
  have hown : s.vm.findClass RX2 = some m.cls := hown
  have hl : lv_has ls 5 [(0, .ref bh), (1, .ref xa), (2, .int v), (3, .int n)] := hl
  unfold fX2_fire at h
  have J3 : ∀ (fu3 : Nat) (v3 : ExT × ShT × Int32 × Int32 × Int32), lp (fX2_fire_l3 bo) fu3 v3 = some out → ∀ (H : Heap) (locs : List Loc), va_P D vwCl (gBo bh bk bo ++ (gE t (bk 2) eb v3.1 ++ (gS t xa xb v3.2.1))) H → va_D A (gBo bh bk bo ++ (gE t (bk 2) eb v3.1 ++ (gS t xa xb v3.2.1))) → va_S A s.heap H locs → ∀ ls : Array Slot, lv_has ls 5 [(0, .ref bh), (1, .ref xa), (2, .int v3.2.2.1), (3, .int v3.2.2.2.1), (4, .int v3.2.2.2.2)] → W p l e ({ frames := 4, cells := 0, slots := 0, locals := 93 }) s m args below meth c H locs 0 0 (MQ below (qV D t (gBo bh bk bo ++ (gE t (bk 2) eb out.1 ++ (gS t xa xb out.2))) A) args s 0 0 A) (F0 m 3 ls []) := by
    intro fu3
    induction fu3 with
    | zero => intro v3 h; cases h
    | succ fu3 ih3 =>
      intro v3 h H locs hP hD hS ls hl
      have h : fX2_fire_l3 bo (lp (fX2_fire_l3 bo) fu3) v3 = some out := h
      unfold fX2_fire_l3 at h
      refine lv_iload hx hb dX2_fire_3 (lv_at hl 4 rfl) ?_
      refine lv_iload_n hx hb dX2_fire_5 rfl (lv_at hl 3 rfl) ?_
      refine lv_icmp_ge (tgt := 33) hx hb dX2_fire_6 (by decide) (fun c1 => ?_) (fun c1 => ?_)
      · have h := it_p c1 h
        obtain rfl := os h
        exact ret_v hx hb hr hlocks hP hK hD hS dX2_fire_33
      · have h := it_n c1 h
        refine lv_aload_n hx hb dX2_fire_9 rfl (lv_at hl 0 rfl) ?_
        refine va_get (D := D) (ci := 2) (v := .ref (bk 2)) (C := RX2) (T := TX2) (N := 8) hx hb htB inlX2 hown hK hP 0 rfl rfl 2 (by decide) (htB _ kw22) (fun _ h9 => h9) rfl dX2_fire_10 ?_
        refine lv_aload_n hx hb dX2_fire_13 rfl (lv_at hl 1 rfl) ?_
        refine lv_iload_n hx hb dX2_fire_14 rfl (lv_at hl 2 rfl) ?_
        obtain ⟨r2, h2, h⟩ := ob h
        refine call_v (wc := (gE t (bk 2) eb v3.1 ++ (gS t xa xb v3.2.1))) (wc' := (gE t (bk 2) eb r2 ++ (gS t xa xb v3.2.1))) (ws' := (gBo bh bk bo ++ (gE t (bk 2) eb r2 ++ (gS t xa xb v3.2.1)))) (cutB (bs := [gBo bh bk bo, gE t (bk 2) eb v3.1, gS t xa xb v3.2.1]) (cs := [gE t (bk 2) eb v3.1, gS t xa xb v3.2.1]) (cs' := [gE t (bk 2) eb r2, gS t xa xb v3.2.1]) (bs' := [gBo bh bk bo, gE t (bk 2) eb r2, gS t xa xb v3.2.1]) [1, 2] hP hD hS hA rfl rfl rfl rfl) hS (fun hPc hDc => va_runV (As := [.ref xa, .int v3.2.2.1]) (rest := []) ⟨hx, hb, hml, hown, hts⟩ (mtX0_expose l D t (bk 2) eb v3.1 xa xb v3.2.1 v3.2.2.1 r2 h2 _) (cwV 2 hts (gBV kw224 kw225 kw226 kw21 kw227) rfl rfl rfl (by decide +kernel) ⟨Nat.le_of_ble_eq_true rfl, Nat.le_of_ble_eq_true rfl⟩) (sPc_V hPc hK hDc hE (va_recv hK hP (ci := 0) (q0 := 1) rfl rfl)) rfl rfl hl.1 rfl (lv_room (Nat.le_of_ble_eq_true rfl)) dX2_fire_15 ⟨Nat.zero_le _, Nat.zero_le _⟩) (fun H locs hP hD hS => ?_)
        refine lv_aload_n hx hb dX2_fire_18 rfl (lv_at hl 1 rfl) ?_
        refine lv_iload_n hx hb dX2_fire_19 rfl (lv_at hl 2 rfl) ?_
        refine lv_aload_n hx hb dX2_fire_20 rfl (lv_at hl 0 rfl) ?_
        refine va_get (D := D) (ci := 2) (v := .ref (bk 2)) (C := RX2) (T := TX2) (N := 8) hx hb htB inlX2 hown hK hP 0 rfl rfl 2 (by decide) (htB _ kw22) (fun _ h9 => h9) rfl dX2_fire_21 ?_
        obtain ⟨r3, h3, h⟩ := ob h
        refine call_v (wc := (gS t xa xb v3.2.1 ++ (gE t (bk 2) eb r2))) (wc' := (gS t xa xb r3 ++ (gE t (bk 2) eb r2))) (ws' := (gBo bh bk bo ++ (gE t (bk 2) eb r2 ++ (gS t xa xb r3)))) (cutB (bs := [gBo bh bk bo, gE t (bk 2) eb r2, gS t xa xb v3.2.1]) (cs := [gS t xa xb v3.2.1, gE t (bk 2) eb r2]) (cs' := [gS t xa xb r3, gE t (bk 2) eb r2]) (bs' := [gBo bh bk bo, gE t (bk 2) eb r2, gS t xa xb r3]) [2, 1] hP hD hS hA rfl rfl rfl rfl) hS (fun hPc hDc => va_runV (As := [.int v3.2.2.1, .ref (bk 2)]) (rest := []) ⟨hx, hb, hml, hown, hts⟩ (mtX1_tally l D t xa xb v3.2.1 (bk 2) eb r2 v3.2.2.1 r3 h3 _) (cwV 2 hts (gBV kw273 kw274 kw275 kw16 kw276) rfl rfl rfl (by decide +kernel) ⟨Nat.le_of_ble_eq_true rfl, Nat.le_of_ble_eq_true rfl⟩) (sPc_V hPc hK hDc hE (va_recv hK hP (ci := 1) (q0 := 5) rfl rfl)) rfl rfl hl.1 rfl (lv_room (Nat.le_of_ble_eq_true rfl)) dX2_fire_24 ⟨Nat.zero_le _, Nat.zero_le _⟩) (fun H locs hP hD hS => ?_)
        refine lv_iinc (v := v3.2.2.2.2 + 1) (lv' := [(4, .int (v3.2.2.2.2 + 1)), (0, .ref bh), (1, .ref xa), (2, .int v3.2.2.1), (3, .int v3.2.2.2.1)]) hx hb dX2_fire_27 hl (k := 4) rfl rfl (by decide) rfl (fun ls hl => ?_)
        refine lv_goto (tgt := 3) hx hb dX2_fire_30 (by decide) ?_
        exact ih3 (r2, r3, v3.2.2.1, v3.2.2.2.1, v3.2.2.2.2 + 1) h _ _ hP hD hS _ (lv_sub hl [1, 2, 3, 4, 0] rfl)
  refine lv_iconst (v := 0) hx hb dX2_fire_0 (by decide) ?_
  refine lv_istore (lv' := [(4, .int 0), (0, .ref bh), (1, .ref xa), (2, .int v), (3, .int n)]) hx hb dX2_fire_1 hl (by decide) rfl (fun ls hl => ?_)
  exact J3 2000 (ex, x, v, n, 0) h _ _ hP hD hS _ (lv_sub hl [1, 2, 3, 4, 0] rfl)

abbrev zX2_savedAt : List Cond := .code yX2_savedAt cX2_savedAt 2 (some (.object "ShutterBench$Shutter")) :: BIG
def fX2_savedAt (bo : BoT) (i : Int32) : Option Unit := gd (pin i 6) (some ())
theorem sv_pin {bo : BoT} {i : Int32} {u : Unit} (h : fX2_savedAt bo i = some u) : pin i 6 = true := (og h).1
theorem pin_ge {i : Int32} {n : Nat} (hn : n < 2 ^ 31) (h : vp_in i n) : ¬ nI n ≤ i := by
  intro q
  have h1 := vp_in_iff.mp h
  rw [Int32.le_iff_toInt_le, nI_toInt hn] at q
  omega
theorem dX2_savedAt_0 : decode cX2_savedAt 0 = .ok (.iload_n 1, 1) := by decide +kernel
theorem dX2_savedAt_1 : decode cX2_savedAt 1 = .ok (.ifCond .lt 21, 3) := by decide +kernel
theorem dX2_savedAt_4 : decode cX2_savedAt 4 = .ok (.iload_n 1, 1) := by decide +kernel
theorem dX2_savedAt_5 : decode cX2_savedAt 5 = .ok (.aload_n 0, 1) := by decide +kernel
theorem dX2_savedAt_6 : decode cX2_savedAt 6 = .ok (.getfield 26, 3) := by decide +kernel
theorem dX2_savedAt_9 : decode cX2_savedAt 9 = .ok (.arraylength, 1) := by decide +kernel
theorem dX2_savedAt_10 : decode cX2_savedAt 10 = .ok (.if_icmp .ge 12, 3) := by decide +kernel
theorem dX2_savedAt_13 : decode cX2_savedAt 13 = .ok (.aload_n 0, 1) := by decide +kernel
theorem dX2_savedAt_14 : decode cX2_savedAt 14 = .ok (.getfield 26, 3) := by decide +kernel
theorem dX2_savedAt_17 : decode cX2_savedAt 17 = .ok (.iload_n 1, 1) := by decide +kernel
theorem dX2_savedAt_18 : decode cX2_savedAt 18 = .ok (.aaload, 1) := by decide +kernel
theorem dX2_savedAt_19 : decode cX2_savedAt 19 = .ok (.goto 4, 3) := by decide +kernel
theorem dX2_savedAt_22 : decode cX2_savedAt 22 = .ok (.aconst_null, 1) := by decide +kernel
theorem dX2_savedAt_23 : decode cX2_savedAt 23 = .ok (.areturn, 1) := by decide +kernel
set_option maxHeartbeats 4000000 in
set_option maxRecDepth 100000 in
theorem mtX2_savedAt (l : Launch) (D : va_G) (t : Nat → ClassId) (bh : Nat) (bk : Nat → Nat) (bo : BoT) (sa : Nat → Nat) (i : Int32) (out : Unit) (h : fX2_savedAt bo i = some out)  (sz : Nat) : Met l yX2_savedAt zX2_savedAt ({ frames := 0, cells := 0, slots := 0, locals := 0 }) (sPc D t (gBo bh bk bo ++ (gQ t (bk 3) sa)) sz [.ref bh, .int i]) (qR D t (gBo bh bk bo ++ (gQ t (bk 3) sa)) (sa (Int32.toNatClampNeg i)) (va_A (gBo bh bk bo ++ (gQ t (bk 3) sa)) sz)) 0 0 (va_A (gBo bh bk bo ++ (gQ t (bk 3) sa)) sz) := by
  refine met_of (Qf := fun A => qR D t (gBo bh bk bo ++ (gQ t (bk 3) sa)) (sa (Int32.toNatClampNeg i)) A) (cc := cX2_savedAt) (maxL := 2) (ret := (some (.object "ShutterBench$Shutter"))) (by decide) rfl (Nat.le_of_ble_eq_true rfl) ?_
  intro p e s m args below meth c A hx hb hr hml hts hown hlocks hA hP hK hD hE hS ls hl
  have htB : ∀ w ∈ BIG, w.before args s = true := fun w h => hts w (List.mem_cons_of_mem _ h)
  have hown : s.vm.findClass RX2 = some m.cls := hown
  have hl : lv_has ls 2 [(0, .ref bh), (1, .int i)] := hl
  have hin : vp_in i 6 := pin_in (sv_pin h)
  refine lv_iload_n hx hb dX2_savedAt_0 rfl (lv_at hl 1 rfl) ?_
  refine lv_if_lt (tgt := 22) hx hb dX2_savedAt_1 (by decide) (fun c1 => absurd (Or.inl c1) hin) (fun c1 => ?_)
  refine lv_iload_n hx hb dX2_savedAt_4 rfl (lv_at hl 1 rfl) ?_
  refine lv_aload_n hx hb dX2_savedAt_5 rfl (lv_at hl 0 rfl) ?_
  refine va_get (D := D) (ci := 2) (v := .ref (bk 3)) (C := RX2) (T := TX2) (N := 8) hx hb htB inlX2 hown hK hP 0 rfl rfl 3 (by decide) (htB _ kw23) (fun _ h9 => h9) rfl dX2_savedAt_6 ?_
  refine va_alen (v := 6) hx hb hK hP 1 1 rfl rfl rfl dX2_savedAt_9 ?_
  refine lv_icmp_ge (tgt := 22) hx hb dX2_savedAt_10 (by decide) (fun c2 => absurd c2 (pin_ge (by decide) hin)) (fun c2 => ?_)
  refine lv_aload_n hx hb dX2_savedAt_13 rfl (lv_at hl 0 rfl) ?_
  refine va_get (D := D) (ci := 2) (v := .ref (bk 3)) (C := RX2) (T := TX2) (N := 8) hx hb htB inlX2 hown hK hP 0 rfl rfl 3 (by decide) (htB _ kw23) (fun _ h9 => h9) rfl dX2_savedAt_14 ?_
  refine lv_iload_n hx hb dX2_savedAt_17 rfl (lv_at hl 1 rfl) ?_
  refine va_aldq hx hb hK hP 1 1 rfl rfl hin dX2_savedAt_18 ?_
  refine lv_goto (tgt := 23) hx hb dX2_savedAt_19 (by decide) ?_
  exact ret_r (v := sa (Int32.toNatClampNeg i)) rfl hx hb hr (Or.inl ⟨_, rfl⟩) hlocks hP hK hD hS dX2_savedAt_23

theorem dX2_saveState_0 : decode cX2_saveState 0 = .ok (.aload_n 0, 1) := by decide +kernel
theorem dX2_saveState_1 : decode cX2_saveState 1 = .ok (.aload_n 0, 1) := by decide +kernel
theorem dX2_saveState_2 : decode cX2_saveState 2 = .ok (.getfield 34, 3) := by decide +kernel
theorem dX2_saveState_5 : decode cX2_saveState 5 = .ok (.invokevirtual 125, 3) := by decide +kernel
theorem dX2_saveState_8 : decode cX2_saveState 8 = .ok (.astore_n 1, 1) := by decide +kernel
theorem dX2_saveState_9 : decode cX2_saveState 9 = .ok (.aload_n 1, 1) := by decide +kernel
theorem dX2_saveState_10 : decode cX2_saveState 10 = .ok (.ifnull 11, 3) := by decide +kernel
theorem dX2_saveState_13 : decode cX2_saveState 13 = .ok (.aload_n 1, 1) := by decide +kernel
theorem dX2_saveState_14 : decode cX2_saveState 14 = .ok (.aload_n 0, 1) := by decide +kernel
theorem dX2_saveState_15 : decode cX2_saveState 15 = .ok (.getfield 10, 3) := by decide +kernel
theorem dX2_saveState_18 : decode cX2_saveState 18 = .ok (.invokevirtual 129, 3) := by decide +kernel
theorem dX2_saveState_21 : decode cX2_saveState 21 = .ok (.aload_n 0, 1) := by decide +kernel
theorem dX2_saveState_22 : decode cX2_saveState 22 = .ok (.aload_n 0, 1) := by decide +kernel
theorem dX2_saveState_23 : decode cX2_saveState 23 = .ok (.getfield 34, 3) := by decide +kernel
theorem dX2_saveState_26 : decode cX2_saveState 26 = .ok (.iconst 5, 1) := by decide +kernel
theorem dX2_saveState_27 : decode cX2_saveState 27 = .ok (.if_icmp .ge 12, 3) := by decide +kernel
theorem dX2_saveState_30 : decode cX2_saveState 30 = .ok (.aload_n 0, 1) := by decide +kernel
theorem dX2_saveState_31 : decode cX2_saveState 31 = .ok (.getfield 34, 3) := by decide +kernel
theorem dX2_saveState_34 : decode cX2_saveState 34 = .ok (.iconst 1, 1) := by decide +kernel
theorem dX2_saveState_35 : decode cX2_saveState 35 = .ok (.iadd, 1) := by decide +kernel
theorem dX2_saveState_36 : decode cX2_saveState 36 = .ok (.goto 4, 3) := by decide +kernel
theorem dX2_saveState_39 : decode cX2_saveState 39 = .ok (.iconst 0, 1) := by decide +kernel
theorem dX2_saveState_40 : decode cX2_saveState 40 = .ok (.putfield 34, 3) := by decide +kernel
theorem dX2_saveState_43 : decode cX2_saveState 43 = .ok (.aload_n 0, 1) := by decide +kernel
theorem dX2_saveState_44 : decode cX2_saveState 44 = .ok (.aload_n 0, 1) := by decide +kernel
theorem dX2_saveState_45 : decode cX2_saveState 45 = .ok (.getfield 30, 3) := by decide +kernel
theorem dX2_saveState_48 : decode cX2_saveState 48 = .ok (.iconst 1, 1) := by decide +kernel
theorem dX2_saveState_49 : decode cX2_saveState 49 = .ok (.iadd, 1) := by decide +kernel
theorem dX2_saveState_50 : decode cX2_saveState 50 = .ok (.bipush 6, 2) := by decide +kernel
theorem dX2_saveState_52 : decode cX2_saveState 52 = .ok (.invokestatic 268, 3) := by decide +kernel
theorem dX2_saveState_55 : decode cX2_saveState 55 = .ok (.putfield 30, 3) := by decide +kernel
theorem dX2_saveState_58 : decode cX2_saveState 58 = .ok (.return_, 1) := by decide +kernel
abbrev zX2_saveState : List Cond := .code yX2_saveState cX2_saveState 2 none :: BIG
def fX2_saveState_j40 (now : ShT)  (v40 : BoT × (Nat → ShT) × Int32) : Option (BoT × (Nat → ShT)) := some (((imin (v40.1.1 + 1) 6), v40.2.2, v40.1.2.2), v40.2.1)
def fX2_saveState_j21 (now : ShT)  (v21 : BoT × (Nat → ShT)) : Option (BoT × (Nat → ShT)) := (if 5 ≤ v21.1.2.1 then fX2_saveState_j40 now (v21.1, v21.2, 0) else fX2_saveState_j40 now (v21.1, v21.2, v21.1.2.1 + 1))
def fX2_saveState (bo : BoT) (now : ShT) (sv : (Nat → ShT)) : Option (BoT × (Nat → ShT)) := (fX2_savedAt bo bo.2.1).bind (fun r1 => (fX1_become (sv (Int32.toNatClampNeg bo.2.1)) now).bind (fun r2 => fX2_saveState_j21 now (bo, (va_up sv (Int32.toNatClampNeg bo.2.1) r2))))
set_option maxHeartbeats 4000000 in
set_option maxRecDepth 100000 in
theorem mtX2_saveState (l : Launch) (D : va_G) (t : Nat → ClassId) (bh : Nat) (bk : Nat → Nat) (bo : BoT) (nb : Nat → Nat) (now : ShT) (sa : Nat → Nat) (sb : Nat → Nat → Nat) (sv : (Nat → ShT)) (out : BoT × (Nat → ShT)) (h : fX2_saveState bo now sv = some out)  (sz : Nat) : Met l yX2_saveState zX2_saveState ({ frames := 2, cells := 0, slots := 0, locals := 43 }) (sPc D t (gBo bh bk bo ++ (gS t (bk 0) nb now ++ (gQ t (bk 3) sa ++ (g6 t sa sb sv)))) sz [.ref bh]) (qV D t (gBo bh bk out.1 ++ (gS t (bk 0) nb now ++ (gQ t (bk 3) sa ++ (g6 t sa sb out.2)))) (va_A (gBo bh bk bo ++ (gS t (bk 0) nb now ++ (gQ t (bk 3) sa ++ (g6 t sa sb sv)))) sz)) 0 0 (va_A (gBo bh bk bo ++ (gS t (bk 0) nb now ++ (gQ t (bk 3) sa ++ (g6 t sa sb sv)))) sz) := by
  refine met_of (Qf := fun A => qV D t (gBo bh bk out.1 ++ (gS t (bk 0) nb now ++ (gQ t (bk 3) sa ++ (g6 t sa sb out.2)))) A) (cc := cX2_saveState) (maxL := 2) (ret := none) (by decide) rfl (Nat.le_of_ble_eq_true rfl) ?_
  intro p e s m args below meth c A hx hb hr hml hts hown hlocks hA hP hK hD hE hS ls hl
  have htB : ∀ w ∈ BIG, w.before args s = true := fun w h => hts w (List.mem_cons_of_mem _ h)
  have hown : s.vm.findClass RX2 = some m.cls := hown
  have hl : lv_has ls 2 [(0, .ref bh)] := hl
  unfold fX2_saveState at h
  have J40 : ∀ v40 : BoT × (Nat → ShT) × Int32, fX2_saveState_j40 now v40 = some out → ∀ (H : Heap) (locs : List Loc), va_P D vwCl (gBo bh bk v40.1 ++ (gS t (bk 0) nb now ++ (gQ t (bk 3) sa ++ (g6 t sa sb v40.2.1)))) H → va_D A (gBo bh bk v40.1 ++ (gS t (bk 0) nb now ++ (gQ t (bk 3) sa ++ (g6 t sa sb v40.2.1)))) → va_S A s.heap H locs → ∀ ls : Array Slot, lv_has ls 2 [(0, .ref bh)] → W p l e ({ frames := 2, cells := 0, slots := 0, locals := 43 }) s m args below meth c H locs 0 0 (MQ below (qV D t (gBo bh bk out.1 ++ (gS t (bk 0) nb now ++ (gQ t (bk 3) sa ++ (g6 t sa sb out.2)))) A) args s 0 0 A) (F0 m 40 ls [.int v40.2.2, .ref bh]) := by
    intro v40 h H locs hP hD hS ls hl
    unfold fX2_saveState_j40 at h
    refine va_put (D := D) (ci := 2) (v := .int v40.2.2) (ty := .int) (C := RX2) (T := TX2) (N := 8) hx hb htB inlX2 tyX2 tyX2_ok nmX2 hown hK hP hD hS 0 rfl rfl 5 (by decide) (htB _ kw25) (fun _ h9 => h9) rfl (by decide +kernel) rfl rfl (Nat.le_of_ble_eq_true rfl) dX2_saveState_40 (fun H locs hP hD hS => ?_)
    have hP : va_P D vwCl (gBo bh bk (v40.1.1, v40.2.2, v40.1.2.2) ++ (gS t (bk 0) nb now ++ (gQ t (bk 3) sa ++ (g6 t sa sb v40.2.1)))) H := hP
    have hD : va_D A (gBo bh bk (v40.1.1, v40.2.2, v40.1.2.2) ++ (gS t (bk 0) nb now ++ (gQ t (bk 3) sa ++ (g6 t sa sb v40.2.1)))) := hD
    refine lv_aload_n hx hb dX2_saveState_43 rfl (lv_at hl 0 rfl) ?_
    refine lv_aload_n hx hb dX2_saveState_44 rfl (lv_at hl 0 rfl) ?_
    refine va_get (D := D) (ci := 2) (v := .int v40.1.1) (C := RX2) (T := TX2) (N := 8) hx hb htB inlX2 hown hK hP 0 rfl rfl 4 (by decide) (htB _ kw24) (fun _ h9 => h9) rfl dX2_saveState_45 ?_
    refine lv_iconst (v := 1) hx hb dX2_saveState_48 (by decide) ?_
    refine lv_iadd hx hb dX2_saveState_49 ?_
    refine lv_bipush (v := 6) hx hb dX2_saveState_50 (by decide) ?_
    refine va_mmin hx hb (by rw [hml]; exact hl.1.symm) hown (htB _ kw90) (htB _ kw91) (htB _ kw92) (htB _ kw93) (Nat.le_of_ble_eq_true rfl) (Nat.le_of_ble_eq_true rfl) (Nat.zero_le _) (Nat.zero_le _) dX2_saveState_52 ?_
    refine va_put (D := D) (ci := 2) (v := .int (imin (v40.1.1 + 1) 6)) (ty := .int) (C := RX2) (T := TX2) (N := 8) hx hb htB inlX2 tyX2 tyX2_ok nmX2 hown hK hP hD hS 0 rfl rfl 4 (by decide) (htB _ kw24) (fun _ h9 => h9) rfl (by decide +kernel) rfl rfl (Nat.le_of_ble_eq_true rfl) dX2_saveState_55 (fun H locs hP hD hS => ?_)
    have hP : va_P D vwCl (gBo bh bk ((imin (v40.1.1 + 1) 6), v40.2.2, v40.1.2.2) ++ (gS t (bk 0) nb now ++ (gQ t (bk 3) sa ++ (g6 t sa sb v40.2.1)))) H := hP
    have hD : va_D A (gBo bh bk ((imin (v40.1.1 + 1) 6), v40.2.2, v40.1.2.2) ++ (gS t (bk 0) nb now ++ (gQ t (bk 3) sa ++ (g6 t sa sb v40.2.1)))) := hD
    obtain rfl := os h
    exact ret_v hx hb hr hlocks hP hK hD hS dX2_saveState_58
  have J21 : ∀ v21 : BoT × (Nat → ShT), fX2_saveState_j21 now v21 = some out → ∀ (H : Heap) (locs : List Loc), va_P D vwCl (gBo bh bk v21.1 ++ (gS t (bk 0) nb now ++ (gQ t (bk 3) sa ++ (g6 t sa sb v21.2)))) H → va_D A (gBo bh bk v21.1 ++ (gS t (bk 0) nb now ++ (gQ t (bk 3) sa ++ (g6 t sa sb v21.2)))) → va_S A s.heap H locs → ∀ ls : Array Slot, lv_has ls 2 [(0, .ref bh)] → W p l e ({ frames := 2, cells := 0, slots := 0, locals := 43 }) s m args below meth c H locs 0 0 (MQ below (qV D t (gBo bh bk out.1 ++ (gS t (bk 0) nb now ++ (gQ t (bk 3) sa ++ (g6 t sa sb out.2)))) A) args s 0 0 A) (F0 m 21 ls []) := by
    intro v21 h H locs hP hD hS ls hl
    unfold fX2_saveState_j21 at h
    refine lv_aload_n hx hb dX2_saveState_21 rfl (lv_at hl 0 rfl) ?_
    refine lv_aload_n hx hb dX2_saveState_22 rfl (lv_at hl 0 rfl) ?_
    refine va_get (D := D) (ci := 2) (v := .int v21.1.2.1) (C := RX2) (T := TX2) (N := 8) hx hb htB inlX2 hown hK hP 0 rfl rfl 5 (by decide) (htB _ kw25) (fun _ h9 => h9) rfl dX2_saveState_23 ?_
    refine lv_iconst (v := 5) hx hb dX2_saveState_26 (by decide) ?_
    refine lv_icmp_ge (tgt := 39) hx hb dX2_saveState_27 (by decide) (fun c3 => ?_) (fun c3 => ?_)
    · have h := it_p c3 h
      refine lv_iconst (v := 0) hx hb dX2_saveState_39 (by decide) ?_
      exact J40 (v21.1, v21.2, 0) h _ _ hP hD hS _ (lv_sub hl [0] rfl)
    · have h := it_n c3 h
      refine lv_aload_n hx hb dX2_saveState_30 rfl (lv_at hl 0 rfl) ?_
      refine va_get (D := D) (ci := 2) (v := .int v21.1.2.1) (C := RX2) (T := TX2) (N := 8) hx hb htB inlX2 hown hK hP 0 rfl rfl 5 (by decide) (htB _ kw25) (fun _ h9 => h9) rfl dX2_saveState_31 ?_
      refine lv_iconst (v := 1) hx hb dX2_saveState_34 (by decide) ?_
      refine lv_iadd hx hb dX2_saveState_35 ?_
      refine lv_goto (tgt := 40) hx hb dX2_saveState_36 (by decide) ?_
      exact J40 (v21.1, v21.2, v21.1.2.1 + 1) h _ _ hP hD hS _ (lv_sub hl [0] rfl)
  refine lv_aload_n hx hb dX2_saveState_0 rfl (lv_at hl 0 rfl) ?_
  refine lv_aload_n hx hb dX2_saveState_1 rfl (lv_at hl 0 rfl) ?_
  refine va_get (D := D) (ci := 2) (v := .int bo.2.1) (C := RX2) (T := TX2) (N := 8) hx hb htB inlX2 hown hK hP 0 rfl rfl 5 (by decide) (htB _ kw25) (fun _ h9 => h9) rfl dX2_saveState_2 ?_
  obtain ⟨r1, h1, h⟩ := ob h
  refine call_r (v := sa (Int32.toNatClampNeg bo.2.1)) (wc := (gBo bh bk bo ++ (gQ t (bk 3) sa))) (wc' := (gBo bh bk bo ++ (gQ t (bk 3) sa))) (ws' := (gBo bh bk bo ++ (gS t (bk 0) nb now ++ (gQ t (bk 3) sa ++ (g6 t sa sb sv))))) (cutB (bs := [gBo bh bk bo, gS t (bk 0) nb now, gQ t (bk 3) sa, g6 t sa sb sv]) (cs := [gBo bh bk bo, gQ t (bk 3) sa]) (cs' := [gBo bh bk bo, gQ t (bk 3) sa]) (bs' := [gBo bh bk bo, gS t (bk 0) nb now, gQ t (bk 3) sa, g6 t sa sb sv]) [0, 2] hP hD hS hA rfl rfl rfl rfl) hS (fun hPc hDc => va_runV (As := [.int bo.2.1]) (rest := []) ⟨hx, hb, hml, hown, hts⟩ (mtX2_savedAt l D t bh bk bo sa bo.2.1 r1 h1 _) (cwV 1 hts (gBV kw94 kw95 kw96 kw2 kw97) rfl rfl rfl (by decide +kernel) ⟨Nat.le_of_ble_eq_true rfl, Nat.le_of_ble_eq_true rfl⟩) (sPc_V hPc hK hDc hE (va_recv hK hP (ci := 2) (q0 := 0) rfl rfl)) rfl rfl hl.1 rfl (lv_room (Nat.le_of_ble_eq_true rfl)) dX2_saveState_5 ⟨Nat.zero_le _, Nat.zero_le _⟩) (fun H locs hP hD hS => ?_)
  have hj6 := pin6 (sv_pin h1)
  refine lv_astore_n (lv' := [(1, .ref (sa (Int32.toNatClampNeg bo.2.1))), (0, .ref bh)]) hx hb dX2_saveState_8 rfl hl (by decide) rfl (fun ls hl => ?_)
  refine lv_aload_n hx hb dX2_saveState_9 rfl (lv_at hl 0 rfl) ?_
  refine lv_ifnull hx hb dX2_saveState_10 ?_
  refine lv_aload_n hx hb dX2_saveState_13 rfl (lv_at hl 0 rfl) ?_
  refine lv_aload_n hx hb dX2_saveState_14 rfl (lv_at hl 1 rfl) ?_
  refine va_get (D := D) (ci := 2) (v := .ref (bk 0)) (C := RX2) (T := TX2) (N := 8) hx hb htB inlX2 hown hK hP 0 rfl rfl 0 (by decide) (htB _ kw17) (fun _ h9 => h9) rfl dX2_saveState_15 ?_
  obtain ⟨r2, h2, h⟩ := ob h
  refine call_v (wc := (gS t (sa (Int32.toNatClampNeg bo.2.1)) (sb (Int32.toNatClampNeg bo.2.1)) (sv (Int32.toNatClampNeg bo.2.1)) ++ (gS t (bk 0) nb now))) (wc' := (gS t (sa (Int32.toNatClampNeg bo.2.1)) (sb (Int32.toNatClampNeg bo.2.1)) r2 ++ (gS t (bk 0) nb now))) (ws' := (gBo bh bk bo ++ (gS t (bk 0) nb now ++ (gQ t (bk 3) sa ++ (g6 t sa sb (va_up sv (Int32.toNatClampNeg bo.2.1) r2)))))) (cutB (bs := [gBo bh bk bo, gS t (bk 0) nb now, gQ t (bk 3) sa, gS t (sa 0) (sb 0) (sv 0), gS t (sa 1) (sb 1) (sv 1), gS t (sa 2) (sb 2) (sv 2), gS t (sa 3) (sb 3) (sv 3), gS t (sa 4) (sb 4) (sv 4), gS t (sa 5) (sb 5) (sv 5)]) (cs := [gS t (sa (Int32.toNatClampNeg bo.2.1)) (sb (Int32.toNatClampNeg bo.2.1)) (sv (Int32.toNatClampNeg bo.2.1)), gS t (bk 0) nb now]) (cs' := [gS t (sa (Int32.toNatClampNeg bo.2.1)) (sb (Int32.toNatClampNeg bo.2.1)) r2, gS t (bk 0) nb now]) (bs' := [gBo bh bk bo, gS t (bk 0) nb now, gQ t (bk 3) sa, gS t (sa 0) (sb 0) ((va_up sv (Int32.toNatClampNeg bo.2.1) r2) 0), gS t (sa 1) (sb 1) ((va_up sv (Int32.toNatClampNeg bo.2.1) r2) 1), gS t (sa 2) (sb 2) ((va_up sv (Int32.toNatClampNeg bo.2.1) r2) 2), gS t (sa 3) (sb 3) ((va_up sv (Int32.toNatClampNeg bo.2.1) r2) 3), gS t (sa 4) (sb 4) ((va_up sv (Int32.toNatClampNeg bo.2.1) r2) 4), gS t (sa 5) (sb 5) ((va_up sv (Int32.toNatClampNeg bo.2.1) r2) 5)]) [3 + (Int32.toNatClampNeg bo.2.1), 1] hP hD hS hA (by rcases hj6 with e9 | e9 | e9 | e9 | e9 | e9 <;> rw [e9] <;> rfl) (by rcases hj6 with e9 | e9 | e9 | e9 | e9 | e9 <;> rw [e9] <;> rfl) (by rcases hj6 with e9 | e9 | e9 | e9 | e9 | e9 <;> rw [e9] <;> rfl) rfl) hS (fun hPc hDc => va_runV (As := [.ref (bk 0)]) (rest := []) ⟨hx, hb, hml, hown, hts⟩ (mtX1_become l D t (sa (Int32.toNatClampNeg bo.2.1)) (sb (Int32.toNatClampNeg bo.2.1)) (sv (Int32.toNatClampNeg bo.2.1)) (bk 0) nb now r2 h2 _) (cwV 1 hts (gBV kw98 kw99 kw100 kw16 kw101) rfl rfl rfl (by decide +kernel) ⟨Nat.le_of_ble_eq_true rfl, Nat.le_of_ble_eq_true rfl⟩) (sPc_V hPc hK hDc hE (va_recv hK hPc (ci := 1) (q0 := 0) rfl rfl)) rfl rfl hl.1 rfl (lv_room (Nat.le_of_ble_eq_true rfl)) dX2_saveState_18 ⟨Nat.zero_le _, Nat.zero_le _⟩) (fun H locs hP hD hS => ?_)
  exact J21 (bo, (va_up sv (Int32.toNatClampNeg bo.2.1) r2)) h _ _ hP hD hS _ (lv_sub hl [1] rfl)

theorem dX2_needIndex_0 : decode cX2_needIndex 0 = .ok (.iload_n 0, 1) := by decide +kernel
theorem dX2_needIndex_1 : decode cX2_needIndex 1 = .ok (.ifCond .lt 8, 3) := by decide +kernel
theorem dX2_needIndex_4 : decode cX2_needIndex 4 = .ok (.iload_n 0, 1) := by decide +kernel
theorem dX2_needIndex_5 : decode cX2_needIndex 5 = .ok (.iload_n 1, 1) := by decide +kernel
theorem dX2_needIndex_6 : decode cX2_needIndex 6 = .ok (.if_icmp .lt 14, 3) := by decide +kernel
theorem dX2_needIndex_9 : decode cX2_needIndex 9 = .ok (.new 287, 3) := by decide +kernel
theorem dX2_needIndex_20 : decode cX2_needIndex 20 = .ok (.return_, 1) := by decide +kernel
abbrev zX2_needIndex : List Cond := .code yX2_needIndex cX2_needIndex 2 none :: BIG
def fX2_needIndex (i : Int32) (b : Int32) : Option (Nat ⊕ (Unit)) := (if i < 0 then some (.inl 0) else (if i < b then some (.inr ()) else some (.inl 0)))
set_option maxHeartbeats 4000000 in
set_option maxRecDepth 100000 in
theorem mtX2_needIndex (l : Launch) (D : va_G) (t : Nat → ClassId) (i : Int32) (b : Int32) (out : Unit) (h : fX2_needIndex i b = some (.inr out))  (sz : Nat) : Met l yX2_needIndex zX2_needIndex ({ frames := 0, cells := 0, slots := 0, locals := 0 }) (sPc D t ([] : va_W) sz [.int i, .int b]) (qV D t ([] : va_W) (va_A ([] : va_W) sz)) 0 0 (va_A ([] : va_W) sz) := by
  refine met_of (Qf := fun A => qV D t ([] : va_W) A) (cc := cX2_needIndex) (maxL := 2) (ret := none) (by decide) rfl (Nat.le_of_ble_eq_true rfl) ?_
  intro p e s m args below meth c A hx hb hr hml hts hown hlocks hA hP hK hD hE hS ls hl
  have htB : ∀ w ∈ BIG, w.before args s = true := fun w h => hts w (List.mem_cons_of_mem _ h)
  have hown : s.vm.findClass RX2 = some m.cls := hown
  have hl : lv_has ls 2 [(0, .int i), (1, .int b)] := hl
  unfold fX2_needIndex at h
  refine lv_iload_n hx hb dX2_needIndex_0 rfl (lv_at hl 0 rfl) ?_
  refine lv_if_lt (tgt := 9) hx hb dX2_needIndex_1 (by decide) (fun c1 => ?_) (fun c1 => ?_)
  · have h := it_p c1 h
    cases h
  · have h := it_n c1 h
    refine lv_iload_n hx hb dX2_needIndex_4 rfl (lv_at hl 0 rfl) ?_
    refine lv_iload_n hx hb dX2_needIndex_5 rfl (lv_at hl 1 rfl) ?_
    refine lv_icmp_lt (tgt := 20) hx hb dX2_needIndex_6 (by decide) (fun c2 => ?_) (fun c2 => ?_)
    · have h := it_p c2 h
      obtain rfl := oi h
      exact ret_v hx hb hr hlocks hP hK hD hS dX2_needIndex_20
    · have h := it_n c2 h
      cases h

theorem dX2_needCurtain_0 : decode cX2_needCurtain 0 = .ok (.iload_n 0, 1) := by decide +kernel
theorem dX2_needCurtain_1 : decode cX2_needCurtain 1 = .ok (.iconst 2, 1) := by decide +kernel
theorem dX2_needCurtain_2 : decode cX2_needCurtain 2 = .ok (.invokestatic 139, 3) := by decide +kernel
theorem dX2_needCurtain_5 : decode cX2_needCurtain 5 = .ok (.return_, 1) := by decide +kernel
abbrev zX2_needCurtain : List Cond := .code yX2_needCurtain cX2_needCurtain 1 none :: BIG
def fX2_needCurtain (i : Int32) : Option (Nat ⊕ (Unit)) := tb (fX2_needIndex i 2) (fun r1 => some (.inr ()))
set_option maxHeartbeats 4000000 in
set_option maxRecDepth 100000 in
theorem mtX2_needCurtain (l : Launch) (D : va_G) (t : Nat → ClassId) (i : Int32) (out : Unit) (h : fX2_needCurtain i = some (.inr out))  (sz : Nat) : Met l yX2_needCurtain zX2_needCurtain ({ frames := 1, cells := 0, slots := 0, locals := 21 }) (sPc D t ([] : va_W) sz [.int i]) (qV D t ([] : va_W) (va_A ([] : va_W) sz)) 0 0 (va_A ([] : va_W) sz) := by
  refine met_of (Qf := fun A => qV D t ([] : va_W) A) (cc := cX2_needCurtain) (maxL := 1) (ret := none) (by decide) rfl (Nat.le_of_ble_eq_true rfl) ?_
  intro p e s m args below meth c A hx hb hr hml hts hown hlocks hA hP hK hD hE hS ls hl
  have htB : ∀ w ∈ BIG, w.before args s = true := fun w h => hts w (List.mem_cons_of_mem _ h)
  have hown : s.vm.findClass RX2 = some m.cls := hown
  have hl : lv_has ls 1 [(0, .int i)] := hl
  unfold fX2_needCurtain at h
  refine lv_iload_n hx hb dX2_needCurtain_0 rfl (lv_at hl 0 rfl) ?_
  refine lv_iconst (v := 2) hx hb dX2_needCurtain_1 (by decide) ?_
  obtain ⟨r1, h1, h⟩ := tb_r h
  refine call_v (wc := ([] : va_W)) (wc' := ([] : va_W)) (ws' := ([] : va_W)) (cutB (bs := []) (cs := []) (cs' := []) (bs' := []) [] hP hD hS hA rfl rfl rfl rfl) hS (fun hPc hDc => va_runS (As := [.int i, .int 2]) (rest := []) ⟨hx, hb, hml, hown, hts⟩ (mtX2_needIndex l D t i 2 r1 h1 _) (va_cwS 2 hts (gBS kw76 kw77 kw2 kw78) rfl rfl rfl (by decide +kernel) ⟨Nat.le_of_ble_eq_true rfl, Nat.le_of_ble_eq_true rfl⟩) (sPc_S hPc hK hDc hE) rfl rfl hl.1 rfl (lv_room (Nat.le_of_ble_eq_true rfl)) dX2_needCurtain_2 ⟨Nat.zero_le _, Nat.zero_le _⟩) (fun H locs hP hD hS => ?_)
  obtain rfl := oi h
  exact ret_v hx hb hr hlocks hP hK hD hS dX2_needCurtain_5

theorem dX2_needSpeed_0 : decode cX2_needSpeed 0 = .ok (.iload_n 0, 1) := by decide +kernel
theorem dX2_needSpeed_1 : decode cX2_needSpeed 1 = .ok (.bipush 6, 2) := by decide +kernel
theorem dX2_needSpeed_3 : decode cX2_needSpeed 3 = .ok (.invokestatic 139, 3) := by decide +kernel
theorem dX2_needSpeed_6 : decode cX2_needSpeed 6 = .ok (.return_, 1) := by decide +kernel
abbrev zX2_needSpeed : List Cond := .code yX2_needSpeed cX2_needSpeed 1 none :: BIG
def fX2_needSpeed (i : Int32) : Option (Nat ⊕ (Unit)) := tb (fX2_needIndex i 6) (fun r1 => some (.inr ()))
set_option maxHeartbeats 4000000 in
set_option maxRecDepth 100000 in
theorem mtX2_needSpeed (l : Launch) (D : va_G) (t : Nat → ClassId) (i : Int32) (out : Unit) (h : fX2_needSpeed i = some (.inr out))  (sz : Nat) : Met l yX2_needSpeed zX2_needSpeed ({ frames := 1, cells := 0, slots := 0, locals := 21 }) (sPc D t ([] : va_W) sz [.int i]) (qV D t ([] : va_W) (va_A ([] : va_W) sz)) 0 0 (va_A ([] : va_W) sz) := by
  refine met_of (Qf := fun A => qV D t ([] : va_W) A) (cc := cX2_needSpeed) (maxL := 1) (ret := none) (by decide) rfl (Nat.le_of_ble_eq_true rfl) ?_
  intro p e s m args below meth c A hx hb hr hml hts hown hlocks hA hP hK hD hE hS ls hl
  have htB : ∀ w ∈ BIG, w.before args s = true := fun w h => hts w (List.mem_cons_of_mem _ h)
  have hown : s.vm.findClass RX2 = some m.cls := hown
  have hl : lv_has ls 1 [(0, .int i)] := hl
  unfold fX2_needSpeed at h
  refine lv_iload_n hx hb dX2_needSpeed_0 rfl (lv_at hl 0 rfl) ?_
  refine lv_bipush (v := 6) hx hb dX2_needSpeed_1 (by decide) ?_
  obtain ⟨r1, h1, h⟩ := tb_r h
  refine call_v (wc := ([] : va_W)) (wc' := ([] : va_W)) (ws' := ([] : va_W)) (cutB (bs := []) (cs := []) (cs' := []) (bs' := []) [] hP hD hS hA rfl rfl rfl rfl) hS (fun hPc hDc => va_runS (As := [.int i, .int 6]) (rest := []) ⟨hx, hb, hml, hown, hts⟩ (mtX2_needIndex l D t i 6 r1 h1 _) (va_cwS 2 hts (gBS kw76 kw77 kw2 kw78) rfl rfl rfl (by decide +kernel) ⟨Nat.le_of_ble_eq_true rfl, Nat.le_of_ble_eq_true rfl⟩) (sPc_S hPc hK hDc hE) rfl rfl hl.1 rfl (lv_room (Nat.le_of_ble_eq_true rfl)) dX2_needSpeed_3 ⟨Nat.zero_le _, Nat.zero_le _⟩) (fun H locs hP hD hS => ?_)
  obtain rfl := oi h
  exact ret_v hx hb hr hlocks hP hK hD hS dX2_needSpeed_6

theorem dX2_needSetting_0 : decode cX2_needSetting 0 = .ok (.iload_n 0, 1) := by decide +kernel
theorem dX2_needSetting_1 : decode cX2_needSetting 1 = .ok (.iconst 4, 1) := by decide +kernel
theorem dX2_needSetting_2 : decode cX2_needSetting 2 = .ok (.invokestatic 139, 3) := by decide +kernel
theorem dX2_needSetting_5 : decode cX2_needSetting 5 = .ok (.return_, 1) := by decide +kernel
abbrev zX2_needSetting : List Cond := .code yX2_needSetting cX2_needSetting 1 none :: BIG
def fX2_needSetting (i : Int32) : Option (Nat ⊕ (Unit)) := tb (fX2_needIndex i 4) (fun r1 => some (.inr ()))
set_option maxHeartbeats 4000000 in
set_option maxRecDepth 100000 in
theorem mtX2_needSetting (l : Launch) (D : va_G) (t : Nat → ClassId) (i : Int32) (out : Unit) (h : fX2_needSetting i = some (.inr out))  (sz : Nat) : Met l yX2_needSetting zX2_needSetting ({ frames := 1, cells := 0, slots := 0, locals := 21 }) (sPc D t ([] : va_W) sz [.int i]) (qV D t ([] : va_W) (va_A ([] : va_W) sz)) 0 0 (va_A ([] : va_W) sz) := by
  refine met_of (Qf := fun A => qV D t ([] : va_W) A) (cc := cX2_needSetting) (maxL := 1) (ret := none) (by decide) rfl (Nat.le_of_ble_eq_true rfl) ?_
  intro p e s m args below meth c A hx hb hr hml hts hown hlocks hA hP hK hD hE hS ls hl
  have htB : ∀ w ∈ BIG, w.before args s = true := fun w h => hts w (List.mem_cons_of_mem _ h)
  have hown : s.vm.findClass RX2 = some m.cls := hown
  have hl : lv_has ls 1 [(0, .int i)] := hl
  unfold fX2_needSetting at h
  refine lv_iload_n hx hb dX2_needSetting_0 rfl (lv_at hl 0 rfl) ?_
  refine lv_iconst (v := 4) hx hb dX2_needSetting_1 (by decide) ?_
  obtain ⟨r1, h1, h⟩ := tb_r h
  refine call_v (wc := ([] : va_W)) (wc' := ([] : va_W)) (ws' := ([] : va_W)) (cutB (bs := []) (cs := []) (cs' := []) (bs' := []) [] hP hD hS hA rfl rfl rfl rfl) hS (fun hPc hDc => va_runS (As := [.int i, .int 4]) (rest := []) ⟨hx, hb, hml, hown, hts⟩ (mtX2_needIndex l D t i 4 r1 h1 _) (va_cwS 2 hts (gBS kw76 kw77 kw2 kw78) rfl rfl rfl (by decide +kernel) ⟨Nat.le_of_ble_eq_true rfl, Nat.le_of_ble_eq_true rfl⟩) (sPc_S hPc hK hDc hE) rfl rfl hl.1 rfl (lv_room (Nat.le_of_ble_eq_true rfl)) dX2_needSetting_2 ⟨Nat.zero_le _, Nat.zero_le _⟩) (fun H locs hP hD hS => ?_)
  obtain rfl := oi h
  exact ret_v hx hb hr hlocks hP hK hD hS dX2_needSetting_5

theorem dX2_needRange_0 : decode cX2_needRange 0 = .ok (.iload_n 0, 1) := by decide +kernel
theorem dX2_needRange_1 : decode cX2_needRange 1 = .ok (.iload_n 1, 1) := by decide +kernel
theorem dX2_needRange_2 : decode cX2_needRange 2 = .ok (.if_icmp .lt 8, 3) := by decide +kernel
theorem dX2_needRange_5 : decode cX2_needRange 5 = .ok (.iload_n 0, 1) := by decide +kernel
theorem dX2_needRange_6 : decode cX2_needRange 6 = .ok (.iload_n 2, 1) := by decide +kernel
theorem dX2_needRange_7 : decode cX2_needRange 7 = .ok (.if_icmp .le 14, 3) := by decide +kernel
theorem dX2_needRange_10 : decode cX2_needRange 10 = .ok (.new 115, 3) := by decide +kernel
theorem dX2_needRange_21 : decode cX2_needRange 21 = .ok (.return_, 1) := by decide +kernel
abbrev zX2_needRange : List Cond := .code yX2_needRange cX2_needRange 3 none :: BIG
def fX2_needRange (v : Int32) (lo : Int32) (hi : Int32) : Option (Nat ⊕ (Unit)) := (if v < lo then some (.inl 1) else (if v ≤ hi then some (.inr ()) else some (.inl 1)))
set_option maxHeartbeats 4000000 in
set_option maxRecDepth 100000 in
theorem mtX2_needRange (l : Launch) (D : va_G) (t : Nat → ClassId) (v : Int32) (lo : Int32) (hi : Int32) (out : Unit) (h : fX2_needRange v lo hi = some (.inr out))  (sz : Nat) : Met l yX2_needRange zX2_needRange ({ frames := 0, cells := 0, slots := 0, locals := 0 }) (sPc D t ([] : va_W) sz [.int v, .int lo, .int hi]) (qV D t ([] : va_W) (va_A ([] : va_W) sz)) 0 0 (va_A ([] : va_W) sz) := by
  refine met_of (Qf := fun A => qV D t ([] : va_W) A) (cc := cX2_needRange) (maxL := 3) (ret := none) (by decide) rfl (Nat.le_of_ble_eq_true rfl) ?_
  intro p e s m args below meth c A hx hb hr hml hts hown hlocks hA hP hK hD hE hS ls hl
  have htB : ∀ w ∈ BIG, w.before args s = true := fun w h => hts w (List.mem_cons_of_mem _ h)
  have hown : s.vm.findClass RX2 = some m.cls := hown
  have hl : lv_has ls 3 [(0, .int v), (1, .int lo), (2, .int hi)] := hl
  unfold fX2_needRange at h
  refine lv_iload_n hx hb dX2_needRange_0 rfl (lv_at hl 0 rfl) ?_
  refine lv_iload_n hx hb dX2_needRange_1 rfl (lv_at hl 1 rfl) ?_
  refine lv_icmp_lt (tgt := 10) hx hb dX2_needRange_2 (by decide) (fun c1 => ?_) (fun c1 => ?_)
  · have h := it_p c1 h
    cases h
  · have h := it_n c1 h
    refine lv_iload_n hx hb dX2_needRange_5 rfl (lv_at hl 0 rfl) ?_
    refine lv_iload_n hx hb dX2_needRange_6 rfl (lv_at hl 2 rfl) ?_
    refine lv_icmp_le (tgt := 21) hx hb dX2_needRange_7 (by decide) (fun c2 => ?_) (fun c2 => ?_)
    · have h := it_p c2 h
      obtain rfl := oi h
      exact ret_v hx hb hr hlocks hP hK hD hS dX2_needRange_21
    · have h := it_n c2 h
      cases h

theorem dX2_leastValue_0 : decode cX2_leastValue 0 = .ok (.iload_n 0, 1) := by decide +kernel
theorem dX2_leastValue_1 : decode cX2_leastValue 1 = .ok (.ifCond .eq 8, 3) := by decide +kernel
theorem dX2_leastValue_4 : decode cX2_leastValue 4 = .ok (.iload_n 0, 1) := by decide +kernel
theorem dX2_leastValue_5 : decode cX2_leastValue 5 = .ok (.iconst 2, 1) := by decide +kernel
theorem dX2_leastValue_6 : decode cX2_leastValue 6 = .ok (.if_icmp .ne 7, 3) := by decide +kernel
theorem dX2_leastValue_9 : decode cX2_leastValue 9 = .ok (.iconst 0, 1) := by decide +kernel
theorem dX2_leastValue_10 : decode cX2_leastValue 10 = .ok (.goto 4, 3) := by decide +kernel
theorem dX2_leastValue_13 : decode cX2_leastValue 13 = .ok (.iconst 1, 1) := by decide +kernel
theorem dX2_leastValue_14 : decode cX2_leastValue 14 = .ok (.ireturn, 1) := by decide +kernel
abbrev zX2_leastValue : List Cond := .code yX2_leastValue cX2_leastValue 1 (some .int) :: BIG
def fX2_leastValue (v : Int32) : Option (Int32) := (if v = 0 then some 0 else (if v = 2 then some 0 else some 1))
set_option maxHeartbeats 4000000 in
set_option maxRecDepth 100000 in
theorem mtX2_leastValue (l : Launch) (D : va_G) (t : Nat → ClassId) (v : Int32) (out : Int32) (h : fX2_leastValue v = some out)  (sz : Nat) : Met l yX2_leastValue zX2_leastValue ({ frames := 0, cells := 0, slots := 0, locals := 0 }) (sPc D t ([] : va_W) sz [.int v]) (qI D t ([] : va_W) out (va_A ([] : va_W) sz)) 0 0 (va_A ([] : va_W) sz) := by
  refine met_of (Qf := fun A => qI D t ([] : va_W) out A) (cc := cX2_leastValue) (maxL := 1) (ret := some .int) (by decide) rfl (Nat.le_of_ble_eq_true rfl) ?_
  intro p e s m args below meth c A hx hb hr hml hts hown hlocks hA hP hK hD hE hS ls hl
  have htB : ∀ w ∈ BIG, w.before args s = true := fun w h => hts w (List.mem_cons_of_mem _ h)
  have hown : s.vm.findClass RX2 = some m.cls := hown
  have hl : lv_has ls 1 [(0, .int v)] := hl
  unfold fX2_leastValue at h
  refine lv_iload_n hx hb dX2_leastValue_0 rfl (lv_at hl 0 rfl) ?_
  refine lv_if_eq (tgt := 9) hx hb dX2_leastValue_1 (by decide) (fun c1 => ?_) (fun c1 => ?_)
  · have h := it_p c1 h
    refine lv_iconst (v := 0) hx hb dX2_leastValue_9 (by decide) ?_
    refine lv_goto (tgt := 14) hx hb dX2_leastValue_10 (by decide) ?_
    obtain rfl := os h
    exact ret_i hx hb hr hlocks hP hK hD hS dX2_leastValue_14
  · have h := it_n c1 h
    refine lv_iload_n hx hb dX2_leastValue_4 rfl (lv_at hl 0 rfl) ?_
    refine lv_iconst (v := 2) hx hb dX2_leastValue_5 (by decide) ?_
    refine lv_icmp_ne (tgt := 13) hx hb dX2_leastValue_6 (by decide) (fun c2 => ?_) (fun c2 => ?_)
    · have h := it_n c2 h
      refine lv_iconst (v := 1) hx hb dX2_leastValue_13 (by decide) ?_
      obtain rfl := os h
      exact ret_i hx hb hr hlocks hP hK hD hS dX2_leastValue_14
    · have h := it_p c2 h
      refine lv_iconst (v := 0) hx hb dX2_leastValue_9 (by decide) ?_
      refine lv_goto (tgt := 14) hx hb dX2_leastValue_10 (by decide) ?_
      obtain rfl := os h
      exact ret_i hx hb hr hlocks hP hK hD hS dX2_leastValue_14

theorem dX2_mostValue_0 : decode cX2_mostValue 0 = .ok (.iload_n 0, 1) := by decide +kernel
theorem dX2_mostValue_1 : decode cX2_mostValue 1 = .ok (.lookupswitch 34 #[(0, 27), (2, 30)], 27) := by decide +kernel
theorem dX2_mostValue_28 : decode cX2_mostValue 28 = .ok (.bipush 20, 2) := by decide +kernel
theorem dX2_mostValue_30 : decode cX2_mostValue 30 = .ok (.ireturn, 1) := by decide +kernel
theorem dX2_mostValue_31 : decode cX2_mostValue 31 = .ok (.sipush 200, 3) := by decide +kernel
theorem dX2_mostValue_34 : decode cX2_mostValue 34 = .ok (.ireturn, 1) := by decide +kernel
theorem dX2_mostValue_35 : decode cX2_mostValue 35 = .ok (.bipush 99, 2) := by decide +kernel
theorem dX2_mostValue_37 : decode cX2_mostValue 37 = .ok (.ireturn, 1) := by decide +kernel
abbrev zX2_mostValue : List Cond := .code yX2_mostValue cX2_mostValue 1 (some .int) :: BIG
def fX2_mostValue (v : Int32) : Option (Int32) := (if v = 0 then some 20 else (if v = 2 then some 200 else some 99))
set_option maxHeartbeats 4000000 in
set_option maxRecDepth 100000 in
theorem mtX2_mostValue (l : Launch) (D : va_G) (t : Nat → ClassId) (v : Int32) (out : Int32) (h : fX2_mostValue v = some out)  (sz : Nat) : Met l yX2_mostValue zX2_mostValue ({ frames := 0, cells := 0, slots := 0, locals := 0 }) (sPc D t ([] : va_W) sz [.int v]) (qI D t ([] : va_W) out (va_A ([] : va_W) sz)) 0 0 (va_A ([] : va_W) sz) := by
  refine met_of (Qf := fun A => qI D t ([] : va_W) out A) (cc := cX2_mostValue) (maxL := 1) (ret := some .int) (by decide) rfl (Nat.le_of_ble_eq_true rfl) ?_
  intro p e s m args below meth c A hx hb hr hml hts hown hlocks hA hP hK hD hE hS ls hl
  have htB : ∀ w ∈ BIG, w.before args s = true := fun w h => hts w (List.mem_cons_of_mem _ h)
  have hown : s.vm.findClass RX2 = some m.cls := hown
  have hl : lv_has ls 1 [(0, .int v)] := hl
  unfold fX2_mostValue at h
  refine lv_iload_n hx hb dX2_mostValue_0 rfl (lv_at hl 0 rfl) ?_
  by_cases c1 : v = 0
  · have h := it_p c1 h
    refine lv_lookup (off := 27) (tgt := 28) hx hb dX2_mostValue_1 (by decide) (by rw [c1]; decide) (by decide) ?_
    refine lv_bipush (v := 20) hx hb dX2_mostValue_28 (by decide) ?_
    obtain rfl := os h
    exact ret_i hx hb hr hlocks hP hK hD hS dX2_mostValue_30
  · have h := it_n c1 h
    by_cases c2 : v = 2
    · have h := it_p c2 h
      refine lv_lookup (off := 30) (tgt := 31) hx hb dX2_mostValue_1 (by decide) (by rw [c2]; decide) (by decide) ?_
      refine lv_sipush (v := 200) hx hb dX2_mostValue_31 (by decide) ?_
      obtain rfl := os h
      exact ret_i hx hb hr hlocks hP hK hD hS dX2_mostValue_34
    · have h := it_n c2 h
      refine lv_lookup (off := 34) (tgt := 35) hx hb dX2_mostValue_1 (by decide) (lk_out2 (lk_ne (by decide) c1) (lk_ne (by decide) c2)) (by decide) ?_
      refine lv_bipush (v := 99) hx hb dX2_mostValue_35 (by decide) ?_
      obtain rfl := os h
      exact ret_i hx hb hr hlocks hP hK hD hS dX2_mostValue_37

theorem dX2_placeAfterFirst_0 : decode cX2_placeAfterFirst 0 = .ok (.iload_n 0, 1) := by decide +kernel
theorem dX2_placeAfterFirst_1 : decode cX2_placeAfterFirst 1 = .ok (.bipush 119, 2) := by decide +kernel
theorem dX2_placeAfterFirst_3 : decode cX2_placeAfterFirst 3 = .ok (.if_icmp .ne 5, 3) := by decide +kernel
theorem dX2_placeAfterFirst_6 : decode cX2_placeAfterFirst 6 = .ok (.iconst 4, 1) := by decide +kernel
theorem dX2_placeAfterFirst_7 : decode cX2_placeAfterFirst 7 = .ok (.ireturn, 1) := by decide +kernel
theorem dX2_placeAfterFirst_8 : decode cX2_placeAfterFirst 8 = .ok (.iload_n 0, 1) := by decide +kernel
theorem dX2_placeAfterFirst_9 : decode cX2_placeAfterFirst 9 = .ok (.bipush 99, 2) := by decide +kernel
theorem dX2_placeAfterFirst_11 : decode cX2_placeAfterFirst 11 = .ok (.if_icmp .ne 6, 3) := by decide +kernel
theorem dX2_placeAfterFirst_14 : decode cX2_placeAfterFirst 14 = .ok (.bipush 8, 2) := by decide +kernel
theorem dX2_placeAfterFirst_16 : decode cX2_placeAfterFirst 16 = .ok (.ireturn, 1) := by decide +kernel
theorem dX2_placeAfterFirst_17 : decode cX2_placeAfterFirst 17 = .ok (.iload_n 0, 1) := by decide +kernel
theorem dX2_placeAfterFirst_18 : decode cX2_placeAfterFirst 18 = .ok (.bipush 48, 2) := by decide +kernel
theorem dX2_placeAfterFirst_20 : decode cX2_placeAfterFirst 20 = .ok (.if_icmp .lt 13, 3) := by decide +kernel
theorem dX2_placeAfterFirst_23 : decode cX2_placeAfterFirst 23 = .ok (.iload_n 0, 1) := by decide +kernel
theorem dX2_placeAfterFirst_24 : decode cX2_placeAfterFirst 24 = .ok (.bipush 54, 2) := by decide +kernel
theorem dX2_placeAfterFirst_26 : decode cX2_placeAfterFirst 26 = .ok (.if_icmp .ge 7, 3) := by decide +kernel
theorem dX2_placeAfterFirst_29 : decode cX2_placeAfterFirst 29 = .ok (.iconst 1, 1) := by decide +kernel
theorem dX2_placeAfterFirst_30 : decode cX2_placeAfterFirst 30 = .ok (.goto 5, 3) := by decide +kernel
theorem dX2_placeAfterFirst_33 : decode cX2_placeAfterFirst 33 = .ok (.bipush 9, 2) := by decide +kernel
theorem dX2_placeAfterFirst_35 : decode cX2_placeAfterFirst 35 = .ok (.ireturn, 1) := by decide +kernel
abbrev zX2_placeAfterFirst : List Cond := .code yX2_placeAfterFirst cX2_placeAfterFirst 1 (some .int) :: BIG
def fX2_placeAfterFirst (v : Int32) : Option (Int32) := (if v = 119 then some 4 else (if v = 99 then some 8 else (if v < 48 then some 9 else (if 54 ≤ v then some 9 else some 1))))
set_option maxHeartbeats 4000000 in
set_option maxRecDepth 100000 in
theorem mtX2_placeAfterFirst (l : Launch) (D : va_G) (t : Nat → ClassId) (v : Int32) (out : Int32) (h : fX2_placeAfterFirst v = some out)  (sz : Nat) : Met l yX2_placeAfterFirst zX2_placeAfterFirst ({ frames := 0, cells := 0, slots := 0, locals := 0 }) (sPc D t ([] : va_W) sz [.int v]) (qI D t ([] : va_W) out (va_A ([] : va_W) sz)) 0 0 (va_A ([] : va_W) sz) := by
  refine met_of (Qf := fun A => qI D t ([] : va_W) out A) (cc := cX2_placeAfterFirst) (maxL := 1) (ret := some .int) (by decide) rfl (Nat.le_of_ble_eq_true rfl) ?_
  intro p e s m args below meth c A hx hb hr hml hts hown hlocks hA hP hK hD hE hS ls hl
  have htB : ∀ w ∈ BIG, w.before args s = true := fun w h => hts w (List.mem_cons_of_mem _ h)
  have hown : s.vm.findClass RX2 = some m.cls := hown
  have hl : lv_has ls 1 [(0, .int v)] := hl
  unfold fX2_placeAfterFirst at h
  refine lv_iload_n hx hb dX2_placeAfterFirst_0 rfl (lv_at hl 0 rfl) ?_
  refine lv_bipush (v := 119) hx hb dX2_placeAfterFirst_1 (by decide) ?_
  refine lv_icmp_ne (tgt := 8) hx hb dX2_placeAfterFirst_3 (by decide) (fun c1 => ?_) (fun c1 => ?_)
  · have h := it_n c1 h
    refine lv_iload_n hx hb dX2_placeAfterFirst_8 rfl (lv_at hl 0 rfl) ?_
    refine lv_bipush (v := 99) hx hb dX2_placeAfterFirst_9 (by decide) ?_
    refine lv_icmp_ne (tgt := 17) hx hb dX2_placeAfterFirst_11 (by decide) (fun c2 => ?_) (fun c2 => ?_)
    · have h := it_n c2 h
      refine lv_iload_n hx hb dX2_placeAfterFirst_17 rfl (lv_at hl 0 rfl) ?_
      refine lv_bipush (v := 48) hx hb dX2_placeAfterFirst_18 (by decide) ?_
      refine lv_icmp_lt (tgt := 33) hx hb dX2_placeAfterFirst_20 (by decide) (fun c3 => ?_) (fun c3 => ?_)
      · have h := it_p c3 h
        refine lv_bipush (v := 9) hx hb dX2_placeAfterFirst_33 (by decide) ?_
        obtain rfl := os h
        exact ret_i hx hb hr hlocks hP hK hD hS dX2_placeAfterFirst_35
      · have h := it_n c3 h
        refine lv_iload_n hx hb dX2_placeAfterFirst_23 rfl (lv_at hl 0 rfl) ?_
        refine lv_bipush (v := 54) hx hb dX2_placeAfterFirst_24 (by decide) ?_
        refine lv_icmp_ge (tgt := 33) hx hb dX2_placeAfterFirst_26 (by decide) (fun c4 => ?_) (fun c4 => ?_)
        · have h := it_p c4 h
          refine lv_bipush (v := 9) hx hb dX2_placeAfterFirst_33 (by decide) ?_
          obtain rfl := os h
          exact ret_i hx hb hr hlocks hP hK hD hS dX2_placeAfterFirst_35
        · have h := it_n c4 h
          refine lv_iconst (v := 1) hx hb dX2_placeAfterFirst_29 (by decide) ?_
          refine lv_goto (tgt := 35) hx hb dX2_placeAfterFirst_30 (by decide) ?_
          obtain rfl := os h
          exact ret_i hx hb hr hlocks hP hK hD hS dX2_placeAfterFirst_35
    · have h := it_p c2 h
      refine lv_bipush (v := 8) hx hb dX2_placeAfterFirst_14 (by decide) ?_
      obtain rfl := os h
      exact ret_i hx hb hr hlocks hP hK hD hS dX2_placeAfterFirst_16
  · have h := it_p c1 h
    refine lv_iconst (v := 4) hx hb dX2_placeAfterFirst_6 (by decide) ?_
    obtain rfl := os h
    exact ret_i hx hb hr hlocks hP hK hD hS dX2_placeAfterFirst_7

theorem dX2_placeAfterPart_0 : decode cX2_placeAfterPart 0 = .ok (.iload_n 0, 1) := by decide +kernel
theorem dX2_placeAfterPart_1 : decode cX2_placeAfterPart 1 = .ok (.bipush 59, 2) := by decide +kernel
theorem dX2_placeAfterPart_3 : decode cX2_placeAfterPart 3 = .ok (.if_icmp .ne 7, 3) := by decide +kernel
theorem dX2_placeAfterPart_6 : decode cX2_placeAfterPart 6 = .ok (.iconst 0, 1) := by decide +kernel
theorem dX2_placeAfterPart_7 : decode cX2_placeAfterPart 7 = .ok (.goto 5, 3) := by decide +kernel
theorem dX2_placeAfterPart_10 : decode cX2_placeAfterPart 10 = .ok (.bipush 9, 2) := by decide +kernel
theorem dX2_placeAfterPart_12 : decode cX2_placeAfterPart 12 = .ok (.ireturn, 1) := by decide +kernel
abbrev zX2_placeAfterPart : List Cond := .code yX2_placeAfterPart cX2_placeAfterPart 1 (some .int) :: BIG
def fX2_placeAfterPart (v : Int32) : Option (Int32) := (if v = 59 then some 0 else some 9)
set_option maxHeartbeats 4000000 in
set_option maxRecDepth 100000 in
theorem mtX2_placeAfterPart (l : Launch) (D : va_G) (t : Nat → ClassId) (v : Int32) (out : Int32) (h : fX2_placeAfterPart v = some out)  (sz : Nat) : Met l yX2_placeAfterPart zX2_placeAfterPart ({ frames := 0, cells := 0, slots := 0, locals := 0 }) (sPc D t ([] : va_W) sz [.int v]) (qI D t ([] : va_W) out (va_A ([] : va_W) sz)) 0 0 (va_A ([] : va_W) sz) := by
  refine met_of (Qf := fun A => qI D t ([] : va_W) out A) (cc := cX2_placeAfterPart) (maxL := 1) (ret := some .int) (by decide) rfl (Nat.le_of_ble_eq_true rfl) ?_
  intro p e s m args below meth c A hx hb hr hml hts hown hlocks hA hP hK hD hE hS ls hl
  have htB : ∀ w ∈ BIG, w.before args s = true := fun w h => hts w (List.mem_cons_of_mem _ h)
  have hown : s.vm.findClass RX2 = some m.cls := hown
  have hl : lv_has ls 1 [(0, .int v)] := hl
  unfold fX2_placeAfterPart at h
  refine lv_iload_n hx hb dX2_placeAfterPart_0 rfl (lv_at hl 0 rfl) ?_
  refine lv_bipush (v := 59) hx hb dX2_placeAfterPart_1 (by decide) ?_
  refine lv_icmp_ne (tgt := 10) hx hb dX2_placeAfterPart_3 (by decide) (fun c1 => ?_) (fun c1 => ?_)
  · have h := it_n c1 h
    refine lv_bipush (v := 9) hx hb dX2_placeAfterPart_10 (by decide) ?_
    obtain rfl := os h
    exact ret_i hx hb hr hlocks hP hK hD hS dX2_placeAfterPart_12
  · have h := it_p c1 h
    refine lv_iconst (v := 0) hx hb dX2_placeAfterPart_6 (by decide) ?_
    refine lv_goto (tgt := 12) hx hb dX2_placeAfterPart_7 (by decide) ?_
    obtain rfl := os h
    exact ret_i hx hb hr hlocks hP hK hD hS dX2_placeAfterPart_12

theorem dX2_isCurtainDigit_0 : decode cX2_isCurtainDigit 0 = .ok (.iload_n 0, 1) := by decide +kernel
theorem dX2_isCurtainDigit_1 : decode cX2_isCurtainDigit 1 = .ok (.bipush 48, 2) := by decide +kernel
theorem dX2_isCurtainDigit_3 : decode cX2_isCurtainDigit 3 = .ok (.if_icmp .lt 13, 3) := by decide +kernel
theorem dX2_isCurtainDigit_6 : decode cX2_isCurtainDigit 6 = .ok (.iload_n 0, 1) := by decide +kernel
theorem dX2_isCurtainDigit_7 : decode cX2_isCurtainDigit 7 = .ok (.bipush 50, 2) := by decide +kernel
theorem dX2_isCurtainDigit_9 : decode cX2_isCurtainDigit 9 = .ok (.if_icmp .ge 7, 3) := by decide +kernel
theorem dX2_isCurtainDigit_12 : decode cX2_isCurtainDigit 12 = .ok (.iconst 1, 1) := by decide +kernel
theorem dX2_isCurtainDigit_13 : decode cX2_isCurtainDigit 13 = .ok (.goto 4, 3) := by decide +kernel
theorem dX2_isCurtainDigit_16 : decode cX2_isCurtainDigit 16 = .ok (.iconst 0, 1) := by decide +kernel
theorem dX2_isCurtainDigit_17 : decode cX2_isCurtainDigit 17 = .ok (.ireturn, 1) := by decide +kernel
abbrev zX2_isCurtainDigit : List Cond := .code yX2_isCurtainDigit cX2_isCurtainDigit 1 (some .boolean) :: BIG
def fX2_isCurtainDigit (v : Int32) : Option (Bool) := (if v < 48 then some false else (if 50 ≤ v then some false else some true))
set_option maxHeartbeats 4000000 in
set_option maxRecDepth 100000 in
theorem mtX2_isCurtainDigit (l : Launch) (D : va_G) (t : Nat → ClassId) (v : Int32) (out : Bool) (h : fX2_isCurtainDigit v = some out)  (sz : Nat) : Met l yX2_isCurtainDigit zX2_isCurtainDigit ({ frames := 0, cells := 0, slots := 0, locals := 0 }) (sPc D t ([] : va_W) sz [.int v]) (qI D t ([] : va_W) (b2i out) (va_A ([] : va_W) sz)) 0 0 (va_A ([] : va_W) sz) := by
  refine met_of (Qf := fun A => qI D t ([] : va_W) (b2i out) A) (cc := cX2_isCurtainDigit) (maxL := 1) (ret := some .boolean) (by decide) rfl (Nat.le_of_ble_eq_true rfl) ?_
  intro p e s m args below meth c A hx hb hr hml hts hown hlocks hA hP hK hD hE hS ls hl
  have htB : ∀ w ∈ BIG, w.before args s = true := fun w h => hts w (List.mem_cons_of_mem _ h)
  have hown : s.vm.findClass RX2 = some m.cls := hown
  have hl : lv_has ls 1 [(0, .int v)] := hl
  unfold fX2_isCurtainDigit at h
  refine lv_iload_n hx hb dX2_isCurtainDigit_0 rfl (lv_at hl 0 rfl) ?_
  refine lv_bipush (v := 48) hx hb dX2_isCurtainDigit_1 (by decide) ?_
  refine lv_icmp_lt (tgt := 16) hx hb dX2_isCurtainDigit_3 (by decide) (fun c1 => ?_) (fun c1 => ?_)
  · have h := it_p c1 h
    refine lv_iconst (v := 0) hx hb dX2_isCurtainDigit_16 (by decide) ?_
    obtain rfl := os h
    exact ret_z hx hb hr hlocks hP hK hD hS dX2_isCurtainDigit_17
  · have h := it_n c1 h
    refine lv_iload_n hx hb dX2_isCurtainDigit_6 rfl (lv_at hl 0 rfl) ?_
    refine lv_bipush (v := 50) hx hb dX2_isCurtainDigit_7 (by decide) ?_
    refine lv_icmp_ge (tgt := 16) hx hb dX2_isCurtainDigit_9 (by decide) (fun c2 => ?_) (fun c2 => ?_)
    · have h := it_p c2 h
      refine lv_iconst (v := 0) hx hb dX2_isCurtainDigit_16 (by decide) ?_
      obtain rfl := os h
      exact ret_z hx hb hr hlocks hP hK hD hS dX2_isCurtainDigit_17
    · have h := it_n c2 h
      refine lv_iconst (v := 1) hx hb dX2_isCurtainDigit_12 (by decide) ?_
      refine lv_goto (tgt := 17) hx hb dX2_isCurtainDigit_13 (by decide) ?_
      obtain rfl := os h
      exact ret_z hx hb hr hlocks hP hK hD hS dX2_isCurtainDigit_17

theorem dX2_placeAfter_0 : decode cX2_placeAfter 0 = .ok (.iload_n 0, 1) := by decide +kernel
theorem dX2_placeAfter_1 : decode cX2_placeAfter 1 = .ok (.tableswitch 178 0 8 #[51, 56, 71, 90, 95, 109, 123, 143, 164], 51) := by decide +kernel
theorem dX2_placeAfter_52 : decode cX2_placeAfter 52 = .ok (.iload_n 1, 1) := by decide +kernel
theorem dX2_placeAfter_53 : decode cX2_placeAfter 53 = .ok (.invokestatic 271, 3) := by decide +kernel
theorem dX2_placeAfter_56 : decode cX2_placeAfter 56 = .ok (.ireturn, 1) := by decide +kernel
theorem dX2_placeAfter_57 : decode cX2_placeAfter 57 = .ok (.iload_n 1, 1) := by decide +kernel
theorem dX2_placeAfter_58 : decode cX2_placeAfter 58 = .ok (.bipush 42, 2) := by decide +kernel
theorem dX2_placeAfter_60 : decode cX2_placeAfter 60 = .ok (.if_icmp .ne 7, 3) := by decide +kernel
theorem dX2_placeAfter_63 : decode cX2_placeAfter 63 = .ok (.iconst 2, 1) := by decide +kernel
theorem dX2_placeAfter_64 : decode cX2_placeAfter 64 = .ok (.goto 7, 3) := by decide +kernel
theorem dX2_placeAfter_67 : decode cX2_placeAfter 67 = .ok (.iload_n 1, 1) := by decide +kernel
theorem dX2_placeAfter_68 : decode cX2_placeAfter 68 = .ok (.invokestatic 274, 3) := by decide +kernel
theorem dX2_placeAfter_71 : decode cX2_placeAfter 71 = .ok (.ireturn, 1) := by decide +kernel
theorem dX2_placeAfter_72 : decode cX2_placeAfter 72 = .ok (.iload_n 1, 1) := by decide +kernel
theorem dX2_placeAfter_73 : decode cX2_placeAfter 73 = .ok (.bipush 50, 2) := by decide +kernel
theorem dX2_placeAfter_75 : decode cX2_placeAfter 75 = .ok (.if_icmp .lt 13, 3) := by decide +kernel
theorem dX2_placeAfter_78 : decode cX2_placeAfter 78 = .ok (.iload_n 1, 1) := by decide +kernel
theorem dX2_placeAfter_79 : decode cX2_placeAfter 79 = .ok (.bipush 57, 2) := by decide +kernel
theorem dX2_placeAfter_81 : decode cX2_placeAfter 81 = .ok (.if_icmp .gt 7, 3) := by decide +kernel
theorem dX2_placeAfter_84 : decode cX2_placeAfter 84 = .ok (.iconst 3, 1) := by decide +kernel
theorem dX2_placeAfter_85 : decode cX2_placeAfter 85 = .ok (.goto 5, 3) := by decide +kernel
theorem dX2_placeAfter_88 : decode cX2_placeAfter 88 = .ok (.bipush 9, 2) := by decide +kernel
theorem dX2_placeAfter_90 : decode cX2_placeAfter 90 = .ok (.ireturn, 1) := by decide +kernel
theorem dX2_placeAfter_91 : decode cX2_placeAfter 91 = .ok (.iload_n 1, 1) := by decide +kernel
theorem dX2_placeAfter_92 : decode cX2_placeAfter 92 = .ok (.invokestatic 274, 3) := by decide +kernel
theorem dX2_placeAfter_95 : decode cX2_placeAfter 95 = .ok (.ireturn, 1) := by decide +kernel
theorem dX2_placeAfter_96 : decode cX2_placeAfter 96 = .ok (.iload_n 1, 1) := by decide +kernel
theorem dX2_placeAfter_97 : decode cX2_placeAfter 97 = .ok (.invokestatic 277, 3) := by decide +kernel
theorem dX2_placeAfter_100 : decode cX2_placeAfter 100 = .ok (.ifCond .eq 7, 3) := by decide +kernel
theorem dX2_placeAfter_103 : decode cX2_placeAfter 103 = .ok (.iconst 5, 1) := by decide +kernel
theorem dX2_placeAfter_104 : decode cX2_placeAfter 104 = .ok (.goto 5, 3) := by decide +kernel
theorem dX2_placeAfter_107 : decode cX2_placeAfter 107 = .ok (.bipush 9, 2) := by decide +kernel
theorem dX2_placeAfter_109 : decode cX2_placeAfter 109 = .ok (.ireturn, 1) := by decide +kernel
theorem dX2_placeAfter_110 : decode cX2_placeAfter 110 = .ok (.iload_n 1, 1) := by decide +kernel
theorem dX2_placeAfter_111 : decode cX2_placeAfter 111 = .ok (.bipush 58, 2) := by decide +kernel
theorem dX2_placeAfter_113 : decode cX2_placeAfter 113 = .ok (.if_icmp .ne 8, 3) := by decide +kernel
theorem dX2_placeAfter_116 : decode cX2_placeAfter 116 = .ok (.bipush 6, 2) := by decide +kernel
theorem dX2_placeAfter_118 : decode cX2_placeAfter 118 = .ok (.goto 5, 3) := by decide +kernel
theorem dX2_placeAfter_121 : decode cX2_placeAfter 121 = .ok (.bipush 9, 2) := by decide +kernel
theorem dX2_placeAfter_123 : decode cX2_placeAfter 123 = .ok (.ireturn, 1) := by decide +kernel
theorem dX2_placeAfter_124 : decode cX2_placeAfter 124 = .ok (.iload_n 1, 1) := by decide +kernel
theorem dX2_placeAfter_125 : decode cX2_placeAfter 125 = .ok (.bipush 49, 2) := by decide +kernel
theorem dX2_placeAfter_127 : decode cX2_placeAfter 127 = .ok (.if_icmp .lt 14, 3) := by decide +kernel
theorem dX2_placeAfter_130 : decode cX2_placeAfter 130 = .ok (.iload_n 1, 1) := by decide +kernel
theorem dX2_placeAfter_131 : decode cX2_placeAfter 131 = .ok (.bipush 57, 2) := by decide +kernel
theorem dX2_placeAfter_133 : decode cX2_placeAfter 133 = .ok (.if_icmp .gt 8, 3) := by decide +kernel
theorem dX2_placeAfter_136 : decode cX2_placeAfter 136 = .ok (.bipush 7, 2) := by decide +kernel
theorem dX2_placeAfter_138 : decode cX2_placeAfter 138 = .ok (.goto 5, 3) := by decide +kernel
theorem dX2_placeAfter_141 : decode cX2_placeAfter 141 = .ok (.bipush 9, 2) := by decide +kernel
theorem dX2_placeAfter_143 : decode cX2_placeAfter 143 = .ok (.ireturn, 1) := by decide +kernel
theorem dX2_placeAfter_144 : decode cX2_placeAfter 144 = .ok (.iload_n 1, 1) := by decide +kernel
theorem dX2_placeAfter_145 : decode cX2_placeAfter 145 = .ok (.bipush 48, 2) := by decide +kernel
theorem dX2_placeAfter_147 : decode cX2_placeAfter 147 = .ok (.if_icmp .lt 13, 3) := by decide +kernel
theorem dX2_placeAfter_150 : decode cX2_placeAfter 150 = .ok (.iload_n 1, 1) := by decide +kernel
theorem dX2_placeAfter_151 : decode cX2_placeAfter 151 = .ok (.bipush 57, 2) := by decide +kernel
theorem dX2_placeAfter_153 : decode cX2_placeAfter 153 = .ok (.if_icmp .gt 7, 3) := by decide +kernel
theorem dX2_placeAfter_156 : decode cX2_placeAfter 156 = .ok (.iconst 3, 1) := by decide +kernel
theorem dX2_placeAfter_157 : decode cX2_placeAfter 157 = .ok (.goto 7, 3) := by decide +kernel
theorem dX2_placeAfter_160 : decode cX2_placeAfter 160 = .ok (.iload_n 1, 1) := by decide +kernel
theorem dX2_placeAfter_161 : decode cX2_placeAfter 161 = .ok (.invokestatic 274, 3) := by decide +kernel
theorem dX2_placeAfter_164 : decode cX2_placeAfter 164 = .ok (.ireturn, 1) := by decide +kernel
theorem dX2_placeAfter_165 : decode cX2_placeAfter 165 = .ok (.iload_n 1, 1) := by decide +kernel
theorem dX2_placeAfter_166 : decode cX2_placeAfter 166 = .ok (.invokestatic 277, 3) := by decide +kernel
theorem dX2_placeAfter_169 : decode cX2_placeAfter 169 = .ok (.ifCond .eq 7, 3) := by decide +kernel
theorem dX2_placeAfter_172 : decode cX2_placeAfter 172 = .ok (.iconst 3, 1) := by decide +kernel
theorem dX2_placeAfter_173 : decode cX2_placeAfter 173 = .ok (.goto 5, 3) := by decide +kernel
theorem dX2_placeAfter_176 : decode cX2_placeAfter 176 = .ok (.bipush 9, 2) := by decide +kernel
theorem dX2_placeAfter_178 : decode cX2_placeAfter 178 = .ok (.ireturn, 1) := by decide +kernel
theorem dX2_placeAfter_179 : decode cX2_placeAfter 179 = .ok (.bipush 9, 2) := by decide +kernel
theorem dX2_placeAfter_181 : decode cX2_placeAfter 181 = .ok (.ireturn, 1) := by decide +kernel
abbrev zX2_placeAfter : List Cond := .code yX2_placeAfter cX2_placeAfter 2 (some .int) :: BIG
def fX2_placeAfter (p0 : Int32) (v : Int32) : Option (Int32) := (if p0 = 0 then (fX2_placeAfterFirst v).bind (fun r2 => some r2) else (if p0 = 1 then (if v = 42 then some 2 else (fX2_placeAfterPart v).bind (fun r5 => some r5)) else (if p0 = 2 then (if v < 50 then some 9 else (if 57 < v then some 9 else some 3)) else (if p0 = 3 then (fX2_placeAfterPart v).bind (fun r10 => some r10) else (if p0 = 4 then (fX2_isCurtainDigit v).bind (fun r12 => (if (b2i r12) = 0 then some 9 else some 5)) else (if p0 = 5 then (if v = 58 then some 6 else some 9) else (if p0 = 6 then (if v < 49 then some 9 else (if 57 < v then some 9 else some 7)) else (if p0 = 7 then (if v < 48 then (fX2_placeAfterPart v).bind (fun r21 => some r21) else (if 57 < v then (fX2_placeAfterPart v).bind (fun r23 => some r23) else some 3)) else (if p0 = 8 then (fX2_isCurtainDigit v).bind (fun r25 => (if (b2i r25) = 0 then some 9 else some 3)) else some 9)))))))))
set_option maxHeartbeats 4000000 in
set_option maxRecDepth 100000 in
theorem mtX2_placeAfter (l : Launch) (D : va_G) (t : Nat → ClassId) (p0 : Int32) (v : Int32) (out : Int32) (h : fX2_placeAfter p0 v = some out)  (sz : Nat) : Met l yX2_placeAfter zX2_placeAfter ({ frames := 1, cells := 0, slots := 0, locals := 20 }) (sPc D t ([] : va_W) sz [.int p0, .int v]) (qI D t ([] : va_W) out (va_A ([] : va_W) sz)) 0 0 (va_A ([] : va_W) sz) := by
  refine met_of (Qf := fun A => qI D t ([] : va_W) out A) (cc := cX2_placeAfter) (maxL := 2) (ret := some .int) (by decide) rfl (Nat.le_of_ble_eq_true rfl) ?_
  intro p e s m args below meth c A hx hb hr hml hts hown hlocks hA hP hK hD hE hS ls hl
  have htB : ∀ w ∈ BIG, w.before args s = true := fun w h => hts w (List.mem_cons_of_mem _ h)
  have hown : s.vm.findClass RX2 = some m.cls := hown
  have hl : lv_has ls 2 [(0, .int p0), (1, .int v)] := hl
  unfold fX2_placeAfter at h
  refine lv_iload_n hx hb dX2_placeAfter_0 rfl (lv_at hl 0 rfl) ?_
  by_cases c1 : p0 = 0
  · have h := it_p c1 h
    refine lv_tableIn (off := 51) (tgt := 52) hx hb dX2_placeAfter_1 (by rw [c1]; decide) (by rw [c1]; decide) (by rw [c1]; rfl) (by decide) ?_
    refine lv_iload_n hx hb dX2_placeAfter_52 rfl (lv_at hl 1 rfl) ?_
    obtain ⟨r2, h2, h⟩ := ob h
    refine call_i (v := r2) (wc := ([] : va_W)) (wc' := ([] : va_W)) (ws' := ([] : va_W)) (cutB (bs := []) (cs := []) (cs' := []) (bs' := []) [] hP hD hS hA rfl rfl rfl rfl) hS (fun hPc hDc => va_runS (As := [.int v]) (rest := []) ⟨hx, hb, hml, hown, hts⟩ (mtX2_placeAfterFirst l D t v r2 h2 _) (va_cwS 1 hts (gBS kw348 kw349 kw2 kw350) rfl rfl rfl (by decide +kernel) ⟨Nat.le_of_ble_eq_true rfl, Nat.le_of_ble_eq_true rfl⟩) (sPc_S hPc hK hDc hE) rfl rfl hl.1 rfl (lv_room (Nat.le_of_ble_eq_true rfl)) dX2_placeAfter_53 ⟨Nat.zero_le _, Nat.zero_le _⟩) (fun H locs hP hD hS => ?_)
    obtain rfl := os h
    exact ret_i hx hb hr hlocks hP hK hD hS dX2_placeAfter_56
  · have h := it_n c1 h
    by_cases c3 : p0 = 1
    · have h := it_p c3 h
      refine lv_tableIn (off := 56) (tgt := 57) hx hb dX2_placeAfter_1 (by rw [c3]; decide) (by rw [c3]; decide) (by rw [c3]; rfl) (by decide) ?_
      refine lv_iload_n hx hb dX2_placeAfter_57 rfl (lv_at hl 1 rfl) ?_
      refine lv_bipush (v := 42) hx hb dX2_placeAfter_58 (by decide) ?_
      refine lv_icmp_ne (tgt := 67) hx hb dX2_placeAfter_60 (by decide) (fun c4 => ?_) (fun c4 => ?_)
      · have h := it_n c4 h
        refine lv_iload_n hx hb dX2_placeAfter_67 rfl (lv_at hl 1 rfl) ?_
        obtain ⟨r5, h5, h⟩ := ob h
        refine call_i (v := r5) (wc := ([] : va_W)) (wc' := ([] : va_W)) (ws' := ([] : va_W)) (cutB (bs := []) (cs := []) (cs' := []) (bs' := []) [] hP hD hS hA rfl rfl rfl rfl) hS (fun hPc hDc => va_runS (As := [.int v]) (rest := []) ⟨hx, hb, hml, hown, hts⟩ (mtX2_placeAfterPart l D t v r5 h5 _) (va_cwS 1 hts (gBS kw351 kw352 kw2 kw353) rfl rfl rfl (by decide +kernel) ⟨Nat.le_of_ble_eq_true rfl, Nat.le_of_ble_eq_true rfl⟩) (sPc_S hPc hK hDc hE) rfl rfl hl.1 rfl (lv_room (Nat.le_of_ble_eq_true rfl)) dX2_placeAfter_68 ⟨Nat.zero_le _, Nat.zero_le _⟩) (fun H locs hP hD hS => ?_)
        obtain rfl := os h
        exact ret_i hx hb hr hlocks hP hK hD hS dX2_placeAfter_71
      · have h := it_p c4 h
        refine lv_iconst (v := 2) hx hb dX2_placeAfter_63 (by decide) ?_
        refine lv_goto (tgt := 71) hx hb dX2_placeAfter_64 (by decide) ?_
        obtain rfl := os h
        exact ret_i hx hb hr hlocks hP hK hD hS dX2_placeAfter_71
    · have h := it_n c3 h
      by_cases c6 : p0 = 2
      · have h := it_p c6 h
        refine lv_tableIn (off := 71) (tgt := 72) hx hb dX2_placeAfter_1 (by rw [c6]; decide) (by rw [c6]; decide) (by rw [c6]; rfl) (by decide) ?_
        refine lv_iload_n hx hb dX2_placeAfter_72 rfl (lv_at hl 1 rfl) ?_
        refine lv_bipush (v := 50) hx hb dX2_placeAfter_73 (by decide) ?_
        refine lv_icmp_lt (tgt := 88) hx hb dX2_placeAfter_75 (by decide) (fun c7 => ?_) (fun c7 => ?_)
        · have h := it_p c7 h
          refine lv_bipush (v := 9) hx hb dX2_placeAfter_88 (by decide) ?_
          obtain rfl := os h
          exact ret_i hx hb hr hlocks hP hK hD hS dX2_placeAfter_90
        · have h := it_n c7 h
          refine lv_iload_n hx hb dX2_placeAfter_78 rfl (lv_at hl 1 rfl) ?_
          refine lv_bipush (v := 57) hx hb dX2_placeAfter_79 (by decide) ?_
          refine lv_icmp_gt (tgt := 88) hx hb dX2_placeAfter_81 (by decide) (fun c8 => ?_) (fun c8 => ?_)
          · have h := it_p c8 h
            refine lv_bipush (v := 9) hx hb dX2_placeAfter_88 (by decide) ?_
            obtain rfl := os h
            exact ret_i hx hb hr hlocks hP hK hD hS dX2_placeAfter_90
          · have h := it_n c8 h
            refine lv_iconst (v := 3) hx hb dX2_placeAfter_84 (by decide) ?_
            refine lv_goto (tgt := 90) hx hb dX2_placeAfter_85 (by decide) ?_
            obtain rfl := os h
            exact ret_i hx hb hr hlocks hP hK hD hS dX2_placeAfter_90
      · have h := it_n c6 h
        by_cases c9 : p0 = 3
        · have h := it_p c9 h
          refine lv_tableIn (off := 90) (tgt := 91) hx hb dX2_placeAfter_1 (by rw [c9]; decide) (by rw [c9]; decide) (by rw [c9]; rfl) (by decide) ?_
          refine lv_iload_n hx hb dX2_placeAfter_91 rfl (lv_at hl 1 rfl) ?_
          obtain ⟨r10, h10, h⟩ := ob h
          refine call_i (v := r10) (wc := ([] : va_W)) (wc' := ([] : va_W)) (ws' := ([] : va_W)) (cutB (bs := []) (cs := []) (cs' := []) (bs' := []) [] hP hD hS hA rfl rfl rfl rfl) hS (fun hPc hDc => va_runS (As := [.int v]) (rest := []) ⟨hx, hb, hml, hown, hts⟩ (mtX2_placeAfterPart l D t v r10 h10 _) (va_cwS 1 hts (gBS kw351 kw352 kw2 kw353) rfl rfl rfl (by decide +kernel) ⟨Nat.le_of_ble_eq_true rfl, Nat.le_of_ble_eq_true rfl⟩) (sPc_S hPc hK hDc hE) rfl rfl hl.1 rfl (lv_room (Nat.le_of_ble_eq_true rfl)) dX2_placeAfter_92 ⟨Nat.zero_le _, Nat.zero_le _⟩) (fun H locs hP hD hS => ?_)
          obtain rfl := os h
          exact ret_i hx hb hr hlocks hP hK hD hS dX2_placeAfter_95
        · have h := it_n c9 h
          by_cases c11 : p0 = 4
          · have h := it_p c11 h
            refine lv_tableIn (off := 95) (tgt := 96) hx hb dX2_placeAfter_1 (by rw [c11]; decide) (by rw [c11]; decide) (by rw [c11]; rfl) (by decide) ?_
            refine lv_iload_n hx hb dX2_placeAfter_96 rfl (lv_at hl 1 rfl) ?_
            obtain ⟨r12, h12, h⟩ := ob h
            refine call_i (v := b2i r12) (wc := ([] : va_W)) (wc' := ([] : va_W)) (ws' := ([] : va_W)) (cutB (bs := []) (cs := []) (cs' := []) (bs' := []) [] hP hD hS hA rfl rfl rfl rfl) hS (fun hPc hDc => va_runS (As := [.int v]) (rest := []) ⟨hx, hb, hml, hown, hts⟩ (mtX2_isCurtainDigit l D t v r12 h12 _) (va_cwS 1 hts (gBS kw354 kw355 kw2 kw356) rfl rfl rfl (by decide +kernel) ⟨Nat.le_of_ble_eq_true rfl, Nat.le_of_ble_eq_true rfl⟩) (sPc_S hPc hK hDc hE) rfl rfl hl.1 rfl (lv_room (Nat.le_of_ble_eq_true rfl)) dX2_placeAfter_97 ⟨Nat.zero_le _, Nat.zero_le _⟩) (fun H locs hP hD hS => ?_)
            refine lv_if_eq (tgt := 107) hx hb dX2_placeAfter_100 (by decide) (fun c13 => ?_) (fun c13 => ?_)
            · have h := it_p c13 h
              refine lv_bipush (v := 9) hx hb dX2_placeAfter_107 (by decide) ?_
              obtain rfl := os h
              exact ret_i hx hb hr hlocks hP hK hD hS dX2_placeAfter_109
            · have h := it_n c13 h
              refine lv_iconst (v := 5) hx hb dX2_placeAfter_103 (by decide) ?_
              refine lv_goto (tgt := 109) hx hb dX2_placeAfter_104 (by decide) ?_
              obtain rfl := os h
              exact ret_i hx hb hr hlocks hP hK hD hS dX2_placeAfter_109
          · have h := it_n c11 h
            by_cases c14 : p0 = 5
            · have h := it_p c14 h
              refine lv_tableIn (off := 109) (tgt := 110) hx hb dX2_placeAfter_1 (by rw [c14]; decide) (by rw [c14]; decide) (by rw [c14]; rfl) (by decide) ?_
              refine lv_iload_n hx hb dX2_placeAfter_110 rfl (lv_at hl 1 rfl) ?_
              refine lv_bipush (v := 58) hx hb dX2_placeAfter_111 (by decide) ?_
              refine lv_icmp_ne (tgt := 121) hx hb dX2_placeAfter_113 (by decide) (fun c15 => ?_) (fun c15 => ?_)
              · have h := it_n c15 h
                refine lv_bipush (v := 9) hx hb dX2_placeAfter_121 (by decide) ?_
                obtain rfl := os h
                exact ret_i hx hb hr hlocks hP hK hD hS dX2_placeAfter_123
              · have h := it_p c15 h
                refine lv_bipush (v := 6) hx hb dX2_placeAfter_116 (by decide) ?_
                refine lv_goto (tgt := 123) hx hb dX2_placeAfter_118 (by decide) ?_
                obtain rfl := os h
                exact ret_i hx hb hr hlocks hP hK hD hS dX2_placeAfter_123
            · have h := it_n c14 h
              by_cases c16 : p0 = 6
              · have h := it_p c16 h
                refine lv_tableIn (off := 123) (tgt := 124) hx hb dX2_placeAfter_1 (by rw [c16]; decide) (by rw [c16]; decide) (by rw [c16]; rfl) (by decide) ?_
                refine lv_iload_n hx hb dX2_placeAfter_124 rfl (lv_at hl 1 rfl) ?_
                refine lv_bipush (v := 49) hx hb dX2_placeAfter_125 (by decide) ?_
                refine lv_icmp_lt (tgt := 141) hx hb dX2_placeAfter_127 (by decide) (fun c17 => ?_) (fun c17 => ?_)
                · have h := it_p c17 h
                  refine lv_bipush (v := 9) hx hb dX2_placeAfter_141 (by decide) ?_
                  obtain rfl := os h
                  exact ret_i hx hb hr hlocks hP hK hD hS dX2_placeAfter_143
                · have h := it_n c17 h
                  refine lv_iload_n hx hb dX2_placeAfter_130 rfl (lv_at hl 1 rfl) ?_
                  refine lv_bipush (v := 57) hx hb dX2_placeAfter_131 (by decide) ?_
                  refine lv_icmp_gt (tgt := 141) hx hb dX2_placeAfter_133 (by decide) (fun c18 => ?_) (fun c18 => ?_)
                  · have h := it_p c18 h
                    refine lv_bipush (v := 9) hx hb dX2_placeAfter_141 (by decide) ?_
                    obtain rfl := os h
                    exact ret_i hx hb hr hlocks hP hK hD hS dX2_placeAfter_143
                  · have h := it_n c18 h
                    refine lv_bipush (v := 7) hx hb dX2_placeAfter_136 (by decide) ?_
                    refine lv_goto (tgt := 143) hx hb dX2_placeAfter_138 (by decide) ?_
                    obtain rfl := os h
                    exact ret_i hx hb hr hlocks hP hK hD hS dX2_placeAfter_143
              · have h := it_n c16 h
                by_cases c19 : p0 = 7
                · have h := it_p c19 h
                  refine lv_tableIn (off := 143) (tgt := 144) hx hb dX2_placeAfter_1 (by rw [c19]; decide) (by rw [c19]; decide) (by rw [c19]; rfl) (by decide) ?_
                  refine lv_iload_n hx hb dX2_placeAfter_144 rfl (lv_at hl 1 rfl) ?_
                  refine lv_bipush (v := 48) hx hb dX2_placeAfter_145 (by decide) ?_
                  refine lv_icmp_lt (tgt := 160) hx hb dX2_placeAfter_147 (by decide) (fun c20 => ?_) (fun c20 => ?_)
                  · have h := it_p c20 h
                    refine lv_iload_n hx hb dX2_placeAfter_160 rfl (lv_at hl 1 rfl) ?_
                    obtain ⟨r21, h21, h⟩ := ob h
                    refine call_i (v := r21) (wc := ([] : va_W)) (wc' := ([] : va_W)) (ws' := ([] : va_W)) (cutB (bs := []) (cs := []) (cs' := []) (bs' := []) [] hP hD hS hA rfl rfl rfl rfl) hS (fun hPc hDc => va_runS (As := [.int v]) (rest := []) ⟨hx, hb, hml, hown, hts⟩ (mtX2_placeAfterPart l D t v r21 h21 _) (va_cwS 1 hts (gBS kw351 kw352 kw2 kw353) rfl rfl rfl (by decide +kernel) ⟨Nat.le_of_ble_eq_true rfl, Nat.le_of_ble_eq_true rfl⟩) (sPc_S hPc hK hDc hE) rfl rfl hl.1 rfl (lv_room (Nat.le_of_ble_eq_true rfl)) dX2_placeAfter_161 ⟨Nat.zero_le _, Nat.zero_le _⟩) (fun H locs hP hD hS => ?_)
                    obtain rfl := os h
                    exact ret_i hx hb hr hlocks hP hK hD hS dX2_placeAfter_164
                  · have h := it_n c20 h
                    refine lv_iload_n hx hb dX2_placeAfter_150 rfl (lv_at hl 1 rfl) ?_
                    refine lv_bipush (v := 57) hx hb dX2_placeAfter_151 (by decide) ?_
                    refine lv_icmp_gt (tgt := 160) hx hb dX2_placeAfter_153 (by decide) (fun c22 => ?_) (fun c22 => ?_)
                    · have h := it_p c22 h
                      refine lv_iload_n hx hb dX2_placeAfter_160 rfl (lv_at hl 1 rfl) ?_
                      obtain ⟨r23, h23, h⟩ := ob h
                      refine call_i (v := r23) (wc := ([] : va_W)) (wc' := ([] : va_W)) (ws' := ([] : va_W)) (cutB (bs := []) (cs := []) (cs' := []) (bs' := []) [] hP hD hS hA rfl rfl rfl rfl) hS (fun hPc hDc => va_runS (As := [.int v]) (rest := []) ⟨hx, hb, hml, hown, hts⟩ (mtX2_placeAfterPart l D t v r23 h23 _) (va_cwS 1 hts (gBS kw351 kw352 kw2 kw353) rfl rfl rfl (by decide +kernel) ⟨Nat.le_of_ble_eq_true rfl, Nat.le_of_ble_eq_true rfl⟩) (sPc_S hPc hK hDc hE) rfl rfl hl.1 rfl (lv_room (Nat.le_of_ble_eq_true rfl)) dX2_placeAfter_161 ⟨Nat.zero_le _, Nat.zero_le _⟩) (fun H locs hP hD hS => ?_)
                      obtain rfl := os h
                      exact ret_i hx hb hr hlocks hP hK hD hS dX2_placeAfter_164
                    · have h := it_n c22 h
                      refine lv_iconst (v := 3) hx hb dX2_placeAfter_156 (by decide) ?_
                      refine lv_goto (tgt := 164) hx hb dX2_placeAfter_157 (by decide) ?_
                      obtain rfl := os h
                      exact ret_i hx hb hr hlocks hP hK hD hS dX2_placeAfter_164
                · have h := it_n c19 h
                  by_cases c24 : p0 = 8
                  · have h := it_p c24 h
                    refine lv_tableIn (off := 164) (tgt := 165) hx hb dX2_placeAfter_1 (by rw [c24]; decide) (by rw [c24]; decide) (by rw [c24]; rfl) (by decide) ?_
                    refine lv_iload_n hx hb dX2_placeAfter_165 rfl (lv_at hl 1 rfl) ?_
                    obtain ⟨r25, h25, h⟩ := ob h
                    refine call_i (v := b2i r25) (wc := ([] : va_W)) (wc' := ([] : va_W)) (ws' := ([] : va_W)) (cutB (bs := []) (cs := []) (cs' := []) (bs' := []) [] hP hD hS hA rfl rfl rfl rfl) hS (fun hPc hDc => va_runS (As := [.int v]) (rest := []) ⟨hx, hb, hml, hown, hts⟩ (mtX2_isCurtainDigit l D t v r25 h25 _) (va_cwS 1 hts (gBS kw354 kw355 kw2 kw356) rfl rfl rfl (by decide +kernel) ⟨Nat.le_of_ble_eq_true rfl, Nat.le_of_ble_eq_true rfl⟩) (sPc_S hPc hK hDc hE) rfl rfl hl.1 rfl (lv_room (Nat.le_of_ble_eq_true rfl)) dX2_placeAfter_166 ⟨Nat.zero_le _, Nat.zero_le _⟩) (fun H locs hP hD hS => ?_)
                    refine lv_if_eq (tgt := 176) hx hb dX2_placeAfter_169 (by decide) (fun c26 => ?_) (fun c26 => ?_)
                    · have h := it_p c26 h
                      refine lv_bipush (v := 9) hx hb dX2_placeAfter_176 (by decide) ?_
                      obtain rfl := os h
                      exact ret_i hx hb hr hlocks hP hK hD hS dX2_placeAfter_178
                    · have h := it_n c26 h
                      refine lv_iconst (v := 3) hx hb dX2_placeAfter_172 (by decide) ?_
                      refine lv_goto (tgt := 178) hx hb dX2_placeAfter_173 (by decide) ?_
                      obtain rfl := os h
                      exact ret_i hx hb hr hlocks hP hK hD hS dX2_placeAfter_178
                  · have h := it_n c24 h
                    refine lv_tableOut (tgt := 179) hx hb dX2_placeAfter_1 (tab_0_8 c1 c3 c6 c9 c11 c14 c16 c19 c24) (by decide) ?_
                    refine lv_bipush (v := 9) hx hb dX2_placeAfter_179 (by decide) ?_
                    obtain rfl := os h
                    exact ret_i hx hb hr hlocks hP hK hD hS dX2_placeAfter_181

theorem dX2_digitAt_0 : decode cX2_digitAt 0 = .ok (.aload_n 0, 1) := by decide +kernel
theorem dX2_digitAt_1 : decode cX2_digitAt 1 = .ok (.getfield 37, 3) := by decide +kernel
theorem dX2_digitAt_4 : decode cX2_digitAt 4 = .ok (.iload_n 1, 1) := by decide +kernel
theorem dX2_digitAt_5 : decode cX2_digitAt 5 = .ok (.invokestatic 58, 3) := by decide +kernel
theorem dX2_digitAt_8 : decode cX2_digitAt 8 = .ok (.bipush 48, 2) := by decide +kernel
theorem dX2_digitAt_10 : decode cX2_digitAt 10 = .ok (.isub, 1) := by decide +kernel
theorem dX2_digitAt_11 : decode cX2_digitAt 11 = .ok (.ireturn, 1) := by decide +kernel
abbrev zX2_digitAt : List Cond := .code yX2_digitAt cX2_digitAt 2 (some .int) :: BIG
def fX2_digitAt (bo : BoT) (buf : (Nat → Int32)) (i : Int32) : Option (Int32) := (fX2_at 60 buf i).bind (fun r1 => some (r1 - 48))
set_option maxHeartbeats 4000000 in
set_option maxRecDepth 100000 in
theorem mtX2_digitAt (l : Launch) (D : va_G) (t : Nat → ClassId) (bh : Nat) (bk : Nat → Nat) (bo : BoT) (buf : (Nat → Int32)) (i : Int32) (out : Int32) (h : fX2_digitAt bo buf i = some out)  (sz : Nat) : Met l yX2_digitAt zX2_digitAt ({ frames := 1, cells := 0, slots := 0, locals := 21 }) (sPc D t (gBo bh bk bo ++ (gA t (bk 4) 60 buf)) sz [.ref bh, .int i]) (qI D t (gBo bh bk bo ++ (gA t (bk 4) 60 buf)) out (va_A (gBo bh bk bo ++ (gA t (bk 4) 60 buf)) sz)) 0 0 (va_A (gBo bh bk bo ++ (gA t (bk 4) 60 buf)) sz) := by
  refine met_of (Qf := fun A => qI D t (gBo bh bk bo ++ (gA t (bk 4) 60 buf)) out A) (cc := cX2_digitAt) (maxL := 2) (ret := some .int) (by decide) rfl (Nat.le_of_ble_eq_true rfl) ?_
  intro p e s m args below meth c A hx hb hr hml hts hown hlocks hA hP hK hD hE hS ls hl
  have htB : ∀ w ∈ BIG, w.before args s = true := fun w h => hts w (List.mem_cons_of_mem _ h)
  have hown : s.vm.findClass RX2 = some m.cls := hown
  have hl : lv_has ls 2 [(0, .ref bh), (1, .int i)] := hl
  unfold fX2_digitAt at h
  refine lv_aload_n hx hb dX2_digitAt_0 rfl (lv_at hl 0 rfl) ?_
  refine va_get (D := D) (ci := 2) (v := .ref (bk 4)) (C := RX2) (T := TX2) (N := 8) hx hb htB inlX2 hown hK hP 0 rfl rfl 6 (by decide) (htB _ kw27) (fun _ h9 => h9) rfl dX2_digitAt_1 ?_
  refine lv_iload_n hx hb dX2_digitAt_4 rfl (lv_at hl 1 rfl) ?_
  obtain ⟨r1, h1, h⟩ := ob h
  refine call_i (v := r1) (wc := (gA t (bk 4) 60 buf)) (wc' := (gA t (bk 4) 60 buf)) (ws' := (gBo bh bk bo ++ (gA t (bk 4) 60 buf))) (cutB (bs := [gBo bh bk bo, gA t (bk 4) 60 buf]) (cs := [gA t (bk 4) 60 buf]) (cs' := [gA t (bk 4) 60 buf]) (bs' := [gBo bh bk bo, gA t (bk 4) 60 buf]) [1] hP hD hS hA rfl rfl rfl rfl) hS (fun hPc hDc => va_runS (As := [.ref (bk 4), .int i]) (rest := []) ⟨hx, hb, hml, hown, hts⟩ (mtX2_at l D t (bk 4) 60 buf i r1 h1 (by decide) _) (va_cwS 2 hts (gBS kw104 kw105 kw2 kw106) rfl rfl rfl (by decide +kernel) ⟨Nat.le_of_ble_eq_true rfl, Nat.le_of_ble_eq_true rfl⟩) (sPc_S hPc hK hDc hE) rfl rfl hl.1 rfl (lv_room (Nat.le_of_ble_eq_true rfl)) dX2_digitAt_5 ⟨Nat.zero_le _, Nat.zero_le _⟩) (fun H locs hP hD hS => ?_)
  refine lv_bipush (v := 48) hx hb dX2_digitAt_8 (by decide) ?_
  refine lv_isub hx hb dX2_digitAt_10 ?_
  obtain rfl := os h
  exact ret_i hx hb hr hlocks hP hK hD hS dX2_digitAt_11

theorem dX2_springOfText_0 : decode cX2_springOfText 0 = .ok (.aload_n 0, 1) := by decide +kernel
theorem dX2_springOfText_1 : decode cX2_springOfText 1 = .ok (.iload_n 1, 1) := by decide +kernel
theorem dX2_springOfText_2 : decode cX2_springOfText 2 = .ok (.invokevirtual 281, 3) := by decide +kernel
theorem dX2_springOfText_5 : decode cX2_springOfText 5 = .ok (.istore_n 3, 1) := by decide +kernel
theorem dX2_springOfText_6 : decode cX2_springOfText 6 = .ok (.iload_n 2, 1) := by decide +kernel
theorem dX2_springOfText_7 : decode cX2_springOfText 7 = .ok (.iload_n 1, 1) := by decide +kernel
theorem dX2_springOfText_8 : decode cX2_springOfText 8 = .ok (.isub, 1) := by decide +kernel
theorem dX2_springOfText_9 : decode cX2_springOfText 9 = .ok (.iconst 1, 1) := by decide +kernel
theorem dX2_springOfText_10 : decode cX2_springOfText 10 = .ok (.if_icmp .le 18, 3) := by decide +kernel
theorem dX2_springOfText_13 : decode cX2_springOfText 13 = .ok (.bipush 10, 2) := by decide +kernel
theorem dX2_springOfText_15 : decode cX2_springOfText 15 = .ok (.iload_n 3, 1) := by decide +kernel
theorem dX2_springOfText_16 : decode cX2_springOfText 16 = .ok (.imul, 1) := by decide +kernel
theorem dX2_springOfText_17 : decode cX2_springOfText 17 = .ok (.aload_n 0, 1) := by decide +kernel
theorem dX2_springOfText_18 : decode cX2_springOfText 18 = .ok (.iload_n 1, 1) := by decide +kernel
theorem dX2_springOfText_19 : decode cX2_springOfText 19 = .ok (.iconst 1, 1) := by decide +kernel
theorem dX2_springOfText_20 : decode cX2_springOfText 20 = .ok (.iadd, 1) := by decide +kernel
theorem dX2_springOfText_21 : decode cX2_springOfText 21 = .ok (.invokevirtual 281, 3) := by decide +kernel
theorem dX2_springOfText_24 : decode cX2_springOfText 24 = .ok (.iadd, 1) := by decide +kernel
theorem dX2_springOfText_25 : decode cX2_springOfText 25 = .ok (.goto 4, 3) := by decide +kernel
theorem dX2_springOfText_28 : decode cX2_springOfText 28 = .ok (.iload_n 3, 1) := by decide +kernel
theorem dX2_springOfText_29 : decode cX2_springOfText 29 = .ok (.ireturn, 1) := by decide +kernel
abbrev zX2_springOfText : List Cond := .code yX2_springOfText cX2_springOfText 4 (some .int) :: BIG
def fX2_springOfText (bo : BoT) (buf : (Nat → Int32)) (i : Int32) (j : Int32) : Option (Int32) := (fX2_digitAt bo buf i).bind (fun r1 => (if (j - i) ≤ 1 then some r1 else (fX2_digitAt bo buf (i + 1)).bind (fun r3 => some ((10 * r1) + r3))))
set_option maxHeartbeats 4000000 in
set_option maxRecDepth 100000 in
theorem mtX2_springOfText (l : Launch) (D : va_G) (t : Nat → ClassId) (bh : Nat) (bk : Nat → Nat) (bo : BoT) (buf : (Nat → Int32)) (i : Int32) (j : Int32) (out : Int32) (h : fX2_springOfText bo buf i j = some out)  (sz : Nat) : Met l yX2_springOfText zX2_springOfText ({ frames := 2, cells := 0, slots := 0, locals := 42 }) (sPc D t (gBo bh bk bo ++ (gA t (bk 4) 60 buf)) sz [.ref bh, .int i, .int j]) (qI D t (gBo bh bk bo ++ (gA t (bk 4) 60 buf)) out (va_A (gBo bh bk bo ++ (gA t (bk 4) 60 buf)) sz)) 0 0 (va_A (gBo bh bk bo ++ (gA t (bk 4) 60 buf)) sz) := by
  refine met_of (Qf := fun A => qI D t (gBo bh bk bo ++ (gA t (bk 4) 60 buf)) out A) (cc := cX2_springOfText) (maxL := 4) (ret := some .int) (by decide) rfl (Nat.le_of_ble_eq_true rfl) ?_
  intro p e s m args below meth c A hx hb hr hml hts hown hlocks hA hP hK hD hE hS ls hl
  have htB : ∀ w ∈ BIG, w.before args s = true := fun w h => hts w (List.mem_cons_of_mem _ h)
  have hown : s.vm.findClass RX2 = some m.cls := hown
  have hl : lv_has ls 4 [(0, .ref bh), (1, .int i), (2, .int j)] := hl
  unfold fX2_springOfText at h
  refine lv_aload_n hx hb dX2_springOfText_0 rfl (lv_at hl 0 rfl) ?_
  refine lv_iload_n hx hb dX2_springOfText_1 rfl (lv_at hl 1 rfl) ?_
  obtain ⟨r1, h1, h⟩ := ob h
  refine call_i (v := r1) (wc := (gBo bh bk bo ++ (gA t (bk 4) 60 buf))) (wc' := (gBo bh bk bo ++ (gA t (bk 4) 60 buf))) (ws' := (gBo bh bk bo ++ (gA t (bk 4) 60 buf))) (cutB (bs := [gBo bh bk bo, gA t (bk 4) 60 buf]) (cs := [gBo bh bk bo, gA t (bk 4) 60 buf]) (cs' := [gBo bh bk bo, gA t (bk 4) 60 buf]) (bs' := [gBo bh bk bo, gA t (bk 4) 60 buf]) [0, 1] hP hD hS hA rfl rfl rfl rfl) hS (fun hPc hDc => va_runV (As := [.int i]) (rest := []) ⟨hx, hb, hml, hown, hts⟩ (mtX2_digitAt l D t bh bk bo buf i r1 h1 _) (cwV 1 hts (gBV kw403 kw404 kw405 kw2 kw406) rfl rfl rfl (by decide +kernel) ⟨Nat.le_of_ble_eq_true rfl, Nat.le_of_ble_eq_true rfl⟩) (sPc_V hPc hK hDc hE (va_recv hK hP (ci := 2) (q0 := 0) rfl rfl)) rfl rfl hl.1 rfl (lv_room (Nat.le_of_ble_eq_true rfl)) dX2_springOfText_2 ⟨Nat.zero_le _, Nat.zero_le _⟩) (fun H locs hP hD hS => ?_)
  refine lv_istore_n (lv' := [(3, .int r1), (0, .ref bh), (1, .int i), (2, .int j)]) hx hb dX2_springOfText_5 rfl hl (by decide) rfl (fun ls hl => ?_)
  refine lv_iload_n hx hb dX2_springOfText_6 rfl (lv_at hl 3 rfl) ?_
  refine lv_iload_n hx hb dX2_springOfText_7 rfl (lv_at hl 2 rfl) ?_
  refine lv_isub hx hb dX2_springOfText_8 ?_
  refine lv_iconst (v := 1) hx hb dX2_springOfText_9 (by decide) ?_
  refine lv_icmp_le (tgt := 28) hx hb dX2_springOfText_10 (by decide) (fun c2 => ?_) (fun c2 => ?_)
  · have h := it_p c2 h
    refine lv_iload_n hx hb dX2_springOfText_28 rfl (lv_at hl 0 rfl) ?_
    obtain rfl := os h
    exact ret_i hx hb hr hlocks hP hK hD hS dX2_springOfText_29
  · have h := it_n c2 h
    refine lv_bipush (v := 10) hx hb dX2_springOfText_13 (by decide) ?_
    refine lv_iload_n hx hb dX2_springOfText_15 rfl (lv_at hl 0 rfl) ?_
    refine lv_imul hx hb dX2_springOfText_16 ?_
    refine lv_aload_n hx hb dX2_springOfText_17 rfl (lv_at hl 1 rfl) ?_
    refine lv_iload_n hx hb dX2_springOfText_18 rfl (lv_at hl 2 rfl) ?_
    refine lv_iconst (v := 1) hx hb dX2_springOfText_19 (by decide) ?_
    refine lv_iadd hx hb dX2_springOfText_20 ?_
    obtain ⟨r3, h3, h⟩ := ob h
    refine call_i (v := r3) (wc := (gBo bh bk bo ++ (gA t (bk 4) 60 buf))) (wc' := (gBo bh bk bo ++ (gA t (bk 4) 60 buf))) (ws' := (gBo bh bk bo ++ (gA t (bk 4) 60 buf))) (cutB (bs := [gBo bh bk bo, gA t (bk 4) 60 buf]) (cs := [gBo bh bk bo, gA t (bk 4) 60 buf]) (cs' := [gBo bh bk bo, gA t (bk 4) 60 buf]) (bs' := [gBo bh bk bo, gA t (bk 4) 60 buf]) [0, 1] hP hD hS hA rfl rfl rfl rfl) hS (fun hPc hDc => va_runV (As := [.int (i + 1)]) (rest := [.int (10 * r1)]) ⟨hx, hb, hml, hown, hts⟩ (mtX2_digitAt l D t bh bk bo buf (i + 1) r3 h3 _) (cwV 1 hts (gBV kw403 kw404 kw405 kw2 kw406) rfl rfl rfl (by decide +kernel) ⟨Nat.le_of_ble_eq_true rfl, Nat.le_of_ble_eq_true rfl⟩) (sPc_V hPc hK hDc hE (va_recv hK hP (ci := 2) (q0 := 0) rfl rfl)) rfl rfl hl.1 rfl (lv_room (Nat.le_of_ble_eq_true rfl)) dX2_springOfText_21 ⟨Nat.zero_le _, Nat.zero_le _⟩) (fun H locs hP hD hS => ?_)
    refine lv_iadd hx hb dX2_springOfText_24 ?_
    refine lv_goto (tgt := 29) hx hb dX2_springOfText_25 (by decide) ?_
    obtain rfl := os h
    exact ret_i hx hb hr hlocks hP hK hD hS dX2_springOfText_29

theorem dX2_playPart_0 : decode cX2_playPart 0 = .ok (.aload_n 0, 1) := by decide +kernel
theorem dX2_playPart_1 : decode cX2_playPart 1 = .ok (.getfield 37, 3) := by decide +kernel
theorem dX2_playPart_4 : decode cX2_playPart 4 = .ok (.iload_n 1, 1) := by decide +kernel
theorem dX2_playPart_5 : decode cX2_playPart 5 = .ok (.invokestatic 58, 3) := by decide +kernel
theorem dX2_playPart_8 : decode cX2_playPart 8 = .ok (.istore_n 3, 1) := by decide +kernel
theorem dX2_playPart_9 : decode cX2_playPart 9 = .ok (.iload_n 3, 1) := by decide +kernel
theorem dX2_playPart_10 : decode cX2_playPart 10 = .ok (.bipush 119, 2) := by decide +kernel
theorem dX2_playPart_12 : decode cX2_playPart 12 = .ok (.if_icmp .ne 30, 3) := by decide +kernel
theorem dX2_playPart_15 : decode cX2_playPart 15 = .ok (.aload_n 0, 1) := by decide +kernel
theorem dX2_playPart_16 : decode cX2_playPart 16 = .ok (.getfield 10, 3) := by decide +kernel
theorem dX2_playPart_19 : decode cX2_playPart 19 = .ok (.getfield 55, 3) := by decide +kernel
theorem dX2_playPart_22 : decode cX2_playPart 22 = .ok (.aload_n 0, 1) := by decide +kernel
theorem dX2_playPart_23 : decode cX2_playPart 23 = .ok (.iload_n 1, 1) := by decide +kernel
theorem dX2_playPart_24 : decode cX2_playPart 24 = .ok (.iconst 1, 1) := by decide +kernel
theorem dX2_playPart_25 : decode cX2_playPart 25 = .ok (.iadd, 1) := by decide +kernel
theorem dX2_playPart_26 : decode cX2_playPart 26 = .ok (.invokevirtual 281, 3) := by decide +kernel
theorem dX2_playPart_29 : decode cX2_playPart 29 = .ok (.aload_n 0, 1) := by decide +kernel
theorem dX2_playPart_30 : decode cX2_playPart 30 = .ok (.iload_n 1, 1) := by decide +kernel
theorem dX2_playPart_31 : decode cX2_playPart 31 = .ok (.iconst 3, 1) := by decide +kernel
theorem dX2_playPart_32 : decode cX2_playPart 32 = .ok (.iadd, 1) := by decide +kernel
theorem dX2_playPart_33 : decode cX2_playPart 33 = .ok (.iload_n 2, 1) := by decide +kernel
theorem dX2_playPart_34 : decode cX2_playPart 34 = .ok (.invokevirtual 284, 3) := by decide +kernel
theorem dX2_playPart_37 : decode cX2_playPart 37 = .ok (.invokestatic 62, 3) := by decide +kernel
theorem dX2_playPart_40 : decode cX2_playPart 40 = .ok (.iconst 0, 1) := by decide +kernel
theorem dX2_playPart_41 : decode cX2_playPart 41 = .ok (.ireturn, 1) := by decide +kernel
theorem dX2_playPart_42 : decode cX2_playPart 42 = .ok (.iload_n 3, 1) := by decide +kernel
theorem dX2_playPart_43 : decode cX2_playPart 43 = .ok (.bipush 99, 2) := by decide +kernel
theorem dX2_playPart_45 : decode cX2_playPart 45 = .ok (.if_icmp .ne 23, 3) := by decide +kernel
theorem dX2_playPart_48 : decode cX2_playPart 48 = .ok (.aload_n 0, 1) := by decide +kernel
theorem dX2_playPart_49 : decode cX2_playPart 49 = .ok (.getfield 10, 3) := by decide +kernel
theorem dX2_playPart_52 : decode cX2_playPart 52 = .ok (.getfield 70, 3) := by decide +kernel
theorem dX2_playPart_55 : decode cX2_playPart 55 = .ok (.aload_n 0, 1) := by decide +kernel
theorem dX2_playPart_56 : decode cX2_playPart 56 = .ok (.iload_n 1, 1) := by decide +kernel
theorem dX2_playPart_57 : decode cX2_playPart 57 = .ok (.iconst 1, 1) := by decide +kernel
theorem dX2_playPart_58 : decode cX2_playPart 58 = .ok (.iadd, 1) := by decide +kernel
theorem dX2_playPart_59 : decode cX2_playPart 59 = .ok (.invokevirtual 281, 3) := by decide +kernel
theorem dX2_playPart_62 : decode cX2_playPart 62 = .ok (.iconst 0, 1) := by decide +kernel
theorem dX2_playPart_63 : decode cX2_playPart 63 = .ok (.invokestatic 62, 3) := by decide +kernel
theorem dX2_playPart_66 : decode cX2_playPart 66 = .ok (.iconst 0, 1) := by decide +kernel
theorem dX2_playPart_67 : decode cX2_playPart 67 = .ok (.ireturn, 1) := by decide +kernel
theorem dX2_playPart_68 : decode cX2_playPart 68 = .ok (.iload_n 2, 1) := by decide +kernel
theorem dX2_playPart_69 : decode cX2_playPart 69 = .ok (.iload_n 1, 1) := by decide +kernel
theorem dX2_playPart_70 : decode cX2_playPart 70 = .ok (.isub, 1) := by decide +kernel
theorem dX2_playPart_71 : decode cX2_playPart 71 = .ok (.iconst 1, 1) := by decide +kernel
theorem dX2_playPart_72 : decode cX2_playPart 72 = .ok (.if_icmp .le 13, 3) := by decide +kernel
theorem dX2_playPart_75 : decode cX2_playPart 75 = .ok (.aload_n 0, 1) := by decide +kernel
theorem dX2_playPart_76 : decode cX2_playPart 76 = .ok (.iload_n 1, 1) := by decide +kernel
theorem dX2_playPart_77 : decode cX2_playPart 77 = .ok (.iconst 2, 1) := by decide +kernel
theorem dX2_playPart_78 : decode cX2_playPart 78 = .ok (.iadd, 1) := by decide +kernel
theorem dX2_playPart_79 : decode cX2_playPart 79 = .ok (.invokevirtual 281, 3) := by decide +kernel
theorem dX2_playPart_82 : decode cX2_playPart 82 = .ok (.goto 4, 3) := by decide +kernel
theorem dX2_playPart_85 : decode cX2_playPart 85 = .ok (.iconst 1, 1) := by decide +kernel
theorem dX2_playPart_86 : decode cX2_playPart 86 = .ok (.istore 4, 2) := by decide +kernel
theorem dX2_playPart_88 : decode cX2_playPart 88 = .ok (.aload_n 0, 1) := by decide +kernel
theorem dX2_playPart_89 : decode cX2_playPart 89 = .ok (.aload_n 0, 1) := by decide +kernel
theorem dX2_playPart_90 : decode cX2_playPart 90 = .ok (.getfield 10, 3) := by decide +kernel
theorem dX2_playPart_93 : decode cX2_playPart 93 = .ok (.aload_n 0, 1) := by decide +kernel
theorem dX2_playPart_94 : decode cX2_playPart 94 = .ok (.iload_n 1, 1) := by decide +kernel
theorem dX2_playPart_95 : decode cX2_playPart 95 = .ok (.invokevirtual 281, 3) := by decide +kernel
theorem dX2_playPart_98 : decode cX2_playPart 98 = .ok (.iload 4, 2) := by decide +kernel
theorem dX2_playPart_100 : decode cX2_playPart 100 = .ok (.invokevirtual 92, 3) := by decide +kernel
theorem dX2_playPart_103 : decode cX2_playPart 103 = .ok (.iload 4, 2) := by decide +kernel
theorem dX2_playPart_105 : decode cX2_playPart 105 = .ok (.ireturn, 1) := by decide +kernel
abbrev zX2_playPart : List Cond := .code yX2_playPart cX2_playPart 5 (some .int) :: BIG
def fX2_playPart_j86 (bo : BoT) (buf : (Nat → Int32))  (v86 : ShT × ExT × Int32 × Int32) : Option (Int32 × ShT × ExT) := (fX2_digitAt bo buf v86.2.2.1).bind (fun r11 => (fX2_fire bo v86.2.1 v86.1 r11 v86.2.2.2).bind (fun r12 => some (v86.2.2.2, r12.2, r12.1)))
def fX2_playPart (bo : BoT) (now : ShT) (ex : ExT) (buf : (Nat → Int32)) (i : Int32) (j : Int32) : Option (Int32 × ShT × ExT) := (fX2_at 60 buf i).bind (fun r1 => (if r1 = 119 then (fX2_digitAt bo buf (i + 1)).bind (fun r8 => (fX2_springOfText bo buf (i + 3) j).bind (fun r9 => (fX2_put 2 now.1 r8 r9).bind (fun r10 => some (0, (r10, now.2.1, now.2.2.1, now.2.2.2.1, now.2.2.2.2.1, now.2.2.2.2.2.1, now.2.2.2.2.2.2.1, now.2.2.2.2.2.2.2.1, now.2.2.2.2.2.2.2.2.1, now.2.2.2.2.2.2.2.2.2), ex)))) else (if r1 = 99 then (fX2_digitAt bo buf (i + 1)).bind (fun r6 => (fX2_put 2 now.2.1 r6 0).bind (fun r7 => some (0, (now.1, r7, now.2.2.1, now.2.2.2.1, now.2.2.2.2.1, now.2.2.2.2.2.1, now.2.2.2.2.2.2.1, now.2.2.2.2.2.2.2.1, now.2.2.2.2.2.2.2.2.1, now.2.2.2.2.2.2.2.2.2), ex))) else (if (j - i) ≤ 1 then fX2_playPart_j86 bo buf (now, ex, i, 1) else (fX2_digitAt bo buf (i + 2)).bind (fun r5 => fX2_playPart_j86 bo buf (now, ex, i, r5))))))
set_option maxHeartbeats 4000000 in
set_option maxRecDepth 100000 in
theorem mtX2_playPart (l : Launch) (D : va_G) (t : Nat → ClassId) (bh : Nat) (bk : Nat → Nat) (bo : BoT) (nb : Nat → Nat) (now : ShT) (eb : Nat → Nat) (ex : ExT) (buf : (Nat → Int32)) (i : Int32) (j : Int32) (out : Int32 × ShT × ExT) (h : fX2_playPart bo now ex buf i j = some out)  (sz : Nat) : Met l yX2_playPart zX2_playPart ({ frames := 5, cells := 0, slots := 0, locals := 117 }) (sPc D t (gBo bh bk bo ++ (gS t (bk 0) nb now ++ (gE t (bk 2) eb ex ++ (gA t (bk 4) 60 buf)))) sz [.ref bh, .int i, .int j]) (qI D t (gBo bh bk bo ++ (gS t (bk 0) nb out.2.1 ++ (gE t (bk 2) eb out.2.2 ++ (gA t (bk 4) 60 buf)))) out.1 (va_A (gBo bh bk bo ++ (gS t (bk 0) nb now ++ (gE t (bk 2) eb ex ++ (gA t (bk 4) 60 buf)))) sz)) 0 0 (va_A (gBo bh bk bo ++ (gS t (bk 0) nb now ++ (gE t (bk 2) eb ex ++ (gA t (bk 4) 60 buf)))) sz) := by
  refine met_of (Qf := fun A => qI D t (gBo bh bk bo ++ (gS t (bk 0) nb out.2.1 ++ (gE t (bk 2) eb out.2.2 ++ (gA t (bk 4) 60 buf)))) out.1 A) (cc := cX2_playPart) (maxL := 5) (ret := some .int) (by decide) rfl (Nat.le_of_ble_eq_true rfl) ?_
  intro p e s m args below meth c A hx hb hr hml hts hown hlocks hA hP hK hD hE hS ls hl
  have htB : ∀ w ∈ BIG, w.before args s = true := fun w h => hts w (List.mem_cons_of_mem _ h)
  have hown : s.vm.findClass RX2 = some m.cls := hown
  have hl : lv_has ls 5 [(0, .ref bh), (1, .int i), (2, .int j)] := hl
  unfold fX2_playPart at h
  have J86 : ∀ v86 : ShT × ExT × Int32 × Int32, fX2_playPart_j86 bo buf v86 = some out → ∀ (H : Heap) (locs : List Loc), va_P D vwCl (gBo bh bk bo ++ (gS t (bk 0) nb v86.1 ++ (gE t (bk 2) eb v86.2.1 ++ (gA t (bk 4) 60 buf)))) H → va_D A (gBo bh bk bo ++ (gS t (bk 0) nb v86.1 ++ (gE t (bk 2) eb v86.2.1 ++ (gA t (bk 4) 60 buf)))) → va_S A s.heap H locs → ∀ ls : Array Slot, lv_has ls 5 [(0, .ref bh), (1, .int v86.2.2.1)] → W p l e ({ frames := 5, cells := 0, slots := 0, locals := 117 }) s m args below meth c H locs 0 0 (MQ below (qI D t (gBo bh bk bo ++ (gS t (bk 0) nb out.2.1 ++ (gE t (bk 2) eb out.2.2 ++ (gA t (bk 4) 60 buf)))) out.1 A) args s 0 0 A) (F0 m 86 ls [.int v86.2.2.2]) := by
    intro v86 h H locs hP hD hS ls hl
    unfold fX2_playPart_j86 at h
    refine lv_istore (lv' := [(4, .int v86.2.2.2), (0, .ref bh), (1, .int v86.2.2.1)]) hx hb dX2_playPart_86 hl (by decide) rfl (fun ls hl => ?_)
    refine lv_aload_n hx hb dX2_playPart_88 rfl (lv_at hl 1 rfl) ?_
    refine lv_aload_n hx hb dX2_playPart_89 rfl (lv_at hl 1 rfl) ?_
    refine va_get (D := D) (ci := 2) (v := .ref (bk 0)) (C := RX2) (T := TX2) (N := 8) hx hb htB inlX2 hown hK hP 0 rfl rfl 0 (by decide) (htB _ kw17) (fun _ h9 => h9) rfl dX2_playPart_90 ?_
    refine lv_aload_n hx hb dX2_playPart_93 rfl (lv_at hl 1 rfl) ?_
    refine lv_iload_n hx hb dX2_playPart_94 rfl (lv_at hl 2 rfl) ?_
    obtain ⟨r11, h11, h⟩ := ob h
    refine call_i (v := r11) (wc := (gBo bh bk bo ++ (gA t (bk 4) 60 buf))) (wc' := (gBo bh bk bo ++ (gA t (bk 4) 60 buf))) (ws' := (gBo bh bk bo ++ (gS t (bk 0) nb v86.1 ++ (gE t (bk 2) eb v86.2.1 ++ (gA t (bk 4) 60 buf))))) (cutB (bs := [gBo bh bk bo, gS t (bk 0) nb v86.1, gE t (bk 2) eb v86.2.1, gA t (bk 4) 60 buf]) (cs := [gBo bh bk bo, gA t (bk 4) 60 buf]) (cs' := [gBo bh bk bo, gA t (bk 4) 60 buf]) (bs' := [gBo bh bk bo, gS t (bk 0) nb v86.1, gE t (bk 2) eb v86.2.1, gA t (bk 4) 60 buf]) [0, 3] hP hD hS hA rfl rfl rfl rfl) hS (fun hPc hDc => va_runV (As := [.int v86.2.2.1]) (rest := [.ref (bk 0), .ref bh]) ⟨hx, hb, hml, hown, hts⟩ (mtX2_digitAt l D t bh bk bo buf v86.2.2.1 r11 h11 _) (cwV 1 hts (gBV kw403 kw404 kw405 kw2 kw406) rfl rfl rfl (by decide +kernel) ⟨Nat.le_of_ble_eq_true rfl, Nat.le_of_ble_eq_true rfl⟩) (sPc_V hPc hK hDc hE (va_recv hK hP (ci := 2) (q0 := 0) rfl rfl)) rfl rfl hl.1 rfl (lv_room (Nat.le_of_ble_eq_true rfl)) dX2_playPart_95 ⟨Nat.zero_le _, Nat.zero_le _⟩) (fun H locs hP hD hS => ?_)
    refine lv_iload hx hb dX2_playPart_98 (lv_at hl 0 rfl) ?_
    obtain ⟨r12, h12, h⟩ := ob h
    refine call_v (wc := (gBo bh bk bo ++ (gE t (bk 2) eb v86.2.1 ++ (gS t (bk 0) nb v86.1)))) (wc' := (gBo bh bk bo ++ (gE t (bk 2) eb r12.1 ++ (gS t (bk 0) nb r12.2)))) (ws' := (gBo bh bk bo ++ (gS t (bk 0) nb r12.2 ++ (gE t (bk 2) eb r12.1 ++ (gA t (bk 4) 60 buf))))) (cutB (bs := [gBo bh bk bo, gS t (bk 0) nb v86.1, gE t (bk 2) eb v86.2.1, gA t (bk 4) 60 buf]) (cs := [gBo bh bk bo, gE t (bk 2) eb v86.2.1, gS t (bk 0) nb v86.1]) (cs' := [gBo bh bk bo, gE t (bk 2) eb r12.1, gS t (bk 0) nb r12.2]) (bs' := [gBo bh bk bo, gS t (bk 0) nb r12.2, gE t (bk 2) eb r12.1, gA t (bk 4) 60 buf]) [0, 2, 1] hP hD hS hA rfl rfl rfl rfl) hS (fun hPc hDc => va_runV (As := [.ref (bk 0), .int r11, .int v86.2.2.2]) (rest := []) ⟨hx, hb, hml, hown, hts⟩ (mtX2_fire l D t bh bk bo eb v86.2.1 (bk 0) nb v86.1 r11 v86.2.2.2 r12 h12 _) (cwV 3 hts (gBV kw220 kw221 kw222 kw2 kw223) rfl rfl rfl (by decide +kernel) ⟨Nat.le_of_ble_eq_true rfl, Nat.le_of_ble_eq_true rfl⟩) (sPc_V hPc hK hDc hE (va_recv hK hP (ci := 2) (q0 := 0) rfl rfl)) rfl rfl hl.1 rfl (lv_room (Nat.le_of_ble_eq_true rfl)) dX2_playPart_100 ⟨Nat.zero_le _, Nat.zero_le _⟩) (fun H locs hP hD hS => ?_)
    refine lv_iload hx hb dX2_playPart_103 (lv_at hl 0 rfl) ?_
    obtain rfl := os h
    exact ret_i hx hb hr hlocks hP hK hD hS dX2_playPart_105
  refine lv_aload_n hx hb dX2_playPart_0 rfl (lv_at hl 0 rfl) ?_
  refine va_get (D := D) (ci := 2) (v := .ref (bk 4)) (C := RX2) (T := TX2) (N := 8) hx hb htB inlX2 hown hK hP 0 rfl rfl 6 (by decide) (htB _ kw27) (fun _ h9 => h9) rfl dX2_playPart_1 ?_
  refine lv_iload_n hx hb dX2_playPart_4 rfl (lv_at hl 1 rfl) ?_
  obtain ⟨r1, h1, h⟩ := ob h
  refine call_i (v := r1) (wc := (gA t (bk 4) 60 buf)) (wc' := (gA t (bk 4) 60 buf)) (ws' := (gBo bh bk bo ++ (gS t (bk 0) nb now ++ (gE t (bk 2) eb ex ++ (gA t (bk 4) 60 buf))))) (cutB (bs := [gBo bh bk bo, gS t (bk 0) nb now, gE t (bk 2) eb ex, gA t (bk 4) 60 buf]) (cs := [gA t (bk 4) 60 buf]) (cs' := [gA t (bk 4) 60 buf]) (bs' := [gBo bh bk bo, gS t (bk 0) nb now, gE t (bk 2) eb ex, gA t (bk 4) 60 buf]) [3] hP hD hS hA rfl rfl rfl rfl) hS (fun hPc hDc => va_runS (As := [.ref (bk 4), .int i]) (rest := []) ⟨hx, hb, hml, hown, hts⟩ (mtX2_at l D t (bk 4) 60 buf i r1 h1 (by decide) _) (va_cwS 2 hts (gBS kw104 kw105 kw2 kw106) rfl rfl rfl (by decide +kernel) ⟨Nat.le_of_ble_eq_true rfl, Nat.le_of_ble_eq_true rfl⟩) (sPc_S hPc hK hDc hE) rfl rfl hl.1 rfl (lv_room (Nat.le_of_ble_eq_true rfl)) dX2_playPart_5 ⟨Nat.zero_le _, Nat.zero_le _⟩) (fun H locs hP hD hS => ?_)
  refine lv_istore_n (lv' := [(3, .int r1), (0, .ref bh), (1, .int i), (2, .int j)]) hx hb dX2_playPart_8 rfl hl (by decide) rfl (fun ls hl => ?_)
  refine lv_iload_n hx hb dX2_playPart_9 rfl (lv_at hl 0 rfl) ?_
  refine lv_bipush (v := 119) hx hb dX2_playPart_10 (by decide) ?_
  refine lv_icmp_ne (tgt := 42) hx hb dX2_playPart_12 (by decide) (fun c2 => ?_) (fun c2 => ?_)
  · have h := it_n c2 h
    refine lv_iload_n hx hb dX2_playPart_42 rfl (lv_at hl 0 rfl) ?_
    refine lv_bipush (v := 99) hx hb dX2_playPart_43 (by decide) ?_
    refine lv_icmp_ne (tgt := 68) hx hb dX2_playPart_45 (by decide) (fun c3 => ?_) (fun c3 => ?_)
    · have h := it_n c3 h
      refine lv_iload_n hx hb dX2_playPart_68 rfl (lv_at hl 3 rfl) ?_
      refine lv_iload_n hx hb dX2_playPart_69 rfl (lv_at hl 2 rfl) ?_
      refine lv_isub hx hb dX2_playPart_70 ?_
      refine lv_iconst (v := 1) hx hb dX2_playPart_71 (by decide) ?_
      refine lv_icmp_le (tgt := 85) hx hb dX2_playPart_72 (by decide) (fun c4 => ?_) (fun c4 => ?_)
      · have h := it_p c4 h
        refine lv_iconst (v := 1) hx hb dX2_playPart_85 (by decide) ?_
        exact J86 (now, ex, i, 1) h _ _ hP hD hS _ (lv_sub hl [1, 2] rfl)
      · have h := it_n c4 h
        refine lv_aload_n hx hb dX2_playPart_75 rfl (lv_at hl 1 rfl) ?_
        refine lv_iload_n hx hb dX2_playPart_76 rfl (lv_at hl 2 rfl) ?_
        refine lv_iconst (v := 2) hx hb dX2_playPart_77 (by decide) ?_
        refine lv_iadd hx hb dX2_playPart_78 ?_
        obtain ⟨r5, h5, h⟩ := ob h
        refine call_i (v := r5) (wc := (gBo bh bk bo ++ (gA t (bk 4) 60 buf))) (wc' := (gBo bh bk bo ++ (gA t (bk 4) 60 buf))) (ws' := (gBo bh bk bo ++ (gS t (bk 0) nb now ++ (gE t (bk 2) eb ex ++ (gA t (bk 4) 60 buf))))) (cutB (bs := [gBo bh bk bo, gS t (bk 0) nb now, gE t (bk 2) eb ex, gA t (bk 4) 60 buf]) (cs := [gBo bh bk bo, gA t (bk 4) 60 buf]) (cs' := [gBo bh bk bo, gA t (bk 4) 60 buf]) (bs' := [gBo bh bk bo, gS t (bk 0) nb now, gE t (bk 2) eb ex, gA t (bk 4) 60 buf]) [0, 3] hP hD hS hA rfl rfl rfl rfl) hS (fun hPc hDc => va_runV (As := [.int (i + 2)]) (rest := []) ⟨hx, hb, hml, hown, hts⟩ (mtX2_digitAt l D t bh bk bo buf (i + 2) r5 h5 _) (cwV 1 hts (gBV kw403 kw404 kw405 kw2 kw406) rfl rfl rfl (by decide +kernel) ⟨Nat.le_of_ble_eq_true rfl, Nat.le_of_ble_eq_true rfl⟩) (sPc_V hPc hK hDc hE (va_recv hK hP (ci := 2) (q0 := 0) rfl rfl)) rfl rfl hl.1 rfl (lv_room (Nat.le_of_ble_eq_true rfl)) dX2_playPart_79 ⟨Nat.zero_le _, Nat.zero_le _⟩) (fun H locs hP hD hS => ?_)
        refine lv_goto (tgt := 86) hx hb dX2_playPart_82 (by decide) ?_
        exact J86 (now, ex, i, r5) h _ _ hP hD hS _ (lv_sub hl [1, 2] rfl)
    · have h := it_p c3 h
      refine lv_aload_n hx hb dX2_playPart_48 rfl (lv_at hl 1 rfl) ?_
      refine va_get (D := D) (ci := 2) (v := .ref (bk 0)) (C := RX2) (T := TX2) (N := 8) hx hb htB inlX2 hown hK hP 0 rfl rfl 0 (by decide) (htB _ kw17) (fun _ h9 => h9) rfl dX2_playPart_49 ?_
      refine va_get (D := D) (ci := 1) (v := .ref (nb 1)) (C := RX1) (T := TX1) (N := 10) hx hb htB inlX1 hown hK hP 1 rfl rfl 1 (by decide) (htB _ kw166) (fun _ h9 => h9) rfl dX2_playPart_52 ?_
      refine lv_aload_n hx hb dX2_playPart_55 rfl (lv_at hl 1 rfl) ?_
      refine lv_iload_n hx hb dX2_playPart_56 rfl (lv_at hl 2 rfl) ?_
      refine lv_iconst (v := 1) hx hb dX2_playPart_57 (by decide) ?_
      refine lv_iadd hx hb dX2_playPart_58 ?_
      obtain ⟨r6, h6, h⟩ := ob h
      refine call_i (v := r6) (wc := (gBo bh bk bo ++ (gA t (bk 4) 60 buf))) (wc' := (gBo bh bk bo ++ (gA t (bk 4) 60 buf))) (ws' := (gBo bh bk bo ++ (gS t (bk 0) nb now ++ (gE t (bk 2) eb ex ++ (gA t (bk 4) 60 buf))))) (cutB (bs := [gBo bh bk bo, gS t (bk 0) nb now, gE t (bk 2) eb ex, gA t (bk 4) 60 buf]) (cs := [gBo bh bk bo, gA t (bk 4) 60 buf]) (cs' := [gBo bh bk bo, gA t (bk 4) 60 buf]) (bs' := [gBo bh bk bo, gS t (bk 0) nb now, gE t (bk 2) eb ex, gA t (bk 4) 60 buf]) [0, 3] hP hD hS hA rfl rfl rfl rfl) hS (fun hPc hDc => va_runV (As := [.int (i + 1)]) (rest := [.ref (nb 1)]) ⟨hx, hb, hml, hown, hts⟩ (mtX2_digitAt l D t bh bk bo buf (i + 1) r6 h6 _) (cwV 1 hts (gBV kw403 kw404 kw405 kw2 kw406) rfl rfl rfl (by decide +kernel) ⟨Nat.le_of_ble_eq_true rfl, Nat.le_of_ble_eq_true rfl⟩) (sPc_V hPc hK hDc hE (va_recv hK hP (ci := 2) (q0 := 0) rfl rfl)) rfl rfl hl.1 rfl (lv_room (Nat.le_of_ble_eq_true rfl)) dX2_playPart_59 ⟨Nat.zero_le _, Nat.zero_le _⟩) (fun H locs hP hD hS => ?_)
      refine lv_iconst (v := 0) hx hb dX2_playPart_62 (by decide) ?_
      obtain ⟨r7, h7, h⟩ := ob h
      refine call_v (wc := (gA t (nb 1) 2 now.2.1)) (wc' := (gA t (nb 1) 2 r7)) (ws' := (gBo bh bk bo ++ (gS t (bk 0) nb (now.1, r7, now.2.2.1, now.2.2.2.1, now.2.2.2.2.1, now.2.2.2.2.2.1, now.2.2.2.2.2.2.1, now.2.2.2.2.2.2.2.1, now.2.2.2.2.2.2.2.2.1, now.2.2.2.2.2.2.2.2.2) ++ (gE t (bk 2) eb ex ++ (gA t (bk 4) 60 buf))))) (cutI (wc := (gA t (nb 1) 2 now.2.1)) (wc' := (gA t (nb 1) 2 r7)) (ws' := (gBo bh bk bo ++ (gS t (bk 0) nb (now.1, r7, now.2.2.1, now.2.2.2.1, now.2.2.2.2.1, now.2.2.2.2.2.1, now.2.2.2.2.2.2.1, now.2.2.2.2.2.2.2.1, now.2.2.2.2.2.2.2.2.1, now.2.2.2.2.2.2.2.2.2) ++ (gE t (bk 2) eb ex ++ (gA t (bk 4) 60 buf))))) [3] hP hD hS hA rfl rfl rfl rfl) hS (fun hPc hDc => va_runS (As := [.ref (nb 1), .int r6, .int 0]) (rest := []) ⟨hx, hb, hml, hown, hts⟩ (mtX2_put l D t (nb 1) 2 now.2.1 r6 0 r7 h7 (by decide) _) (va_cwS 3 hts (gBS kw107 kw108 kw2 kw109) rfl rfl rfl (by decide +kernel) ⟨Nat.le_of_ble_eq_true rfl, Nat.le_of_ble_eq_true rfl⟩) (sPc_S hPc hK hDc hE) rfl rfl hl.1 rfl (lv_room (Nat.le_of_ble_eq_true rfl)) dX2_playPart_63 ⟨Nat.zero_le _, Nat.zero_le _⟩) (fun H locs hP hD hS => ?_)
      refine lv_iconst (v := 0) hx hb dX2_playPart_66 (by decide) ?_
      obtain rfl := os h
      exact ret_i hx hb hr hlocks hP hK hD hS dX2_playPart_67
  · have h := it_p c2 h
    refine lv_aload_n hx hb dX2_playPart_15 rfl (lv_at hl 1 rfl) ?_
    refine va_get (D := D) (ci := 2) (v := .ref (bk 0)) (C := RX2) (T := TX2) (N := 8) hx hb htB inlX2 hown hK hP 0 rfl rfl 0 (by decide) (htB _ kw17) (fun _ h9 => h9) rfl dX2_playPart_16 ?_
    refine va_get (D := D) (ci := 1) (v := .ref (nb 0)) (C := RX1) (T := TX1) (N := 10) hx hb htB inlX1 hown hK hP 1 rfl rfl 0 (by decide) (htB _ kw72) (fun _ h9 => h9) rfl dX2_playPart_19 ?_
    refine lv_aload_n hx hb dX2_playPart_22 rfl (lv_at hl 1 rfl) ?_
    refine lv_iload_n hx hb dX2_playPart_23 rfl (lv_at hl 2 rfl) ?_
    refine lv_iconst (v := 1) hx hb dX2_playPart_24 (by decide) ?_
    refine lv_iadd hx hb dX2_playPart_25 ?_
    obtain ⟨r8, h8, h⟩ := ob h
    refine call_i (v := r8) (wc := (gBo bh bk bo ++ (gA t (bk 4) 60 buf))) (wc' := (gBo bh bk bo ++ (gA t (bk 4) 60 buf))) (ws' := (gBo bh bk bo ++ (gS t (bk 0) nb now ++ (gE t (bk 2) eb ex ++ (gA t (bk 4) 60 buf))))) (cutB (bs := [gBo bh bk bo, gS t (bk 0) nb now, gE t (bk 2) eb ex, gA t (bk 4) 60 buf]) (cs := [gBo bh bk bo, gA t (bk 4) 60 buf]) (cs' := [gBo bh bk bo, gA t (bk 4) 60 buf]) (bs' := [gBo bh bk bo, gS t (bk 0) nb now, gE t (bk 2) eb ex, gA t (bk 4) 60 buf]) [0, 3] hP hD hS hA rfl rfl rfl rfl) hS (fun hPc hDc => va_runV (As := [.int (i + 1)]) (rest := [.ref (nb 0)]) ⟨hx, hb, hml, hown, hts⟩ (mtX2_digitAt l D t bh bk bo buf (i + 1) r8 h8 _) (cwV 1 hts (gBV kw403 kw404 kw405 kw2 kw406) rfl rfl rfl (by decide +kernel) ⟨Nat.le_of_ble_eq_true rfl, Nat.le_of_ble_eq_true rfl⟩) (sPc_V hPc hK hDc hE (va_recv hK hP (ci := 2) (q0 := 0) rfl rfl)) rfl rfl hl.1 rfl (lv_room (Nat.le_of_ble_eq_true rfl)) dX2_playPart_26 ⟨Nat.zero_le _, Nat.zero_le _⟩) (fun H locs hP hD hS => ?_)
    refine lv_aload_n hx hb dX2_playPart_29 rfl (lv_at hl 1 rfl) ?_
    refine lv_iload_n hx hb dX2_playPart_30 rfl (lv_at hl 2 rfl) ?_
    refine lv_iconst (v := 3) hx hb dX2_playPart_31 (by decide) ?_
    refine lv_iadd hx hb dX2_playPart_32 ?_
    refine lv_iload_n hx hb dX2_playPart_33 rfl (lv_at hl 3 rfl) ?_
    obtain ⟨r9, h9, h⟩ := ob h
    refine call_i (v := r9) (wc := (gBo bh bk bo ++ (gA t (bk 4) 60 buf))) (wc' := (gBo bh bk bo ++ (gA t (bk 4) 60 buf))) (ws' := (gBo bh bk bo ++ (gS t (bk 0) nb now ++ (gE t (bk 2) eb ex ++ (gA t (bk 4) 60 buf))))) (cutB (bs := [gBo bh bk bo, gS t (bk 0) nb now, gE t (bk 2) eb ex, gA t (bk 4) 60 buf]) (cs := [gBo bh bk bo, gA t (bk 4) 60 buf]) (cs' := [gBo bh bk bo, gA t (bk 4) 60 buf]) (bs' := [gBo bh bk bo, gS t (bk 0) nb now, gE t (bk 2) eb ex, gA t (bk 4) 60 buf]) [0, 3] hP hD hS hA rfl rfl rfl rfl) hS (fun hPc hDc => va_runV (As := [.int (i + 3), .int j]) (rest := [.int r8, .ref (nb 0)]) ⟨hx, hb, hml, hown, hts⟩ (mtX2_springOfText l D t bh bk bo buf (i + 3) j r9 h9 _) (cwV 2 hts (gBV kw407 kw408 kw409 kw2 kw410) rfl rfl rfl (by decide +kernel) ⟨Nat.le_of_ble_eq_true rfl, Nat.le_of_ble_eq_true rfl⟩) (sPc_V hPc hK hDc hE (va_recv hK hP (ci := 2) (q0 := 0) rfl rfl)) rfl rfl hl.1 rfl (lv_room (Nat.le_of_ble_eq_true rfl)) dX2_playPart_34 ⟨Nat.zero_le _, Nat.zero_le _⟩) (fun H locs hP hD hS => ?_)
    obtain ⟨r10, h10, h⟩ := ob h
    refine call_v (wc := (gA t (nb 0) 2 now.1)) (wc' := (gA t (nb 0) 2 r10)) (ws' := (gBo bh bk bo ++ (gS t (bk 0) nb (r10, now.2.1, now.2.2.1, now.2.2.2.1, now.2.2.2.2.1, now.2.2.2.2.2.1, now.2.2.2.2.2.2.1, now.2.2.2.2.2.2.2.1, now.2.2.2.2.2.2.2.2.1, now.2.2.2.2.2.2.2.2.2) ++ (gE t (bk 2) eb ex ++ (gA t (bk 4) 60 buf))))) (cutI (wc := (gA t (nb 0) 2 now.1)) (wc' := (gA t (nb 0) 2 r10)) (ws' := (gBo bh bk bo ++ (gS t (bk 0) nb (r10, now.2.1, now.2.2.1, now.2.2.2.1, now.2.2.2.2.1, now.2.2.2.2.2.1, now.2.2.2.2.2.2.1, now.2.2.2.2.2.2.2.1, now.2.2.2.2.2.2.2.2.1, now.2.2.2.2.2.2.2.2.2) ++ (gE t (bk 2) eb ex ++ (gA t (bk 4) 60 buf))))) [2] hP hD hS hA rfl rfl rfl rfl) hS (fun hPc hDc => va_runS (As := [.ref (nb 0), .int r8, .int r9]) (rest := []) ⟨hx, hb, hml, hown, hts⟩ (mtX2_put l D t (nb 0) 2 now.1 r8 r9 r10 h10 (by decide) _) (va_cwS 3 hts (gBS kw107 kw108 kw2 kw109) rfl rfl rfl (by decide +kernel) ⟨Nat.le_of_ble_eq_true rfl, Nat.le_of_ble_eq_true rfl⟩) (sPc_S hPc hK hDc hE) rfl rfl hl.1 rfl (lv_room (Nat.le_of_ble_eq_true rfl)) dX2_playPart_37 ⟨Nat.zero_le _, Nat.zero_le _⟩) (fun H locs hP hD hS => ?_)
    refine lv_iconst (v := 0) hx hb dX2_playPart_40 (by decide) ?_
    obtain rfl := os h
    exact ret_i hx hb hr hlocks hP hK hD hS dX2_playPart_41

theorem dX2_isComplete_0 : decode cX2_isComplete 0 = .ok (.iconst 0, 1) := by decide +kernel
theorem dX2_isComplete_1 : decode cX2_isComplete 1 = .ok (.istore_n 1, 1) := by decide +kernel
theorem dX2_isComplete_2 : decode cX2_isComplete 2 = .ok (.iconst 0, 1) := by decide +kernel
theorem dX2_isComplete_3 : decode cX2_isComplete 3 = .ok (.istore_n 2, 1) := by decide +kernel
theorem dX2_isComplete_4 : decode cX2_isComplete 4 = .ok (.iload_n 2, 1) := by decide +kernel
theorem dX2_isComplete_5 : decode cX2_isComplete 5 = .ok (.aload_n 0, 1) := by decide +kernel
theorem dX2_isComplete_6 : decode cX2_isComplete 6 = .ok (.getfield 41, 3) := by decide +kernel
theorem dX2_isComplete_9 : decode cX2_isComplete 9 = .ok (.if_icmp .ge 28, 3) := by decide +kernel
theorem dX2_isComplete_12 : decode cX2_isComplete 12 = .ok (.iload_n 1, 1) := by decide +kernel
theorem dX2_isComplete_13 : decode cX2_isComplete 13 = .ok (.bipush 9, 2) := by decide +kernel
theorem dX2_isComplete_15 : decode cX2_isComplete 15 = .ok (.if_icmp .eq 22, 3) := by decide +kernel
theorem dX2_isComplete_18 : decode cX2_isComplete 18 = .ok (.iload_n 1, 1) := by decide +kernel
theorem dX2_isComplete_19 : decode cX2_isComplete 19 = .ok (.aload_n 0, 1) := by decide +kernel
theorem dX2_isComplete_20 : decode cX2_isComplete 20 = .ok (.getfield 37, 3) := by decide +kernel
theorem dX2_isComplete_23 : decode cX2_isComplete 23 = .ok (.iload_n 2, 1) := by decide +kernel
theorem dX2_isComplete_24 : decode cX2_isComplete 24 = .ok (.invokestatic 58, 3) := by decide +kernel
theorem dX2_isComplete_27 : decode cX2_isComplete 27 = .ok (.invokestatic 107, 3) := by decide +kernel
theorem dX2_isComplete_30 : decode cX2_isComplete 30 = .ok (.istore_n 1, 1) := by decide +kernel
theorem dX2_isComplete_31 : decode cX2_isComplete 31 = .ok (.iinc 2 1, 3) := by decide +kernel
theorem dX2_isComplete_34 : decode cX2_isComplete 34 = .ok (.goto (-30), 3) := by decide +kernel
theorem dX2_isComplete_37 : decode cX2_isComplete 37 = .ok (.iload_n 1, 1) := by decide +kernel
theorem dX2_isComplete_38 : decode cX2_isComplete 38 = .ok (.iconst 1, 1) := by decide +kernel
theorem dX2_isComplete_39 : decode cX2_isComplete 39 = .ok (.if_icmp .eq 14, 3) := by decide +kernel
theorem dX2_isComplete_42 : decode cX2_isComplete 42 = .ok (.iload_n 1, 1) := by decide +kernel
theorem dX2_isComplete_43 : decode cX2_isComplete 43 = .ok (.iconst 3, 1) := by decide +kernel
theorem dX2_isComplete_44 : decode cX2_isComplete 44 = .ok (.if_icmp .eq 9, 3) := by decide +kernel
theorem dX2_isComplete_47 : decode cX2_isComplete 47 = .ok (.iload_n 1, 1) := by decide +kernel
theorem dX2_isComplete_48 : decode cX2_isComplete 48 = .ok (.bipush 7, 2) := by decide +kernel
theorem dX2_isComplete_50 : decode cX2_isComplete 50 = .ok (.if_icmp .ne 7, 3) := by decide +kernel
theorem dX2_isComplete_53 : decode cX2_isComplete 53 = .ok (.iconst 1, 1) := by decide +kernel
theorem dX2_isComplete_54 : decode cX2_isComplete 54 = .ok (.goto 4, 3) := by decide +kernel
theorem dX2_isComplete_57 : decode cX2_isComplete 57 = .ok (.iconst 0, 1) := by decide +kernel
theorem dX2_isComplete_58 : decode cX2_isComplete 58 = .ok (.ireturn, 1) := by decide +kernel
abbrev zX2_isComplete : List Cond := .code yX2_isComplete cX2_isComplete 3 (some .boolean) :: BIG
def fX2_isComplete_j37 (bo : BoT) (buf : (Nat → Int32))  (v37 : Int32) : Option (Bool) := (if v37 = 1 then some true else (if v37 = 3 then some true else (if v37 = 7 then some true else some false)))
def fX2_isComplete_l4 (bo : BoT) (buf : (Nat → Int32))  (K4 : (Int32 × Int32) → Option (Bool)) (v4 : Int32 × Int32) : Option (Bool) := (if bo.2.2 ≤ v4.2 then fX2_isComplete_j37 bo buf v4.1 else (if v4.1 = 9 then fX2_isComplete_j37 bo buf v4.1 else (fX2_at 60 buf v4.2).bind (fun r3 => (fX2_placeAfter v4.1 r3).bind (fun r4 => K4 (r4, v4.2 + 1)))))
def fX2_isComplete (bo : BoT) (buf : (Nat → Int32)) : Option (Bool) := lp (fX2_isComplete_l4 bo buf) 2000 (0, 0)
set_option maxHeartbeats 4000000 in
set_option maxRecDepth 100000 in
theorem mtX2_isComplete (l : Launch) (D : va_G) (t : Nat → ClassId) (bh : Nat) (bk : Nat → Nat) (bo : BoT) (buf : (Nat → Int32)) (out : Bool) (h : fX2_isComplete bo buf = some out)  (sz : Nat) : Met l yX2_isComplete zX2_isComplete ({ frames := 2, cells := 0, slots := 0, locals := 41 }) (sPc D t (gBo bh bk bo ++ (gA t (bk 4) 60 buf)) sz [.ref bh]) (qI D t (gBo bh bk bo ++ (gA t (bk 4) 60 buf)) (b2i out) (va_A (gBo bh bk bo ++ (gA t (bk 4) 60 buf)) sz)) 0 0 (va_A (gBo bh bk bo ++ (gA t (bk 4) 60 buf)) sz) := by
  refine met_of (Qf := fun A => qI D t (gBo bh bk bo ++ (gA t (bk 4) 60 buf)) (b2i out) A) (cc := cX2_isComplete) (maxL := 3) (ret := some .boolean) (by decide) rfl (Nat.le_of_ble_eq_true rfl) ?_
  intro p e s m args below meth c A hx hb hr hml hts hown hlocks hA hP hK hD hE hS ls hl
  have htB : ∀ w ∈ BIG, w.before args s = true := fun w h => hts w (List.mem_cons_of_mem _ h)
  have hown : s.vm.findClass RX2 = some m.cls := hown
  have hl : lv_has ls 3 [(0, .ref bh)] := hl
  unfold fX2_isComplete at h
  have J37 : ∀ v37 : Int32, fX2_isComplete_j37 bo buf v37 = some out → ∀ (H : Heap) (locs : List Loc), va_P D vwCl (gBo bh bk bo ++ (gA t (bk 4) 60 buf)) H → va_D A (gBo bh bk bo ++ (gA t (bk 4) 60 buf)) → va_S A s.heap H locs → ∀ ls : Array Slot, lv_has ls 3 [(1, .int v37)] → W p l e ({ frames := 2, cells := 0, slots := 0, locals := 41 }) s m args below meth c H locs 0 0 (MQ below (qI D t (gBo bh bk bo ++ (gA t (bk 4) 60 buf)) (b2i out) A) args s 0 0 A) (F0 m 37 ls []) := by
    intro v37 h H locs hP hD hS ls hl
    unfold fX2_isComplete_j37 at h
    refine lv_iload_n hx hb dX2_isComplete_37 rfl (lv_at hl 0 rfl) ?_
    refine lv_iconst (v := 1) hx hb dX2_isComplete_38 (by decide) ?_
    refine lv_icmp_eq (tgt := 53) hx hb dX2_isComplete_39 (by decide) (fun c5 => ?_) (fun c5 => ?_)
    · have h := it_p c5 h
      refine lv_iconst (v := 1) hx hb dX2_isComplete_53 (by decide) ?_
      refine lv_goto (tgt := 58) hx hb dX2_isComplete_54 (by decide) ?_
      obtain rfl := os h
      exact ret_z hx hb hr hlocks hP hK hD hS dX2_isComplete_58
    · have h := it_n c5 h
      refine lv_iload_n hx hb dX2_isComplete_42 rfl (lv_at hl 0 rfl) ?_
      refine lv_iconst (v := 3) hx hb dX2_isComplete_43 (by decide) ?_
      refine lv_icmp_eq (tgt := 53) hx hb dX2_isComplete_44 (by decide) (fun c6 => ?_) (fun c6 => ?_)
      · have h := it_p c6 h
        refine lv_iconst (v := 1) hx hb dX2_isComplete_53 (by decide) ?_
        refine lv_goto (tgt := 58) hx hb dX2_isComplete_54 (by decide) ?_
        obtain rfl := os h
        exact ret_z hx hb hr hlocks hP hK hD hS dX2_isComplete_58
      · have h := it_n c6 h
        refine lv_iload_n hx hb dX2_isComplete_47 rfl (lv_at hl 0 rfl) ?_
        refine lv_bipush (v := 7) hx hb dX2_isComplete_48 (by decide) ?_
        refine lv_icmp_ne (tgt := 57) hx hb dX2_isComplete_50 (by decide) (fun c7 => ?_) (fun c7 => ?_)
        · have h := it_n c7 h
          refine lv_iconst (v := 0) hx hb dX2_isComplete_57 (by decide) ?_
          obtain rfl := os h
          exact ret_z hx hb hr hlocks hP hK hD hS dX2_isComplete_58
        · have h := it_p c7 h
          refine lv_iconst (v := 1) hx hb dX2_isComplete_53 (by decide) ?_
          refine lv_goto (tgt := 58) hx hb dX2_isComplete_54 (by decide) ?_
          obtain rfl := os h
          exact ret_z hx hb hr hlocks hP hK hD hS dX2_isComplete_58
  have J4 : ∀ (fu4 : Nat) (v4 : Int32 × Int32), lp (fX2_isComplete_l4 bo buf) fu4 v4 = some out → ∀ (H : Heap) (locs : List Loc), va_P D vwCl (gBo bh bk bo ++ (gA t (bk 4) 60 buf)) H → va_D A (gBo bh bk bo ++ (gA t (bk 4) 60 buf)) → va_S A s.heap H locs → ∀ ls : Array Slot, lv_has ls 3 [(0, .ref bh), (1, .int v4.1), (2, .int v4.2)] → W p l e ({ frames := 2, cells := 0, slots := 0, locals := 41 }) s m args below meth c H locs 0 0 (MQ below (qI D t (gBo bh bk bo ++ (gA t (bk 4) 60 buf)) (b2i out) A) args s 0 0 A) (F0 m 4 ls []) := by
    intro fu4
    induction fu4 with
    | zero => intro v4 h; cases h
    | succ fu4 ih4 =>
      intro v4 h H locs hP hD hS ls hl
      have h : fX2_isComplete_l4 bo buf (lp (fX2_isComplete_l4 bo buf) fu4) v4 = some out := h
      unfold fX2_isComplete_l4 at h
      refine lv_iload_n hx hb dX2_isComplete_4 rfl (lv_at hl 2 rfl) ?_
      refine lv_aload_n hx hb dX2_isComplete_5 rfl (lv_at hl 0 rfl) ?_
      refine va_get (D := D) (ci := 2) (v := .int bo.2.2) (C := RX2) (T := TX2) (N := 8) hx hb htB inlX2 hown hK hP 0 rfl rfl 7 (by decide) (htB _ kw28) (fun _ h9 => h9) rfl dX2_isComplete_6 ?_
      refine lv_icmp_ge (tgt := 37) hx hb dX2_isComplete_9 (by decide) (fun c1 => ?_) (fun c1 => ?_)
      · have h := it_p c1 h
        exact J37 v4.1 h _ _ hP hD hS _ (lv_sub hl [1] rfl)
      · have h := it_n c1 h
        refine lv_iload_n hx hb dX2_isComplete_12 rfl (lv_at hl 1 rfl) ?_
        refine lv_bipush (v := 9) hx hb dX2_isComplete_13 (by decide) ?_
        refine lv_icmp_eq (tgt := 37) hx hb dX2_isComplete_15 (by decide) (fun c2 => ?_) (fun c2 => ?_)
        · have h := it_p c2 h
          exact J37 v4.1 h _ _ hP hD hS _ (lv_sub hl [1] rfl)
        · have h := it_n c2 h
          refine lv_iload_n hx hb dX2_isComplete_18 rfl (lv_at hl 1 rfl) ?_
          refine lv_aload_n hx hb dX2_isComplete_19 rfl (lv_at hl 0 rfl) ?_
          refine va_get (D := D) (ci := 2) (v := .ref (bk 4)) (C := RX2) (T := TX2) (N := 8) hx hb htB inlX2 hown hK hP 0 rfl rfl 6 (by decide) (htB _ kw27) (fun _ h9 => h9) rfl dX2_isComplete_20 ?_
          refine lv_iload_n hx hb dX2_isComplete_23 rfl (lv_at hl 2 rfl) ?_
          obtain ⟨r3, h3, h⟩ := ob h
          refine call_i (v := r3) (wc := (gA t (bk 4) 60 buf)) (wc' := (gA t (bk 4) 60 buf)) (ws' := (gBo bh bk bo ++ (gA t (bk 4) 60 buf))) (cutB (bs := [gBo bh bk bo, gA t (bk 4) 60 buf]) (cs := [gA t (bk 4) 60 buf]) (cs' := [gA t (bk 4) 60 buf]) (bs' := [gBo bh bk bo, gA t (bk 4) 60 buf]) [1] hP hD hS hA rfl rfl rfl rfl) hS (fun hPc hDc => va_runS (As := [.ref (bk 4), .int v4.2]) (rest := [.int v4.1]) ⟨hx, hb, hml, hown, hts⟩ (mtX2_at l D t (bk 4) 60 buf v4.2 r3 h3 (by decide) _) (va_cwS 2 hts (gBS kw104 kw105 kw2 kw106) rfl rfl rfl (by decide +kernel) ⟨Nat.le_of_ble_eq_true rfl, Nat.le_of_ble_eq_true rfl⟩) (sPc_S hPc hK hDc hE) rfl rfl hl.1 rfl (lv_room (Nat.le_of_ble_eq_true rfl)) dX2_isComplete_24 ⟨Nat.zero_le _, Nat.zero_le _⟩) (fun H locs hP hD hS => ?_)
          obtain ⟨r4, h4, h⟩ := ob h
          refine call_i (v := r4) (wc := ([] : va_W)) (wc' := ([] : va_W)) (ws' := (gBo bh bk bo ++ (gA t (bk 4) 60 buf))) (cutB (bs := [gBo bh bk bo, gA t (bk 4) 60 buf]) (cs := []) (cs' := []) (bs' := [gBo bh bk bo, gA t (bk 4) 60 buf]) [] hP hD hS hA rfl rfl rfl rfl) hS (fun hPc hDc => va_runS (As := [.int v4.1, .int r3]) (rest := []) ⟨hx, hb, hml, hown, hts⟩ (mtX2_placeAfter l D t v4.1 r3 r4 h4 _) (va_cwS 2 hts (gBS kw345 kw346 kw2 kw347) rfl rfl rfl (by decide +kernel) ⟨Nat.le_of_ble_eq_true rfl, Nat.le_of_ble_eq_true rfl⟩) (sPc_S hPc hK hDc hE) rfl rfl hl.1 rfl (lv_room (Nat.le_of_ble_eq_true rfl)) dX2_isComplete_27 ⟨Nat.zero_le _, Nat.zero_le _⟩) (fun H locs hP hD hS => ?_)
          refine lv_istore_n (lv' := [(1, .int r4), (0, .ref bh), (2, .int v4.2)]) hx hb dX2_isComplete_30 rfl hl (by decide) rfl (fun ls hl => ?_)
          refine lv_iinc (v := v4.2 + 1) (lv' := [(2, .int (v4.2 + 1)), (1, .int r4), (0, .ref bh)]) hx hb dX2_isComplete_31 hl (k := 2) rfl rfl (by decide) rfl (fun ls hl => ?_)
          refine lv_goto (tgt := 4) hx hb dX2_isComplete_34 (by decide) ?_
          exact ih4 (r4, v4.2 + 1) h _ _ hP hD hS _ (lv_sub hl [2, 1, 0] rfl)
  refine lv_iconst (v := 0) hx hb dX2_isComplete_0 (by decide) ?_
  refine lv_istore_n (lv' := [(1, .int 0), (0, .ref bh)]) hx hb dX2_isComplete_1 rfl hl (by decide) rfl (fun ls hl => ?_)
  refine lv_iconst (v := 0) hx hb dX2_isComplete_2 (by decide) ?_
  refine lv_istore_n (lv' := [(2, .int 0), (1, .int 0), (0, .ref bh)]) hx hb dX2_isComplete_3 rfl hl (by decide) rfl (fun ls hl => ?_)
  exact J4 2000 (0, 0) h _ _ hP hD hS _ (lv_sub hl [2, 1, 0] rfl)

theorem dX2_bitsOfShare_0 : decode cX2_bitsOfShare 0 = .ok (.dload_n 0, 1) := by decide +kernel
theorem dX2_bitsOfShare_1 : decode cX2_bitsOfShare 1 = .ok (.dconst 0, 1) := by decide +kernel
theorem dX2_bitsOfShare_2 : decode cX2_bitsOfShare 2 = .ok (.dcmp .g, 1) := by decide +kernel
theorem dX2_bitsOfShare_3 : decode cX2_bitsOfShare 3 = .ok (.ifCond .gt 5, 3) := by decide +kernel
theorem dX2_bitsOfShare_6 : decode cX2_bitsOfShare 6 = .ok (.lconst 0, 1) := by decide +kernel
theorem dX2_bitsOfShare_7 : decode cX2_bitsOfShare 7 = .ok (.lreturn, 1) := by decide +kernel
theorem dX2_bitsOfShare_8 : decode cX2_bitsOfShare 8 = .ok (.ldc2_w 262, 3) := by decide +kernel
theorem dX2_bitsOfShare_11 : decode cX2_bitsOfShare 11 = .ok (.lstore_n 2, 1) := by decide +kernel
theorem dX2_bitsOfShare_12 : decode cX2_bitsOfShare 12 = .ok (.dload_n 0, 1) := by decide +kernel
theorem dX2_bitsOfShare_13 : decode cX2_bitsOfShare 13 = .ok (.dstore 4, 2) := by decide +kernel
theorem dX2_bitsOfShare_15 : decode cX2_bitsOfShare 15 = .ok (.iconst 0, 1) := by decide +kernel
theorem dX2_bitsOfShare_16 : decode cX2_bitsOfShare 16 = .ok (.istore 6, 2) := by decide +kernel
theorem dX2_bitsOfShare_18 : decode cX2_bitsOfShare 18 = .ok (.iload 6, 2) := by decide +kernel
theorem dX2_bitsOfShare_20 : decode cX2_bitsOfShare 20 = .ok (.sipush 1022, 3) := by decide +kernel
theorem dX2_bitsOfShare_23 : decode cX2_bitsOfShare 23 = .ok (.if_icmp .ge 28, 3) := by decide +kernel
theorem dX2_bitsOfShare_26 : decode cX2_bitsOfShare 26 = .ok (.dload 4, 2) := by decide +kernel
theorem dX2_bitsOfShare_28 : decode cX2_bitsOfShare 28 = .ok (.dconst 1, 1) := by decide +kernel
theorem dX2_bitsOfShare_29 : decode cX2_bitsOfShare 29 = .ok (.dcmp .g, 1) := by decide +kernel
theorem dX2_bitsOfShare_30 : decode cX2_bitsOfShare 30 = .ok (.ifCond .ge 21, 3) := by decide +kernel
theorem dX2_bitsOfShare_33 : decode cX2_bitsOfShare 33 = .ok (.dload 4, 2) := by decide +kernel
theorem dX2_bitsOfShare_35 : decode cX2_bitsOfShare 35 = .ok (.ldc2_w 264, 3) := by decide +kernel
theorem dX2_bitsOfShare_38 : decode cX2_bitsOfShare 38 = .ok (.dmul, 1) := by decide +kernel
theorem dX2_bitsOfShare_39 : decode cX2_bitsOfShare 39 = .ok (.dstore 4, 2) := by decide +kernel
theorem dX2_bitsOfShare_41 : decode cX2_bitsOfShare 41 = .ok (.lload_n 2, 1) := by decide +kernel
theorem dX2_bitsOfShare_42 : decode cX2_bitsOfShare 42 = .ok (.lconst 1, 1) := by decide +kernel
theorem dX2_bitsOfShare_43 : decode cX2_bitsOfShare 43 = .ok (.lsub, 1) := by decide +kernel
theorem dX2_bitsOfShare_44 : decode cX2_bitsOfShare 44 = .ok (.lstore_n 2, 1) := by decide +kernel
theorem dX2_bitsOfShare_45 : decode cX2_bitsOfShare 45 = .ok (.iinc 6 1, 3) := by decide +kernel
theorem dX2_bitsOfShare_48 : decode cX2_bitsOfShare 48 = .ok (.goto (-30), 3) := by decide +kernel
theorem dX2_bitsOfShare_51 : decode cX2_bitsOfShare 51 = .ok (.lload_n 2, 1) := by decide +kernel
theorem dX2_bitsOfShare_52 : decode cX2_bitsOfShare 52 = .ok (.bipush 52, 2) := by decide +kernel
theorem dX2_bitsOfShare_54 : decode cX2_bitsOfShare 54 = .ok (.lshl, 1) := by decide +kernel
theorem dX2_bitsOfShare_55 : decode cX2_bitsOfShare 55 = .ok (.dload 4, 2) := by decide +kernel
theorem dX2_bitsOfShare_57 : decode cX2_bitsOfShare 57 = .ok (.dconst 1, 1) := by decide +kernel
theorem dX2_bitsOfShare_58 : decode cX2_bitsOfShare 58 = .ok (.dsub, 1) := by decide +kernel
theorem dX2_bitsOfShare_59 : decode cX2_bitsOfShare 59 = .ok (.ldc2_w 266, 3) := by decide +kernel
theorem dX2_bitsOfShare_62 : decode cX2_bitsOfShare 62 = .ok (.dmul, 1) := by decide +kernel
theorem dX2_bitsOfShare_63 : decode cX2_bitsOfShare 63 = .ok (.d2l, 1) := by decide +kernel
theorem dX2_bitsOfShare_64 : decode cX2_bitsOfShare 64 = .ok (.ladd, 1) := by decide +kernel
theorem dX2_bitsOfShare_65 : decode cX2_bitsOfShare 65 = .ok (.lreturn, 1) := by decide +kernel
abbrev zX2_bitsOfShare : List Cond := .code yX2_bitsOfShare cX2_bitsOfShare 7 (some .long) :: BIG
def fX2_bitsOfShare_j51   (v51 : Int64 × UInt64) : Option (Int64) := gd (nn64 (FP.dsub v51.2 FP.dconst1)) (gd (nn64 (FP.dmul (FP.dsub v51.2 FP.dconst1) 4841369599423283200)) (some ((v51.1 <<< ((52 : Int32).toInt64 &&& 63)) + (FP.d2l (FP.dmul (FP.dsub v51.2 FP.dconst1) 4841369599423283200)))))
def fX2_bitsOfShare_l18   (K18 : (Int64 × UInt64 × Int32) → Option (Int64)) (v18 : Int64 × UInt64 × Int32) : Option (Int64) := (if 1022 ≤ v18.2.2 then fX2_bitsOfShare_j51 (v18.1, v18.2.1) else (if 0 ≤ (Op.cmpValue (FP.dcmp v18.2.1 FP.dconst1) CmpOp.g) then fX2_bitsOfShare_j51 (v18.1, v18.2.1) else gd (nn64 (FP.dmul v18.2.1 4611686018427387904)) (K18 (v18.1 - 1, FP.dmul v18.2.1 4611686018427387904, v18.2.2 + 1))))
def fX2_bitsOfShare (x : UInt64) : Option (Int64) := (if 0 < (Op.cmpValue (FP.dcmp x FP.dconst0) CmpOp.g) then lp (fX2_bitsOfShare_l18) 2000 (1023, x, 0) else some 0)
set_option maxHeartbeats 4000000 in
set_option maxRecDepth 100000 in
theorem mtX2_bitsOfShare (l : Launch) (D : va_G) (t : Nat → ClassId) (x : UInt64) (out : Int64) (h : fX2_bitsOfShare x = some out)  (sz : Nat) : Met l yX2_bitsOfShare zX2_bitsOfShare ({ frames := 0, cells := 0, slots := 0, locals := 0 }) (sPc D t ([] : va_W) sz [.double x]) (qJ D t ([] : va_W) out (va_A ([] : va_W) sz)) 0 0 (va_A ([] : va_W) sz) := by
  refine met_of (Qf := fun A => qJ D t ([] : va_W) out A) (cc := cX2_bitsOfShare) (maxL := 7) (ret := some .long) (by decide) rfl (Nat.le_of_ble_eq_true rfl) ?_
  intro p e s m args below meth c A hx hb hr hml hts hown hlocks hA hP hK hD hE hS ls hl
  have htB : ∀ w ∈ BIG, w.before args s = true := fun w h => hts w (List.mem_cons_of_mem _ h)
  have hown : s.vm.findClass RX2 = some m.cls := hown
  have hl : lv_has ls 7 [(0, .double x)] := hl
  unfold fX2_bitsOfShare at h
  have J51 : ∀ v51 : Int64 × UInt64, fX2_bitsOfShare_j51 v51 = some out → ∀ (H : Heap) (locs : List Loc), va_P D vwCl ([] : va_W) H → va_D A ([] : va_W) → va_S A s.heap H locs → ∀ ls : Array Slot, lv_has ls 7 [(2, .long v51.1), (4, .double v51.2)] → W p l e ({ frames := 0, cells := 0, slots := 0, locals := 0 }) s m args below meth c H locs 0 0 (MQ below (qJ D t ([] : va_W) out A) args s 0 0 A) (F0 m 51 ls []) := by
    intro v51 h H locs hP hD hS ls hl
    unfold fX2_bitsOfShare_j51 at h
    refine lv_lload_n hx hb dX2_bitsOfShare_51 rfl (lv_at hl 0 rfl) ?_
    refine lv_bipush (v := 52) hx hb dX2_bitsOfShare_52 (by decide) ?_
    refine lv_lshl (v := v51.1 <<< ((52 : Int32).toInt64 &&& 63)) hx hb dX2_bitsOfShare_54 rfl ?_
    refine lv_dload hx hb dX2_bitsOfShare_55 (lv_at hl 1 rfl) ?_
    refine lv_dconst1 hx hb dX2_bitsOfShare_57 ?_
    obtain ⟨g5, h⟩ := og h
    refine lv_dsub hx hb dX2_bitsOfShare_58 (nn_n64 g5) ?_
    refine lv_ldc2d (v := 4841369599423283200) hx hb hown (htB _ kw632) dX2_bitsOfShare_59 ?_
    obtain ⟨g6, h⟩ := og h
    refine lv_dmul hx hb dX2_bitsOfShare_62 (nn_n64 g6) ?_
    refine lv_d2l hx hb dX2_bitsOfShare_63 ?_
    refine lv_ladd hx hb dX2_bitsOfShare_64 ?_
    obtain rfl := os h
    exact ret_j hx hb hr hlocks hP hK hD hS dX2_bitsOfShare_65
  have J18 : ∀ (fu18 : Nat) (v18 : Int64 × UInt64 × Int32), lp (fX2_bitsOfShare_l18) fu18 v18 = some out → ∀ (H : Heap) (locs : List Loc), va_P D vwCl ([] : va_W) H → va_D A ([] : va_W) → va_S A s.heap H locs → ∀ ls : Array Slot, lv_has ls 7 [(2, .long v18.1), (4, .double v18.2.1), (6, .int v18.2.2)] → W p l e ({ frames := 0, cells := 0, slots := 0, locals := 0 }) s m args below meth c H locs 0 0 (MQ below (qJ D t ([] : va_W) out A) args s 0 0 A) (F0 m 18 ls []) := by
    intro fu18
    induction fu18 with
    | zero => intro v18 h; cases h
    | succ fu18 ih18 =>
      intro v18 h H locs hP hD hS ls hl
      have h : fX2_bitsOfShare_l18 (lp (fX2_bitsOfShare_l18) fu18) v18 = some out := h
      unfold fX2_bitsOfShare_l18 at h
      refine lv_iload hx hb dX2_bitsOfShare_18 (lv_at hl 2 rfl) ?_
      refine lv_sipush (v := 1022) hx hb dX2_bitsOfShare_20 (by decide) ?_
      refine lv_icmp_ge (tgt := 51) hx hb dX2_bitsOfShare_23 (by decide) (fun c2 => ?_) (fun c2 => ?_)
      · have h := it_p c2 h
        exact J51 (v18.1, v18.2.1) h _ _ hP hD hS _ (lv_sub hl [0, 1] rfl)
      · have h := it_n c2 h
        refine lv_dload hx hb dX2_bitsOfShare_26 (lv_at hl 1 rfl) ?_
        refine lv_dconst1 hx hb dX2_bitsOfShare_28 ?_
        refine lv_dcmp hx hb dX2_bitsOfShare_29 ?_
        refine lv_if_ge (tgt := 51) hx hb dX2_bitsOfShare_30 (by decide) (fun c3 => ?_) (fun c3 => ?_)
        · have h := it_p c3 h
          exact J51 (v18.1, v18.2.1) h _ _ hP hD hS _ (lv_sub hl [0, 1] rfl)
        · have h := it_n c3 h
          refine lv_dload hx hb dX2_bitsOfShare_33 (lv_at hl 1 rfl) ?_
          refine lv_ldc2d (v := 4611686018427387904) hx hb hown (htB _ kw631) dX2_bitsOfShare_35 ?_
          obtain ⟨g4, h⟩ := og h
          refine lv_dmul hx hb dX2_bitsOfShare_38 (nn_n64 g4) ?_
          refine lv_dstore (lv' := [(4, .double (FP.dmul v18.2.1 4611686018427387904)), (2, .long v18.1), (6, .int v18.2.2)]) hx hb dX2_bitsOfShare_39 hl (by decide) rfl (fun ls hl => ?_)
          refine lv_lload_n hx hb dX2_bitsOfShare_41 rfl (lv_at hl 1 rfl) ?_
          refine lv_lconst (v := 1) hx hb dX2_bitsOfShare_42 (by decide) ?_
          refine lv_lsub hx hb dX2_bitsOfShare_43 ?_
          refine lv_lstore_n (lv' := [(2, .long (v18.1 - 1)), (4, .double (FP.dmul v18.2.1 4611686018427387904)), (6, .int v18.2.2)]) hx hb dX2_bitsOfShare_44 rfl hl (by decide) rfl (fun ls hl => ?_)
          refine lv_iinc (v := v18.2.2 + 1) (lv' := [(6, .int (v18.2.2 + 1)), (2, .long (v18.1 - 1)), (4, .double (FP.dmul v18.2.1 4611686018427387904))]) hx hb dX2_bitsOfShare_45 hl (k := 2) rfl rfl (by decide) rfl (fun ls hl => ?_)
          refine lv_goto (tgt := 18) hx hb dX2_bitsOfShare_48 (by decide) ?_
          exact ih18 (v18.1 - 1, FP.dmul v18.2.1 4611686018427387904, v18.2.2 + 1) h _ _ hP hD hS _ (lv_sub hl [1, 2, 0] rfl)
  refine lv_dload_n hx hb dX2_bitsOfShare_0 rfl (lv_at hl 0 rfl) ?_
  refine lv_dconst0 hx hb dX2_bitsOfShare_1 ?_
  refine lv_dcmp hx hb dX2_bitsOfShare_2 ?_
  refine lv_if_gt (tgt := 8) hx hb dX2_bitsOfShare_3 (by decide) (fun c1 => ?_) (fun c1 => ?_)
  · have h := it_p c1 h
    refine lv_ldc2 (v := 1023) hx hb hown (htB _ kw630) dX2_bitsOfShare_8 ?_
    refine lv_lstore_n (lv' := [(2, .long 1023), (0, .double x)]) hx hb dX2_bitsOfShare_11 rfl hl (by decide) rfl (fun ls hl => ?_)
    refine lv_dload_n hx hb dX2_bitsOfShare_12 rfl (lv_at hl 1 rfl) ?_
    refine lv_dstore (lv' := [(4, .double x), (2, .long 1023), (0, .double x)]) hx hb dX2_bitsOfShare_13 hl (by decide) rfl (fun ls hl => ?_)
    refine lv_iconst (v := 0) hx hb dX2_bitsOfShare_15 (by decide) ?_
    refine lv_istore (lv' := [(6, .int 0), (4, .double x), (2, .long 1023), (0, .double x)]) hx hb dX2_bitsOfShare_16 hl (by decide) rfl (fun ls hl => ?_)
    exact J18 2000 (1023, x, 0) h _ _ hP hD hS _ (lv_sub hl [2, 1, 0] rfl)
  · have h := it_n c1 h
    refine lv_lconst (v := 0) hx hb dX2_bitsOfShare_6 (by decide) ?_
    obtain rfl := os h
    exact ret_j hx hb hr hlocks hP hK hD hS dX2_bitsOfShare_7

theorem dX2_mix_0 : decode cX2_mix 0 = .ok (.ldc2_w 260, 3) := by decide +kernel
theorem dX2_mix_3 : decode cX2_mix 3 = .ok (.lload_n 0, 1) := by decide +kernel
theorem dX2_mix_4 : decode cX2_mix 4 = .ok (.lmul, 1) := by decide +kernel
theorem dX2_mix_5 : decode cX2_mix 5 = .ok (.lload_n 2, 1) := by decide +kernel
theorem dX2_mix_6 : decode cX2_mix 6 = .ok (.ladd, 1) := by decide +kernel
theorem dX2_mix_7 : decode cX2_mix 7 = .ok (.lreturn, 1) := by decide +kernel
abbrev zX2_mix : List Cond := .code yX2_mix cX2_mix 4 (some .long) :: BIG
def fX2_mix (x : Int64) (y : Int64) : Option (Int64) := some ((31 * x) + y)
set_option maxHeartbeats 4000000 in
set_option maxRecDepth 100000 in
theorem mtX2_mix (l : Launch) (D : va_G) (t : Nat → ClassId) (x : Int64) (y : Int64) (out : Int64) (h : fX2_mix x y = some out)  (sz : Nat) : Met l yX2_mix zX2_mix ({ frames := 0, cells := 0, slots := 0, locals := 0 }) (sPc D t ([] : va_W) sz [.long x, .long y]) (qJ D t ([] : va_W) out (va_A ([] : va_W) sz)) 0 0 (va_A ([] : va_W) sz) := by
  refine met_of (Qf := fun A => qJ D t ([] : va_W) out A) (cc := cX2_mix) (maxL := 4) (ret := some .long) (by decide) rfl (Nat.le_of_ble_eq_true rfl) ?_
  intro p e s m args below meth c A hx hb hr hml hts hown hlocks hA hP hK hD hE hS ls hl
  have htB : ∀ w ∈ BIG, w.before args s = true := fun w h => hts w (List.mem_cons_of_mem _ h)
  have hown : s.vm.findClass RX2 = some m.cls := hown
  have hl : lv_has ls 4 [(0, .long x), (2, .long y)] := hl
  unfold fX2_mix at h
  refine lv_ldc2 (v := 31) hx hb hown (htB _ kw605) dX2_mix_0 ?_
  refine lv_lload_n hx hb dX2_mix_3 rfl (lv_at hl 0 rfl) ?_
  refine lv_lmul hx hb dX2_mix_4 ?_
  refine lv_lload_n hx hb dX2_mix_5 rfl (lv_at hl 1 rfl) ?_
  refine lv_ladd hx hb dX2_mix_6 ?_
  obtain rfl := os h
  exact ret_j hx hb hr hlocks hP hK hD hS dX2_mix_7
end
section
theorem dX2_wind_0 : decode cX2_wind 0 = .ok (.iload_n 1, 1) := by decide +kernel
theorem dX2_wind_1 : decode cX2_wind 1 = .ok (.invokestatic 44, 3) := by decide +kernel
theorem dX2_wind_4 : decode cX2_wind 4 = .ok (.iload_n 2, 1) := by decide +kernel
theorem dX2_wind_5 : decode cX2_wind 5 = .ok (.iconst 1, 1) := by decide +kernel
theorem dX2_wind_6 : decode cX2_wind 6 = .ok (.bipush 99, 2) := by decide +kernel
theorem dX2_wind_8 : decode cX2_wind 8 = .ok (.invokestatic 48, 3) := by decide +kernel
theorem dX2_wind_11 : decode cX2_wind 11 = .ok (.aload_n 0, 1) := by decide +kernel
theorem dX2_wind_12 : decode cX2_wind 12 = .ok (.invokevirtual 52, 3) := by decide +kernel
theorem dX2_wind_15 : decode cX2_wind 15 = .ok (.aload_n 0, 1) := by decide +kernel
theorem dX2_wind_16 : decode cX2_wind 16 = .ok (.getfield 10, 3) := by decide +kernel
theorem dX2_wind_19 : decode cX2_wind 19 = .ok (.getfield 55, 3) := by decide +kernel
theorem dX2_wind_22 : decode cX2_wind 22 = .ok (.iload_n 1, 1) := by decide +kernel
theorem dX2_wind_23 : decode cX2_wind 23 = .ok (.invokestatic 58, 3) := by decide +kernel
theorem dX2_wind_26 : decode cX2_wind 26 = .ok (.istore_n 3, 1) := by decide +kernel
theorem dX2_wind_27 : decode cX2_wind 27 = .ok (.aload_n 0, 1) := by decide +kernel
theorem dX2_wind_28 : decode cX2_wind 28 = .ok (.getfield 10, 3) := by decide +kernel
theorem dX2_wind_31 : decode cX2_wind 31 = .ok (.getfield 55, 3) := by decide +kernel
theorem dX2_wind_34 : decode cX2_wind 34 = .ok (.iload_n 1, 1) := by decide +kernel
theorem dX2_wind_35 : decode cX2_wind 35 = .ok (.iload_n 2, 1) := by decide +kernel
theorem dX2_wind_36 : decode cX2_wind 36 = .ok (.invokestatic 62, 3) := by decide +kernel
theorem dX2_wind_39 : decode cX2_wind 39 = .ok (.iload_n 3, 1) := by decide +kernel
theorem dX2_wind_40 : decode cX2_wind 40 = .ok (.ireturn, 1) := by decide +kernel
abbrev zX2_wind : List Cond := .code yX2_wind cX2_wind 4 (some .int) :: BIG
def fX2_wind (bo : BoT) (now : ShT) (sv : (Nat → ShT)) (cu : Int32) (sp : Int32) : Option (Nat ⊕ (Int32 × BoT × ShT × (Nat → ShT))) := tb (fX2_needCurtain cu) (fun r1 => tb (fX2_needRange sp 1 99) (fun r2 => (fX2_saveState bo now sv).bind (fun r3 => (fX2_at 2 now.1 cu).bind (fun r4 => (fX2_put 2 now.1 cu sp).bind (fun r5 => some (.inr (r4, r3.1, (r5, now.2.1, now.2.2.1, now.2.2.2.1, now.2.2.2.2.1, now.2.2.2.2.2.1, now.2.2.2.2.2.2.1, now.2.2.2.2.2.2.2.1, now.2.2.2.2.2.2.2.2.1, now.2.2.2.2.2.2.2.2.2), r3.2)))))))
set_option maxHeartbeats 4000000 in
set_option maxRecDepth 100000 in
theorem mtX2_wind (l : Launch) (D : va_G) (t : Nat → ClassId) (bh : Nat) (bk : Nat → Nat) (bo : BoT) (nb : Nat → Nat) (now : ShT) (sa : Nat → Nat) (sb : Nat → Nat → Nat) (sv : (Nat → ShT)) (cu : Int32) (sp : Int32) (out : Int32 × BoT × ShT × (Nat → ShT)) (h : fX2_wind bo now sv cu sp = some (.inr out))  (sz : Nat) : Met l yX2_wind zX2_wind ({ frames := 3, cells := 0, slots := 0, locals := 64 }) (sPc D t (gBo bh bk bo ++ (gS t (bk 0) nb now ++ (gQ t (bk 3) sa ++ (g6 t sa sb sv)))) sz [.ref bh, .int cu, .int sp]) (qI D t (gBo bh bk out.2.1 ++ (gS t (bk 0) nb out.2.2.1 ++ (gQ t (bk 3) sa ++ (g6 t sa sb out.2.2.2)))) out.1 (va_A (gBo bh bk bo ++ (gS t (bk 0) nb now ++ (gQ t (bk 3) sa ++ (g6 t sa sb sv)))) sz)) 0 0 (va_A (gBo bh bk bo ++ (gS t (bk 0) nb now ++ (gQ t (bk 3) sa ++ (g6 t sa sb sv)))) sz) := by
  refine met_of (Qf := fun A => qI D t (gBo bh bk out.2.1 ++ (gS t (bk 0) nb out.2.2.1 ++ (gQ t (bk 3) sa ++ (g6 t sa sb out.2.2.2)))) out.1 A) (cc := cX2_wind) (maxL := 4) (ret := some .int) (by decide) rfl (Nat.le_of_ble_eq_true rfl) ?_
  intro p e s m args below meth c A hx hb hr hml hts hown hlocks hA hP hK hD hE hS ls hl
  have htB : ∀ w ∈ BIG, w.before args s = true := fun w h => hts w (List.mem_cons_of_mem _ h)
  have hown : s.vm.findClass RX2 = some m.cls := hown
  have hl : lv_has ls 4 [(0, .ref bh), (1, .int cu), (2, .int sp)] := hl
  unfold fX2_wind at h
  refine lv_iload_n hx hb dX2_wind_0 rfl (lv_at hl 1 rfl) ?_
  obtain ⟨r1, h1, h⟩ := tb_r h
  refine call_v (wc := ([] : va_W)) (wc' := ([] : va_W)) (ws' := (gBo bh bk bo ++ (gS t (bk 0) nb now ++ (gQ t (bk 3) sa ++ (g6 t sa sb sv))))) (cutB (bs := [gBo bh bk bo, gS t (bk 0) nb now, gQ t (bk 3) sa, g6 t sa sb sv]) (cs := []) (cs' := []) (bs' := [gBo bh bk bo, gS t (bk 0) nb now, gQ t (bk 3) sa, g6 t sa sb sv]) [] hP hD hS hA rfl rfl rfl rfl) hS (fun hPc hDc => va_runS (As := [.int cu]) (rest := []) ⟨hx, hb, hml, hown, hts⟩ (mtX2_needCurtain l D t cu r1 h1 _) (va_cwS 1 hts (gBS kw73 kw74 kw2 kw75) rfl rfl rfl (by decide +kernel) ⟨Nat.le_of_ble_eq_true rfl, Nat.le_of_ble_eq_true rfl⟩) (sPc_S hPc hK hDc hE) rfl rfl hl.1 rfl (lv_room (Nat.le_of_ble_eq_true rfl)) dX2_wind_1 ⟨Nat.zero_le _, Nat.zero_le _⟩) (fun H locs hP hD hS => ?_)
  refine lv_iload_n hx hb dX2_wind_4 rfl (lv_at hl 2 rfl) ?_
  refine lv_iconst (v := 1) hx hb dX2_wind_5 (by decide) ?_
  refine lv_bipush (v := 99) hx hb dX2_wind_6 (by decide) ?_
  obtain ⟨r2, h2, h⟩ := tb_r h
  refine call_v (wc := ([] : va_W)) (wc' := ([] : va_W)) (ws' := (gBo bh bk bo ++ (gS t (bk 0) nb now ++ (gQ t (bk 3) sa ++ (g6 t sa sb sv))))) (cutB (bs := [gBo bh bk bo, gS t (bk 0) nb now, gQ t (bk 3) sa, g6 t sa sb sv]) (cs := []) (cs' := []) (bs' := [gBo bh bk bo, gS t (bk 0) nb now, gQ t (bk 3) sa, g6 t sa sb sv]) [] hP hD hS hA rfl rfl rfl rfl) hS (fun hPc hDc => va_runS (As := [.int sp, .int 1, .int 99]) (rest := []) ⟨hx, hb, hml, hown, hts⟩ (mtX2_needRange l D t sp 1 99 r2 h2 _) (va_cwS 3 hts (gBS kw81 kw82 kw2 kw83) rfl rfl rfl (by decide +kernel) ⟨Nat.le_of_ble_eq_true rfl, Nat.le_of_ble_eq_true rfl⟩) (sPc_S hPc hK hDc hE) rfl rfl hl.1 rfl (lv_room (Nat.le_of_ble_eq_true rfl)) dX2_wind_8 ⟨Nat.zero_le _, Nat.zero_le _⟩) (fun H locs hP hD hS => ?_)
  refine lv_aload_n hx hb dX2_wind_11 rfl (lv_at hl 0 rfl) ?_
  obtain ⟨r3, h3, h⟩ := ob h
  refine call_v (wc := (gBo bh bk bo ++ (gS t (bk 0) nb now ++ (gQ t (bk 3) sa ++ (g6 t sa sb sv))))) (wc' := (gBo bh bk r3.1 ++ (gS t (bk 0) nb now ++ (gQ t (bk 3) sa ++ (g6 t sa sb r3.2))))) (ws' := (gBo bh bk r3.1 ++ (gS t (bk 0) nb now ++ (gQ t (bk 3) sa ++ (g6 t sa sb r3.2))))) (cutB (bs := [gBo bh bk bo, gS t (bk 0) nb now, gQ t (bk 3) sa, g6 t sa sb sv]) (cs := [gBo bh bk bo, gS t (bk 0) nb now, gQ t (bk 3) sa, g6 t sa sb sv]) (cs' := [gBo bh bk r3.1, gS t (bk 0) nb now, gQ t (bk 3) sa, g6 t sa sb r3.2]) (bs' := [gBo bh bk r3.1, gS t (bk 0) nb now, gQ t (bk 3) sa, g6 t sa sb r3.2]) [0, 1, 2, 3] hP hD hS hA rfl rfl rfl rfl) hS (fun hPc hDc => va_runV (As := []) (rest := []) ⟨hx, hb, hml, hown, hts⟩ (mtX2_saveState l D t bh bk bo nb now sa sb sv r3 h3 _) (cwV 0 hts (gBV kw86 kw87 kw88 kw2 kw89) rfl rfl rfl (by decide +kernel) ⟨Nat.le_of_ble_eq_true rfl, Nat.le_of_ble_eq_true rfl⟩) (sPc_V hPc hK hDc hE (va_recv hK hP (ci := 2) (q0 := 0) rfl rfl)) rfl rfl hl.1 rfl (lv_room (Nat.le_of_ble_eq_true rfl)) dX2_wind_12 ⟨Nat.zero_le _, Nat.zero_le _⟩) (fun H locs hP hD hS => ?_)
  refine lv_aload_n hx hb dX2_wind_15 rfl (lv_at hl 0 rfl) ?_
  refine va_get (D := D) (ci := 2) (v := .ref (bk 0)) (C := RX2) (T := TX2) (N := 8) hx hb htB inlX2 hown hK hP 0 rfl rfl 0 (by decide) (htB _ kw17) (fun _ h9 => h9) rfl dX2_wind_16 ?_
  refine va_get (D := D) (ci := 1) (v := .ref (nb 0)) (C := RX1) (T := TX1) (N := 10) hx hb htB inlX1 hown hK hP 1 rfl rfl 0 (by decide) (htB _ kw72) (fun _ h9 => h9) rfl dX2_wind_19 ?_
  refine lv_iload_n hx hb dX2_wind_22 rfl (lv_at hl 1 rfl) ?_
  obtain ⟨r4, h4, h⟩ := ob h
  refine call_i (v := r4) (wc := (gA t (nb 0) 2 now.1)) (wc' := (gA t (nb 0) 2 now.1)) (ws' := (gBo bh bk r3.1 ++ (gS t (bk 0) nb now ++ (gQ t (bk 3) sa ++ (g6 t sa sb r3.2))))) (cutI (wc := (gA t (nb 0) 2 now.1)) (wc' := (gA t (nb 0) 2 now.1)) (ws' := (gBo bh bk r3.1 ++ (gS t (bk 0) nb now ++ (gQ t (bk 3) sa ++ (g6 t sa sb r3.2))))) [2] hP hD hS hA rfl rfl rfl rfl) hS (fun hPc hDc => va_runS (As := [.ref (nb 0), .int cu]) (rest := []) ⟨hx, hb, hml, hown, hts⟩ (mtX2_at l D t (nb 0) 2 now.1 cu r4 h4 (by decide) _) (va_cwS 2 hts (gBS kw104 kw105 kw2 kw106) rfl rfl rfl (by decide +kernel) ⟨Nat.le_of_ble_eq_true rfl, Nat.le_of_ble_eq_true rfl⟩) (sPc_S hPc hK hDc hE) rfl rfl hl.1 rfl (lv_room (Nat.le_of_ble_eq_true rfl)) dX2_wind_23 ⟨Nat.zero_le _, Nat.zero_le _⟩) (fun H locs hP hD hS => ?_)
  refine lv_istore_n (lv' := [(3, .int r4), (0, .ref bh), (1, .int cu), (2, .int sp)]) hx hb dX2_wind_26 rfl hl (by decide) rfl (fun ls hl => ?_)
  refine lv_aload_n hx hb dX2_wind_27 rfl (lv_at hl 1 rfl) ?_
  refine va_get (D := D) (ci := 2) (v := .ref (bk 0)) (C := RX2) (T := TX2) (N := 8) hx hb htB inlX2 hown hK hP 0 rfl rfl 0 (by decide) (htB _ kw17) (fun _ h9 => h9) rfl dX2_wind_28 ?_
  refine va_get (D := D) (ci := 1) (v := .ref (nb 0)) (C := RX1) (T := TX1) (N := 10) hx hb htB inlX1 hown hK hP 1 rfl rfl 0 (by decide) (htB _ kw72) (fun _ h9 => h9) rfl dX2_wind_31 ?_
  refine lv_iload_n hx hb dX2_wind_34 rfl (lv_at hl 2 rfl) ?_
  refine lv_iload_n hx hb dX2_wind_35 rfl (lv_at hl 3 rfl) ?_
  obtain ⟨r5, h5, h⟩ := ob h
  refine call_v (wc := (gA t (nb 0) 2 now.1)) (wc' := (gA t (nb 0) 2 r5)) (ws' := (gBo bh bk r3.1 ++ (gS t (bk 0) nb (r5, now.2.1, now.2.2.1, now.2.2.2.1, now.2.2.2.2.1, now.2.2.2.2.2.1, now.2.2.2.2.2.2.1, now.2.2.2.2.2.2.2.1, now.2.2.2.2.2.2.2.2.1, now.2.2.2.2.2.2.2.2.2) ++ (gQ t (bk 3) sa ++ (g6 t sa sb r3.2))))) (cutI (wc := (gA t (nb 0) 2 now.1)) (wc' := (gA t (nb 0) 2 r5)) (ws' := (gBo bh bk r3.1 ++ (gS t (bk 0) nb (r5, now.2.1, now.2.2.1, now.2.2.2.1, now.2.2.2.2.1, now.2.2.2.2.2.1, now.2.2.2.2.2.2.1, now.2.2.2.2.2.2.2.1, now.2.2.2.2.2.2.2.2.1, now.2.2.2.2.2.2.2.2.2) ++ (gQ t (bk 3) sa ++ (g6 t sa sb r3.2))))) [2] hP hD hS hA rfl rfl rfl rfl) hS (fun hPc hDc => va_runS (As := [.ref (nb 0), .int cu, .int sp]) (rest := []) ⟨hx, hb, hml, hown, hts⟩ (mtX2_put l D t (nb 0) 2 now.1 cu sp r5 h5 (by decide) _) (va_cwS 3 hts (gBS kw107 kw108 kw2 kw109) rfl rfl rfl (by decide +kernel) ⟨Nat.le_of_ble_eq_true rfl, Nat.le_of_ble_eq_true rfl⟩) (sPc_S hPc hK hDc hE) rfl rfl hl.1 rfl (lv_room (Nat.le_of_ble_eq_true rfl)) dX2_wind_36 ⟨Nat.zero_le _, Nat.zero_le _⟩) (fun H locs hP hD hS => ?_)
  refine lv_iload_n hx hb dX2_wind_39 rfl (lv_at hl 0 rfl) ?_
  obtain rfl := oi h
  exact ret_i hx hb hr hlocks hP hK hD hS dX2_wind_40

theorem dX2_drag_0 : decode cX2_drag 0 = .ok (.iload_n 1, 1) := by decide +kernel
theorem dX2_drag_1 : decode cX2_drag 1 = .ok (.invokestatic 44, 3) := by decide +kernel
theorem dX2_drag_4 : decode cX2_drag 4 = .ok (.iload_n 2, 1) := by decide +kernel
theorem dX2_drag_5 : decode cX2_drag 5 = .ok (.iconst 0, 1) := by decide +kernel
theorem dX2_drag_6 : decode cX2_drag 6 = .ok (.bipush 23, 2) := by decide +kernel
theorem dX2_drag_8 : decode cX2_drag 8 = .ok (.invokestatic 48, 3) := by decide +kernel
theorem dX2_drag_11 : decode cX2_drag 11 = .ok (.iload_n 3, 1) := by decide +kernel
theorem dX2_drag_12 : decode cX2_drag 12 = .ok (.iload_n 2, 1) := by decide +kernel
theorem dX2_drag_13 : decode cX2_drag 13 = .ok (.bipush 23, 2) := by decide +kernel
theorem dX2_drag_15 : decode cX2_drag 15 = .ok (.invokestatic 48, 3) := by decide +kernel
theorem dX2_drag_18 : decode cX2_drag 18 = .ok (.iload 4, 2) := by decide +kernel
theorem dX2_drag_20 : decode cX2_drag 20 = .ok (.iconst 0, 1) := by decide +kernel
theorem dX2_drag_21 : decode cX2_drag 21 = .ok (.bipush 50, 2) := by decide +kernel
theorem dX2_drag_23 : decode cX2_drag 23 = .ok (.invokestatic 48, 3) := by decide +kernel
theorem dX2_drag_26 : decode cX2_drag 26 = .ok (.aload_n 0, 1) := by decide +kernel
theorem dX2_drag_27 : decode cX2_drag 27 = .ok (.invokevirtual 52, 3) := by decide +kernel
theorem dX2_drag_30 : decode cX2_drag 30 = .ok (.aload_n 0, 1) := by decide +kernel
theorem dX2_drag_31 : decode cX2_drag 31 = .ok (.getfield 10, 3) := by decide +kernel
theorem dX2_drag_34 : decode cX2_drag 34 = .ok (.iload_n 1, 1) := by decide +kernel
theorem dX2_drag_35 : decode cX2_drag 35 = .ok (.invokevirtual 66, 3) := by decide +kernel
theorem dX2_drag_38 : decode cX2_drag 38 = .ok (.astore 5, 2) := by decide +kernel
theorem dX2_drag_40 : decode cX2_drag 40 = .ok (.iconst 0, 1) := by decide +kernel
theorem dX2_drag_41 : decode cX2_drag 41 = .ok (.istore 6, 2) := by decide +kernel
theorem dX2_drag_43 : decode cX2_drag 43 = .ok (.iload_n 2, 1) := by decide +kernel
theorem dX2_drag_44 : decode cX2_drag 44 = .ok (.istore 7, 2) := by decide +kernel
theorem dX2_drag_46 : decode cX2_drag 46 = .ok (.iload 7, 2) := by decide +kernel
theorem dX2_drag_48 : decode cX2_drag 48 = .ok (.iload_n 3, 1) := by decide +kernel
theorem dX2_drag_49 : decode cX2_drag 49 = .ok (.if_icmp .gt 40, 3) := by decide +kernel
theorem dX2_drag_52 : decode cX2_drag 52 = .ok (.iload 7, 2) := by decide +kernel
theorem dX2_drag_54 : decode cX2_drag 54 = .ok (.bipush 24, 2) := by decide +kernel
theorem dX2_drag_56 : decode cX2_drag 56 = .ok (.if_icmp .ge 33, 3) := by decide +kernel
theorem dX2_drag_59 : decode cX2_drag 59 = .ok (.aload 5, 2) := by decide +kernel
theorem dX2_drag_61 : decode cX2_drag 61 = .ok (.iload 7, 2) := by decide +kernel
theorem dX2_drag_63 : decode cX2_drag 63 = .ok (.invokestatic 58, 3) := by decide +kernel
theorem dX2_drag_66 : decode cX2_drag 66 = .ok (.iload 4, 2) := by decide +kernel
theorem dX2_drag_68 : decode cX2_drag 68 = .ok (.if_icmp .eq 15, 3) := by decide +kernel
theorem dX2_drag_71 : decode cX2_drag 71 = .ok (.aload 5, 2) := by decide +kernel
theorem dX2_drag_73 : decode cX2_drag 73 = .ok (.iload 7, 2) := by decide +kernel
theorem dX2_drag_75 : decode cX2_drag 75 = .ok (.iload 4, 2) := by decide +kernel
theorem dX2_drag_77 : decode cX2_drag 77 = .ok (.invokestatic 62, 3) := by decide +kernel
theorem dX2_drag_80 : decode cX2_drag 80 = .ok (.iinc 6 1, 3) := by decide +kernel
theorem dX2_drag_83 : decode cX2_drag 83 = .ok (.iinc 7 1, 3) := by decide +kernel
theorem dX2_drag_86 : decode cX2_drag 86 = .ok (.goto (-40), 3) := by decide +kernel
theorem dX2_drag_89 : decode cX2_drag 89 = .ok (.iload 6, 2) := by decide +kernel
theorem dX2_drag_91 : decode cX2_drag 91 = .ok (.ireturn, 1) := by decide +kernel
abbrev zX2_drag : List Cond := .code yX2_drag cX2_drag 8 (some .int) :: BIG
def fX2_drag_l46   (K46 : (BoT × ShT × (Nat → ShT) × Int32 × Int32 × Int32 × Int32) → Option (Nat ⊕ (Int32 × BoT × ShT × (Nat → ShT)))) (v46 : BoT × ShT × (Nat → ShT) × Int32 × Int32 × Int32 × Int32) : Option (Nat ⊕ (Int32 × BoT × ShT × (Nat → ShT))) := (if v46.2.2.2.1 < v46.2.2.2.2.2.2 then some (.inr (v46.2.2.2.2.2.1, v46.1, v46.2.1, v46.2.2.1)) else (if 24 ≤ v46.2.2.2.2.2.2 then some (.inr (v46.2.2.2.2.2.1, v46.1, v46.2.1, v46.2.2.1)) else (fX2_at 24 v46.2.1.2.2.1 v46.2.2.2.2.2.2).bind (fun r10 => (if r10 = v46.2.2.2.2.1 then K46 (v46.1, v46.2.1, v46.2.2.1, v46.2.2.2.1, v46.2.2.2.2.1, v46.2.2.2.2.2.1, v46.2.2.2.2.2.2 + 1) else (fX2_put 24 v46.2.1.2.2.1 v46.2.2.2.2.2.2 v46.2.2.2.2.1).bind (fun r12 => K46 (v46.1, (v46.2.1.1, v46.2.1.2.1, r12, v46.2.1.2.2.2.1, v46.2.1.2.2.2.2.1, v46.2.1.2.2.2.2.2.1, v46.2.1.2.2.2.2.2.2.1, v46.2.1.2.2.2.2.2.2.2.1, v46.2.1.2.2.2.2.2.2.2.2.1, v46.2.1.2.2.2.2.2.2.2.2.2), v46.2.2.1, v46.2.2.2.1, v46.2.2.2.2.1, v46.2.2.2.2.2.1 + 1, v46.2.2.2.2.2.2 + 1))))))
def fX2_drag_l46_1   (K46_1 : (BoT × ShT × (Nat → ShT) × Int32 × Int32 × Int32 × Int32) → Option (Nat ⊕ (Int32 × BoT × ShT × (Nat → ShT)))) (v46_1 : BoT × ShT × (Nat → ShT) × Int32 × Int32 × Int32 × Int32) : Option (Nat ⊕ (Int32 × BoT × ShT × (Nat → ShT))) := (if v46_1.2.2.2.1 < v46_1.2.2.2.2.2.2 then some (.inr (v46_1.2.2.2.2.2.1, v46_1.1, v46_1.2.1, v46_1.2.2.1)) else (if 24 ≤ v46_1.2.2.2.2.2.2 then some (.inr (v46_1.2.2.2.2.2.1, v46_1.1, v46_1.2.1, v46_1.2.2.1)) else (fX2_at 24 v46_1.2.1.2.2.2.1 v46_1.2.2.2.2.2.2).bind (fun r15 => (if r15 = v46_1.2.2.2.2.1 then K46_1 (v46_1.1, v46_1.2.1, v46_1.2.2.1, v46_1.2.2.2.1, v46_1.2.2.2.2.1, v46_1.2.2.2.2.2.1, v46_1.2.2.2.2.2.2 + 1) else (fX2_put 24 v46_1.2.1.2.2.2.1 v46_1.2.2.2.2.2.2 v46_1.2.2.2.2.1).bind (fun r17 => K46_1 (v46_1.1, (v46_1.2.1.1, v46_1.2.1.2.1, v46_1.2.1.2.2.1, r17, v46_1.2.1.2.2.2.2.1, v46_1.2.1.2.2.2.2.2.1, v46_1.2.1.2.2.2.2.2.2.1, v46_1.2.1.2.2.2.2.2.2.2.1, v46_1.2.1.2.2.2.2.2.2.2.2.1, v46_1.2.1.2.2.2.2.2.2.2.2.2), v46_1.2.2.1, v46_1.2.2.2.1, v46_1.2.2.2.2.1, v46_1.2.2.2.2.2.1 + 1, v46_1.2.2.2.2.2.2 + 1))))))
def fX2_drag (bo : BoT) (now : ShT) (sv : (Nat → ShT)) (cu : Int32) (k1 : Int32) (k2 : Int32) (dr : Int32) : Option (Nat ⊕ (Int32 × BoT × ShT × (Nat → ShT))) := tb (fX2_needCurtain cu) (fun r1 => tb (fX2_needRange k1 0 23) (fun r2 => tb (fX2_needRange k2 k1 23) (fun r3 => tb (fX2_needRange dr 0 50) (fun r4 => (fX2_saveState bo now sv).bind (fun r5 => (fX1_dragsOf now cu).bind (fun r6 => (if cu = 0 then lp (fX2_drag_l46) 2000 (r5.1, now, r5.2, k2, dr, 0, k1) else lp (fX2_drag_l46_1) 2000 (r5.1, now, r5.2, k2, dr, 0, k1))))))))
set_option maxHeartbeats 4000000 in
set_option maxRecDepth 100000 in
theorem mtX2_drag (l : Launch) (D : va_G) (t : Nat → ClassId) (bh : Nat) (bk : Nat → Nat) (bo : BoT) (nb : Nat → Nat) (now : ShT) (sa : Nat → Nat) (sb : Nat → Nat → Nat) (sv : (Nat → ShT)) (cu : Int32) (k1 : Int32) (k2 : Int32) (dr : Int32) (out : Int32 × BoT × ShT × (Nat → ShT)) (h : fX2_drag bo now sv cu k1 k2 dr = some (.inr out))  (sz : Nat) : Met l yX2_drag zX2_drag ({ frames := 3, cells := 0, slots := 0, locals := 64 }) (sPc D t (gBo bh bk bo ++ (gS t (bk 0) nb now ++ (gQ t (bk 3) sa ++ (g6 t sa sb sv)))) sz [.ref bh, .int cu, .int k1, .int k2, .int dr]) (qI D t (gBo bh bk out.2.1 ++ (gS t (bk 0) nb out.2.2.1 ++ (gQ t (bk 3) sa ++ (g6 t sa sb out.2.2.2)))) out.1 (va_A (gBo bh bk bo ++ (gS t (bk 0) nb now ++ (gQ t (bk 3) sa ++ (g6 t sa sb sv)))) sz)) 0 0 (va_A (gBo bh bk bo ++ (gS t (bk 0) nb now ++ (gQ t (bk 3) sa ++ (g6 t sa sb sv)))) sz) := by
  refine met_of (Qf := fun A => qI D t (gBo bh bk out.2.1 ++ (gS t (bk 0) nb out.2.2.1 ++ (gQ t (bk 3) sa ++ (g6 t sa sb out.2.2.2)))) out.1 A) (cc := cX2_drag) (maxL := 8) (ret := some .int) (by decide) rfl (Nat.le_of_ble_eq_true rfl) ?_
  intro p e s m args below meth c A hx hb hr hml hts hown hlocks hA hP hK hD hE hS ls hl
  have htB : ∀ w ∈ BIG, w.before args s = true := fun w h => hts w (List.mem_cons_of_mem _ h)
  have hown : s.vm.findClass RX2 = some m.cls := hown
  have hl : lv_has ls 8 [(0, .ref bh), (1, .int cu), (2, .int k1), (3, .int k2), (4, .int dr)] := hl
  unfold fX2_drag at h
  have J46_1 : ∀ (fu46_1 : Nat) (v46_1 : BoT × ShT × (Nat → ShT) × Int32 × Int32 × Int32 × Int32), lp (fX2_drag_l46_1) fu46_1 v46_1 = some (.inr out) → ∀ (H : Heap) (locs : List Loc), va_P D vwCl (gBo bh bk v46_1.1 ++ (gS t (bk 0) nb v46_1.2.1 ++ (gQ t (bk 3) sa ++ (g6 t sa sb v46_1.2.2.1)))) H → va_D A (gBo bh bk v46_1.1 ++ (gS t (bk 0) nb v46_1.2.1 ++ (gQ t (bk 3) sa ++ (g6 t sa sb v46_1.2.2.1)))) → va_S A s.heap H locs → ∀ ls : Array Slot, lv_has ls 8 [(3, .int v46_1.2.2.2.1), (4, .int v46_1.2.2.2.2.1), (5, .ref (nb 3)), (6, .int v46_1.2.2.2.2.2.1), (7, .int v46_1.2.2.2.2.2.2)] → W p l e ({ frames := 3, cells := 0, slots := 0, locals := 64 }) s m args below meth c H locs 0 0 (MQ below (qI D t (gBo bh bk out.2.1 ++ (gS t (bk 0) nb out.2.2.1 ++ (gQ t (bk 3) sa ++ (g6 t sa sb out.2.2.2)))) out.1 A) args s 0 0 A) (F0 m 46 ls []) := by
    intro fu46_1
    induction fu46_1 with
    | zero => intro v46_1 h; cases h
    | succ fu46_1 ih46_1 =>
      intro v46_1 h H locs hP hD hS ls hl
      have h : fX2_drag_l46_1 (lp (fX2_drag_l46_1) fu46_1) v46_1 = some (.inr out) := h
      unfold fX2_drag_l46_1 at h
      refine lv_iload hx hb dX2_drag_46 (lv_at hl 4 rfl) ?_
      refine lv_iload_n hx hb dX2_drag_48 rfl (lv_at hl 0 rfl) ?_
      refine lv_icmp_gt (tgt := 89) hx hb dX2_drag_49 (by decide) (fun c13 => ?_) (fun c13 => ?_)
      · have h := it_p c13 h
        refine lv_iload hx hb dX2_drag_89 (lv_at hl 3 rfl) ?_
        obtain rfl := oi h
        exact ret_i hx hb hr hlocks hP hK hD hS dX2_drag_91
      · have h := it_n c13 h
        refine lv_iload hx hb dX2_drag_52 (lv_at hl 4 rfl) ?_
        refine lv_bipush (v := 24) hx hb dX2_drag_54 (by decide) ?_
        refine lv_icmp_ge (tgt := 89) hx hb dX2_drag_56 (by decide) (fun c14 => ?_) (fun c14 => ?_)
        · have h := it_p c14 h
          refine lv_iload hx hb dX2_drag_89 (lv_at hl 3 rfl) ?_
          obtain rfl := oi h
          exact ret_i hx hb hr hlocks hP hK hD hS dX2_drag_91
        · have h := it_n c14 h
          refine lv_aload hx hb dX2_drag_59 (lv_at hl 2 rfl) ?_
          refine lv_iload hx hb dX2_drag_61 (lv_at hl 4 rfl) ?_
          obtain ⟨r15, h15, h⟩ := ob h
          refine call_i (v := r15) (wc := (gA t (nb 3) 24 v46_1.2.1.2.2.2.1)) (wc' := (gA t (nb 3) 24 v46_1.2.1.2.2.2.1)) (ws' := (gBo bh bk v46_1.1 ++ (gS t (bk 0) nb v46_1.2.1 ++ (gQ t (bk 3) sa ++ (g6 t sa sb v46_1.2.2.1))))) (cutI (wc := (gA t (nb 3) 24 v46_1.2.1.2.2.2.1)) (wc' := (gA t (nb 3) 24 v46_1.2.1.2.2.2.1)) (ws' := (gBo bh bk v46_1.1 ++ (gS t (bk 0) nb v46_1.2.1 ++ (gQ t (bk 3) sa ++ (g6 t sa sb v46_1.2.2.1))))) [5] hP hD hS hA rfl rfl rfl rfl) hS (fun hPc hDc => va_runS (As := [.ref (nb 3), .int v46_1.2.2.2.2.2.2]) (rest := []) ⟨hx, hb, hml, hown, hts⟩ (mtX2_at l D t (nb 3) 24 v46_1.2.1.2.2.2.1 v46_1.2.2.2.2.2.2 r15 h15 (by decide) _) (va_cwS 2 hts (gBS kw104 kw105 kw2 kw106) rfl rfl rfl (by decide +kernel) ⟨Nat.le_of_ble_eq_true rfl, Nat.le_of_ble_eq_true rfl⟩) (sPc_S hPc hK hDc hE) rfl rfl hl.1 rfl (lv_room (Nat.le_of_ble_eq_true rfl)) dX2_drag_63 ⟨Nat.zero_le _, Nat.zero_le _⟩) (fun H locs hP hD hS => ?_)
          refine lv_iload hx hb dX2_drag_66 (lv_at hl 1 rfl) ?_
          refine lv_icmp_eq (tgt := 83) hx hb dX2_drag_68 (by decide) (fun c16 => ?_) (fun c16 => ?_)
          · have h := it_p c16 h
            refine lv_iinc (v := v46_1.2.2.2.2.2.2 + 1) (lv' := [(7, .int (v46_1.2.2.2.2.2.2 + 1)), (3, .int v46_1.2.2.2.1), (4, .int v46_1.2.2.2.2.1), (5, .ref (nb 3)), (6, .int v46_1.2.2.2.2.2.1)]) hx hb dX2_drag_83 hl (k := 4) rfl rfl (by decide) rfl (fun ls hl => ?_)
            refine lv_goto (tgt := 46) hx hb dX2_drag_86 (by decide) ?_
            exact ih46_1 (v46_1.1, v46_1.2.1, v46_1.2.2.1, v46_1.2.2.2.1, v46_1.2.2.2.2.1, v46_1.2.2.2.2.2.1, v46_1.2.2.2.2.2.2 + 1) h _ _ hP hD hS _ (lv_sub hl [1, 2, 3, 4, 0] rfl)
          · have h := it_n c16 h
            refine lv_aload hx hb dX2_drag_71 (lv_at hl 2 rfl) ?_
            refine lv_iload hx hb dX2_drag_73 (lv_at hl 4 rfl) ?_
            refine lv_iload hx hb dX2_drag_75 (lv_at hl 1 rfl) ?_
            obtain ⟨r17, h17, h⟩ := ob h
            refine call_v (wc := (gA t (nb 3) 24 v46_1.2.1.2.2.2.1)) (wc' := (gA t (nb 3) 24 r17)) (ws' := (gBo bh bk v46_1.1 ++ (gS t (bk 0) nb (v46_1.2.1.1, v46_1.2.1.2.1, v46_1.2.1.2.2.1, r17, v46_1.2.1.2.2.2.2.1, v46_1.2.1.2.2.2.2.2.1, v46_1.2.1.2.2.2.2.2.2.1, v46_1.2.1.2.2.2.2.2.2.2.1, v46_1.2.1.2.2.2.2.2.2.2.2.1, v46_1.2.1.2.2.2.2.2.2.2.2.2) ++ (gQ t (bk 3) sa ++ (g6 t sa sb v46_1.2.2.1))))) (cutI (wc := (gA t (nb 3) 24 v46_1.2.1.2.2.2.1)) (wc' := (gA t (nb 3) 24 r17)) (ws' := (gBo bh bk v46_1.1 ++ (gS t (bk 0) nb (v46_1.2.1.1, v46_1.2.1.2.1, v46_1.2.1.2.2.1, r17, v46_1.2.1.2.2.2.2.1, v46_1.2.1.2.2.2.2.2.1, v46_1.2.1.2.2.2.2.2.2.1, v46_1.2.1.2.2.2.2.2.2.2.1, v46_1.2.1.2.2.2.2.2.2.2.2.1, v46_1.2.1.2.2.2.2.2.2.2.2.2) ++ (gQ t (bk 3) sa ++ (g6 t sa sb v46_1.2.2.1))))) [5] hP hD hS hA rfl rfl rfl rfl) hS (fun hPc hDc => va_runS (As := [.ref (nb 3), .int v46_1.2.2.2.2.2.2, .int v46_1.2.2.2.2.1]) (rest := []) ⟨hx, hb, hml, hown, hts⟩ (mtX2_put l D t (nb 3) 24 v46_1.2.1.2.2.2.1 v46_1.2.2.2.2.2.2 v46_1.2.2.2.2.1 r17 h17 (by decide) _) (va_cwS 3 hts (gBS kw107 kw108 kw2 kw109) rfl rfl rfl (by decide +kernel) ⟨Nat.le_of_ble_eq_true rfl, Nat.le_of_ble_eq_true rfl⟩) (sPc_S hPc hK hDc hE) rfl rfl hl.1 rfl (lv_room (Nat.le_of_ble_eq_true rfl)) dX2_drag_77 ⟨Nat.zero_le _, Nat.zero_le _⟩) (fun H locs hP hD hS => ?_)
            refine lv_iinc (v := v46_1.2.2.2.2.2.1 + 1) (lv' := [(6, .int (v46_1.2.2.2.2.2.1 + 1)), (3, .int v46_1.2.2.2.1), (4, .int v46_1.2.2.2.2.1), (5, .ref (nb 3)), (7, .int v46_1.2.2.2.2.2.2)]) hx hb dX2_drag_80 hl (k := 3) rfl rfl (by decide) rfl (fun ls hl => ?_)
            refine lv_iinc (v := v46_1.2.2.2.2.2.2 + 1) (lv' := [(7, .int (v46_1.2.2.2.2.2.2 + 1)), (6, .int (v46_1.2.2.2.2.2.1 + 1)), (3, .int v46_1.2.2.2.1), (4, .int v46_1.2.2.2.2.1), (5, .ref (nb 3))]) hx hb dX2_drag_83 hl (k := 4) rfl rfl (by decide) rfl (fun ls hl => ?_)
            refine lv_goto (tgt := 46) hx hb dX2_drag_86 (by decide) ?_
            exact ih46_1 (v46_1.1, (v46_1.2.1.1, v46_1.2.1.2.1, v46_1.2.1.2.2.1, r17, v46_1.2.1.2.2.2.2.1, v46_1.2.1.2.2.2.2.2.1, v46_1.2.1.2.2.2.2.2.2.1, v46_1.2.1.2.2.2.2.2.2.2.1, v46_1.2.1.2.2.2.2.2.2.2.2.1, v46_1.2.1.2.2.2.2.2.2.2.2.2), v46_1.2.2.1, v46_1.2.2.2.1, v46_1.2.2.2.2.1, v46_1.2.2.2.2.2.1 + 1, v46_1.2.2.2.2.2.2 + 1) h _ _ hP hD hS _ (lv_sub hl [2, 3, 4, 1, 0] rfl)
  have J46 : ∀ (fu46 : Nat) (v46 : BoT × ShT × (Nat → ShT) × Int32 × Int32 × Int32 × Int32), lp (fX2_drag_l46) fu46 v46 = some (.inr out) → ∀ (H : Heap) (locs : List Loc), va_P D vwCl (gBo bh bk v46.1 ++ (gS t (bk 0) nb v46.2.1 ++ (gQ t (bk 3) sa ++ (g6 t sa sb v46.2.2.1)))) H → va_D A (gBo bh bk v46.1 ++ (gS t (bk 0) nb v46.2.1 ++ (gQ t (bk 3) sa ++ (g6 t sa sb v46.2.2.1)))) → va_S A s.heap H locs → ∀ ls : Array Slot, lv_has ls 8 [(3, .int v46.2.2.2.1), (4, .int v46.2.2.2.2.1), (5, .ref (nb 2)), (6, .int v46.2.2.2.2.2.1), (7, .int v46.2.2.2.2.2.2)] → W p l e ({ frames := 3, cells := 0, slots := 0, locals := 64 }) s m args below meth c H locs 0 0 (MQ below (qI D t (gBo bh bk out.2.1 ++ (gS t (bk 0) nb out.2.2.1 ++ (gQ t (bk 3) sa ++ (g6 t sa sb out.2.2.2)))) out.1 A) args s 0 0 A) (F0 m 46 ls []) := by
    intro fu46
    induction fu46 with
    | zero => intro v46 h; cases h
    | succ fu46 ih46 =>
      intro v46 h H locs hP hD hS ls hl
      have h : fX2_drag_l46 (lp (fX2_drag_l46) fu46) v46 = some (.inr out) := h
      unfold fX2_drag_l46 at h
      refine lv_iload hx hb dX2_drag_46 (lv_at hl 4 rfl) ?_
      refine lv_iload_n hx hb dX2_drag_48 rfl (lv_at hl 0 rfl) ?_
      refine lv_icmp_gt (tgt := 89) hx hb dX2_drag_49 (by decide) (fun c8 => ?_) (fun c8 => ?_)
      · have h := it_p c8 h
        refine lv_iload hx hb dX2_drag_89 (lv_at hl 3 rfl) ?_
        obtain rfl := oi h
        exact ret_i hx hb hr hlocks hP hK hD hS dX2_drag_91
      · have h := it_n c8 h
        refine lv_iload hx hb dX2_drag_52 (lv_at hl 4 rfl) ?_
        refine lv_bipush (v := 24) hx hb dX2_drag_54 (by decide) ?_
        refine lv_icmp_ge (tgt := 89) hx hb dX2_drag_56 (by decide) (fun c9 => ?_) (fun c9 => ?_)
        · have h := it_p c9 h
          refine lv_iload hx hb dX2_drag_89 (lv_at hl 3 rfl) ?_
          obtain rfl := oi h
          exact ret_i hx hb hr hlocks hP hK hD hS dX2_drag_91
        · have h := it_n c9 h
          refine lv_aload hx hb dX2_drag_59 (lv_at hl 2 rfl) ?_
          refine lv_iload hx hb dX2_drag_61 (lv_at hl 4 rfl) ?_
          obtain ⟨r10, h10, h⟩ := ob h
          refine call_i (v := r10) (wc := (gA t (nb 2) 24 v46.2.1.2.2.1)) (wc' := (gA t (nb 2) 24 v46.2.1.2.2.1)) (ws' := (gBo bh bk v46.1 ++ (gS t (bk 0) nb v46.2.1 ++ (gQ t (bk 3) sa ++ (g6 t sa sb v46.2.2.1))))) (cutI (wc := (gA t (nb 2) 24 v46.2.1.2.2.1)) (wc' := (gA t (nb 2) 24 v46.2.1.2.2.1)) (ws' := (gBo bh bk v46.1 ++ (gS t (bk 0) nb v46.2.1 ++ (gQ t (bk 3) sa ++ (g6 t sa sb v46.2.2.1))))) [4] hP hD hS hA rfl rfl rfl rfl) hS (fun hPc hDc => va_runS (As := [.ref (nb 2), .int v46.2.2.2.2.2.2]) (rest := []) ⟨hx, hb, hml, hown, hts⟩ (mtX2_at l D t (nb 2) 24 v46.2.1.2.2.1 v46.2.2.2.2.2.2 r10 h10 (by decide) _) (va_cwS 2 hts (gBS kw104 kw105 kw2 kw106) rfl rfl rfl (by decide +kernel) ⟨Nat.le_of_ble_eq_true rfl, Nat.le_of_ble_eq_true rfl⟩) (sPc_S hPc hK hDc hE) rfl rfl hl.1 rfl (lv_room (Nat.le_of_ble_eq_true rfl)) dX2_drag_63 ⟨Nat.zero_le _, Nat.zero_le _⟩) (fun H locs hP hD hS => ?_)
          refine lv_iload hx hb dX2_drag_66 (lv_at hl 1 rfl) ?_
          refine lv_icmp_eq (tgt := 83) hx hb dX2_drag_68 (by decide) (fun c11 => ?_) (fun c11 => ?_)
          · have h := it_p c11 h
            refine lv_iinc (v := v46.2.2.2.2.2.2 + 1) (lv' := [(7, .int (v46.2.2.2.2.2.2 + 1)), (3, .int v46.2.2.2.1), (4, .int v46.2.2.2.2.1), (5, .ref (nb 2)), (6, .int v46.2.2.2.2.2.1)]) hx hb dX2_drag_83 hl (k := 4) rfl rfl (by decide) rfl (fun ls hl => ?_)
            refine lv_goto (tgt := 46) hx hb dX2_drag_86 (by decide) ?_
            exact ih46 (v46.1, v46.2.1, v46.2.2.1, v46.2.2.2.1, v46.2.2.2.2.1, v46.2.2.2.2.2.1, v46.2.2.2.2.2.2 + 1) h _ _ hP hD hS _ (lv_sub hl [1, 2, 3, 4, 0] rfl)
          · have h := it_n c11 h
            refine lv_aload hx hb dX2_drag_71 (lv_at hl 2 rfl) ?_
            refine lv_iload hx hb dX2_drag_73 (lv_at hl 4 rfl) ?_
            refine lv_iload hx hb dX2_drag_75 (lv_at hl 1 rfl) ?_
            obtain ⟨r12, h12, h⟩ := ob h
            refine call_v (wc := (gA t (nb 2) 24 v46.2.1.2.2.1)) (wc' := (gA t (nb 2) 24 r12)) (ws' := (gBo bh bk v46.1 ++ (gS t (bk 0) nb (v46.2.1.1, v46.2.1.2.1, r12, v46.2.1.2.2.2.1, v46.2.1.2.2.2.2.1, v46.2.1.2.2.2.2.2.1, v46.2.1.2.2.2.2.2.2.1, v46.2.1.2.2.2.2.2.2.2.1, v46.2.1.2.2.2.2.2.2.2.2.1, v46.2.1.2.2.2.2.2.2.2.2.2) ++ (gQ t (bk 3) sa ++ (g6 t sa sb v46.2.2.1))))) (cutI (wc := (gA t (nb 2) 24 v46.2.1.2.2.1)) (wc' := (gA t (nb 2) 24 r12)) (ws' := (gBo bh bk v46.1 ++ (gS t (bk 0) nb (v46.2.1.1, v46.2.1.2.1, r12, v46.2.1.2.2.2.1, v46.2.1.2.2.2.2.1, v46.2.1.2.2.2.2.2.1, v46.2.1.2.2.2.2.2.2.1, v46.2.1.2.2.2.2.2.2.2.1, v46.2.1.2.2.2.2.2.2.2.2.1, v46.2.1.2.2.2.2.2.2.2.2.2) ++ (gQ t (bk 3) sa ++ (g6 t sa sb v46.2.2.1))))) [4] hP hD hS hA rfl rfl rfl rfl) hS (fun hPc hDc => va_runS (As := [.ref (nb 2), .int v46.2.2.2.2.2.2, .int v46.2.2.2.2.1]) (rest := []) ⟨hx, hb, hml, hown, hts⟩ (mtX2_put l D t (nb 2) 24 v46.2.1.2.2.1 v46.2.2.2.2.2.2 v46.2.2.2.2.1 r12 h12 (by decide) _) (va_cwS 3 hts (gBS kw107 kw108 kw2 kw109) rfl rfl rfl (by decide +kernel) ⟨Nat.le_of_ble_eq_true rfl, Nat.le_of_ble_eq_true rfl⟩) (sPc_S hPc hK hDc hE) rfl rfl hl.1 rfl (lv_room (Nat.le_of_ble_eq_true rfl)) dX2_drag_77 ⟨Nat.zero_le _, Nat.zero_le _⟩) (fun H locs hP hD hS => ?_)
            refine lv_iinc (v := v46.2.2.2.2.2.1 + 1) (lv' := [(6, .int (v46.2.2.2.2.2.1 + 1)), (3, .int v46.2.2.2.1), (4, .int v46.2.2.2.2.1), (5, .ref (nb 2)), (7, .int v46.2.2.2.2.2.2)]) hx hb dX2_drag_80 hl (k := 3) rfl rfl (by decide) rfl (fun ls hl => ?_)
            refine lv_iinc (v := v46.2.2.2.2.2.2 + 1) (lv' := [(7, .int (v46.2.2.2.2.2.2 + 1)), (6, .int (v46.2.2.2.2.2.1 + 1)), (3, .int v46.2.2.2.1), (4, .int v46.2.2.2.2.1), (5, .ref (nb 2))]) hx hb dX2_drag_83 hl (k := 4) rfl rfl (by decide) rfl (fun ls hl => ?_)
            refine lv_goto (tgt := 46) hx hb dX2_drag_86 (by decide) ?_
            exact ih46 (v46.1, (v46.2.1.1, v46.2.1.2.1, r12, v46.2.1.2.2.2.1, v46.2.1.2.2.2.2.1, v46.2.1.2.2.2.2.2.1, v46.2.1.2.2.2.2.2.2.1, v46.2.1.2.2.2.2.2.2.2.1, v46.2.1.2.2.2.2.2.2.2.2.1, v46.2.1.2.2.2.2.2.2.2.2.2), v46.2.2.1, v46.2.2.2.1, v46.2.2.2.2.1, v46.2.2.2.2.2.1 + 1, v46.2.2.2.2.2.2 + 1) h _ _ hP hD hS _ (lv_sub hl [2, 3, 4, 1, 0] rfl)
  refine lv_iload_n hx hb dX2_drag_0 rfl (lv_at hl 1 rfl) ?_
  obtain ⟨r1, h1, h⟩ := tb_r h
  refine call_v (wc := ([] : va_W)) (wc' := ([] : va_W)) (ws' := (gBo bh bk bo ++ (gS t (bk 0) nb now ++ (gQ t (bk 3) sa ++ (g6 t sa sb sv))))) (cutB (bs := [gBo bh bk bo, gS t (bk 0) nb now, gQ t (bk 3) sa, g6 t sa sb sv]) (cs := []) (cs' := []) (bs' := [gBo bh bk bo, gS t (bk 0) nb now, gQ t (bk 3) sa, g6 t sa sb sv]) [] hP hD hS hA rfl rfl rfl rfl) hS (fun hPc hDc => va_runS (As := [.int cu]) (rest := []) ⟨hx, hb, hml, hown, hts⟩ (mtX2_needCurtain l D t cu r1 h1 _) (va_cwS 1 hts (gBS kw73 kw74 kw2 kw75) rfl rfl rfl (by decide +kernel) ⟨Nat.le_of_ble_eq_true rfl, Nat.le_of_ble_eq_true rfl⟩) (sPc_S hPc hK hDc hE) rfl rfl hl.1 rfl (lv_room (Nat.le_of_ble_eq_true rfl)) dX2_drag_1 ⟨Nat.zero_le _, Nat.zero_le _⟩) (fun H locs hP hD hS => ?_)
  refine lv_iload_n hx hb dX2_drag_4 rfl (lv_at hl 2 rfl) ?_
  refine lv_iconst (v := 0) hx hb dX2_drag_5 (by decide) ?_
  refine lv_bipush (v := 23) hx hb dX2_drag_6 (by decide) ?_
  obtain ⟨r2, h2, h⟩ := tb_r h
  refine call_v (wc := ([] : va_W)) (wc' := ([] : va_W)) (ws' := (gBo bh bk bo ++ (gS t (bk 0) nb now ++ (gQ t (bk 3) sa ++ (g6 t sa sb sv))))) (cutB (bs := [gBo bh bk bo, gS t (bk 0) nb now, gQ t (bk 3) sa, g6 t sa sb sv]) (cs := []) (cs' := []) (bs' := [gBo bh bk bo, gS t (bk 0) nb now, gQ t (bk 3) sa, g6 t sa sb sv]) [] hP hD hS hA rfl rfl rfl rfl) hS (fun hPc hDc => va_runS (As := [.int k1, .int 0, .int 23]) (rest := []) ⟨hx, hb, hml, hown, hts⟩ (mtX2_needRange l D t k1 0 23 r2 h2 _) (va_cwS 3 hts (gBS kw81 kw82 kw2 kw83) rfl rfl rfl (by decide +kernel) ⟨Nat.le_of_ble_eq_true rfl, Nat.le_of_ble_eq_true rfl⟩) (sPc_S hPc hK hDc hE) rfl rfl hl.1 rfl (lv_room (Nat.le_of_ble_eq_true rfl)) dX2_drag_8 ⟨Nat.zero_le _, Nat.zero_le _⟩) (fun H locs hP hD hS => ?_)
  refine lv_iload_n hx hb dX2_drag_11 rfl (lv_at hl 3 rfl) ?_
  refine lv_iload_n hx hb dX2_drag_12 rfl (lv_at hl 2 rfl) ?_
  refine lv_bipush (v := 23) hx hb dX2_drag_13 (by decide) ?_
  obtain ⟨r3, h3, h⟩ := tb_r h
  refine call_v (wc := ([] : va_W)) (wc' := ([] : va_W)) (ws' := (gBo bh bk bo ++ (gS t (bk 0) nb now ++ (gQ t (bk 3) sa ++ (g6 t sa sb sv))))) (cutB (bs := [gBo bh bk bo, gS t (bk 0) nb now, gQ t (bk 3) sa, g6 t sa sb sv]) (cs := []) (cs' := []) (bs' := [gBo bh bk bo, gS t (bk 0) nb now, gQ t (bk 3) sa, g6 t sa sb sv]) [] hP hD hS hA rfl rfl rfl rfl) hS (fun hPc hDc => va_runS (As := [.int k2, .int k1, .int 23]) (rest := []) ⟨hx, hb, hml, hown, hts⟩ (mtX2_needRange l D t k2 k1 23 r3 h3 _) (va_cwS 3 hts (gBS kw81 kw82 kw2 kw83) rfl rfl rfl (by decide +kernel) ⟨Nat.le_of_ble_eq_true rfl, Nat.le_of_ble_eq_true rfl⟩) (sPc_S hPc hK hDc hE) rfl rfl hl.1 rfl (lv_room (Nat.le_of_ble_eq_true rfl)) dX2_drag_15 ⟨Nat.zero_le _, Nat.zero_le _⟩) (fun H locs hP hD hS => ?_)
  refine lv_iload hx hb dX2_drag_18 (lv_at hl 4 rfl) ?_
  refine lv_iconst (v := 0) hx hb dX2_drag_20 (by decide) ?_
  refine lv_bipush (v := 50) hx hb dX2_drag_21 (by decide) ?_
  obtain ⟨r4, h4, h⟩ := tb_r h
  refine call_v (wc := ([] : va_W)) (wc' := ([] : va_W)) (ws' := (gBo bh bk bo ++ (gS t (bk 0) nb now ++ (gQ t (bk 3) sa ++ (g6 t sa sb sv))))) (cutB (bs := [gBo bh bk bo, gS t (bk 0) nb now, gQ t (bk 3) sa, g6 t sa sb sv]) (cs := []) (cs' := []) (bs' := [gBo bh bk bo, gS t (bk 0) nb now, gQ t (bk 3) sa, g6 t sa sb sv]) [] hP hD hS hA rfl rfl rfl rfl) hS (fun hPc hDc => va_runS (As := [.int dr, .int 0, .int 50]) (rest := []) ⟨hx, hb, hml, hown, hts⟩ (mtX2_needRange l D t dr 0 50 r4 h4 _) (va_cwS 3 hts (gBS kw81 kw82 kw2 kw83) rfl rfl rfl (by decide +kernel) ⟨Nat.le_of_ble_eq_true rfl, Nat.le_of_ble_eq_true rfl⟩) (sPc_S hPc hK hDc hE) rfl rfl hl.1 rfl (lv_room (Nat.le_of_ble_eq_true rfl)) dX2_drag_23 ⟨Nat.zero_le _, Nat.zero_le _⟩) (fun H locs hP hD hS => ?_)
  refine lv_aload_n hx hb dX2_drag_26 rfl (lv_at hl 0 rfl) ?_
  obtain ⟨r5, h5, h⟩ := ob h
  refine call_v (wc := (gBo bh bk bo ++ (gS t (bk 0) nb now ++ (gQ t (bk 3) sa ++ (g6 t sa sb sv))))) (wc' := (gBo bh bk r5.1 ++ (gS t (bk 0) nb now ++ (gQ t (bk 3) sa ++ (g6 t sa sb r5.2))))) (ws' := (gBo bh bk r5.1 ++ (gS t (bk 0) nb now ++ (gQ t (bk 3) sa ++ (g6 t sa sb r5.2))))) (cutB (bs := [gBo bh bk bo, gS t (bk 0) nb now, gQ t (bk 3) sa, g6 t sa sb sv]) (cs := [gBo bh bk bo, gS t (bk 0) nb now, gQ t (bk 3) sa, g6 t sa sb sv]) (cs' := [gBo bh bk r5.1, gS t (bk 0) nb now, gQ t (bk 3) sa, g6 t sa sb r5.2]) (bs' := [gBo bh bk r5.1, gS t (bk 0) nb now, gQ t (bk 3) sa, g6 t sa sb r5.2]) [0, 1, 2, 3] hP hD hS hA rfl rfl rfl rfl) hS (fun hPc hDc => va_runV (As := []) (rest := []) ⟨hx, hb, hml, hown, hts⟩ (mtX2_saveState l D t bh bk bo nb now sa sb sv r5 h5 _) (cwV 0 hts (gBV kw86 kw87 kw88 kw2 kw89) rfl rfl rfl (by decide +kernel) ⟨Nat.le_of_ble_eq_true rfl, Nat.le_of_ble_eq_true rfl⟩) (sPc_V hPc hK hDc hE (va_recv hK hP (ci := 2) (q0 := 0) rfl rfl)) rfl rfl hl.1 rfl (lv_room (Nat.le_of_ble_eq_true rfl)) dX2_drag_27 ⟨Nat.zero_le _, Nat.zero_le _⟩) (fun H locs hP hD hS => ?_)
  refine lv_aload_n hx hb dX2_drag_30 rfl (lv_at hl 0 rfl) ?_
  refine va_get (D := D) (ci := 2) (v := .ref (bk 0)) (C := RX2) (T := TX2) (N := 8) hx hb htB inlX2 hown hK hP 0 rfl rfl 0 (by decide) (htB _ kw17) (fun _ h9 => h9) rfl dX2_drag_31 ?_
  refine lv_iload_n hx hb dX2_drag_34 rfl (lv_at hl 1 rfl) ?_
  obtain ⟨r6, h6, h⟩ := ob h
  refine call_r (v := if cu = 0 then nb 2 else nb 3) (wc := (gS t (bk 0) nb now)) (wc' := (gS t (bk 0) nb now)) (ws' := (gBo bh bk r5.1 ++ (gS t (bk 0) nb now ++ (gQ t (bk 3) sa ++ (g6 t sa sb r5.2))))) (cutB (bs := [gBo bh bk r5.1, gS t (bk 0) nb now, gQ t (bk 3) sa, g6 t sa sb r5.2]) (cs := [gS t (bk 0) nb now]) (cs' := [gS t (bk 0) nb now]) (bs' := [gBo bh bk r5.1, gS t (bk 0) nb now, gQ t (bk 3) sa, g6 t sa sb r5.2]) [1] hP hD hS hA rfl rfl rfl rfl) hS (fun hPc hDc => va_runV (As := [.int cu]) (rest := []) ⟨hx, hb, hml, hown, hts⟩ (mtX1_dragsOf l D t (bk 0) nb now cu r6 h6 _) (cwV 1 hts (gBV kw148 kw149 kw150 kw16 kw151) rfl rfl rfl (by decide +kernel) ⟨Nat.le_of_ble_eq_true rfl, Nat.le_of_ble_eq_true rfl⟩) (sPc_V hPc hK hDc hE (va_recv hK hP (ci := 1) (q0 := 1) rfl rfl)) rfl rfl hl.1 rfl (lv_room (Nat.le_of_ble_eq_true rfl)) dX2_drag_35 ⟨Nat.zero_le _, Nat.zero_le _⟩) (fun H locs hP hD hS => ?_)
  by_cases c7 : cu = 0
  · have h := it_p c7 h
    rw [if_pos c7]
    refine lv_astore (lv' := [(5, .ref (nb 2)), (0, .ref bh), (1, .int cu), (2, .int k1), (3, .int k2), (4, .int dr)]) hx hb dX2_drag_38 hl (by decide) rfl (fun ls hl => ?_)
    refine lv_iconst (v := 0) hx hb dX2_drag_40 (by decide) ?_
    refine lv_istore (lv' := [(6, .int 0), (5, .ref (nb 2)), (0, .ref bh), (1, .int cu), (2, .int k1), (3, .int k2), (4, .int dr)]) hx hb dX2_drag_41 hl (by decide) rfl (fun ls hl => ?_)
    refine lv_iload_n hx hb dX2_drag_43 rfl (lv_at hl 4 rfl) ?_
    refine lv_istore (lv' := [(7, .int k1), (6, .int 0), (5, .ref (nb 2)), (0, .ref bh), (1, .int cu), (2, .int k1), (3, .int k2), (4, .int dr)]) hx hb dX2_drag_44 hl (by decide) rfl (fun ls hl => ?_)
    exact J46 2000 (r5.1, now, r5.2, k2, dr, 0, k1) h _ _ hP hD hS _ (lv_sub hl [6, 7, 2, 1, 0] rfl)
  · have h := it_n c7 h
    rw [if_neg c7]
    refine lv_astore (lv' := [(5, .ref (nb 3)), (0, .ref bh), (1, .int cu), (2, .int k1), (3, .int k2), (4, .int dr)]) hx hb dX2_drag_38 hl (by decide) rfl (fun ls hl => ?_)
    refine lv_iconst (v := 0) hx hb dX2_drag_40 (by decide) ?_
    refine lv_istore (lv' := [(6, .int 0), (5, .ref (nb 3)), (0, .ref bh), (1, .int cu), (2, .int k1), (3, .int k2), (4, .int dr)]) hx hb dX2_drag_41 hl (by decide) rfl (fun ls hl => ?_)
    refine lv_iload_n hx hb dX2_drag_43 rfl (lv_at hl 4 rfl) ?_
    refine lv_istore (lv' := [(7, .int k1), (6, .int 0), (5, .ref (nb 3)), (0, .ref bh), (1, .int cu), (2, .int k1), (3, .int k2), (4, .int dr)]) hx hb dX2_drag_44 hl (by decide) rfl (fun ls hl => ?_)
    exact J46_1 2000 (r5.1, now, r5.2, k2, dr, 0, k1) h _ _ hP hD hS _ (lv_sub hl [6, 7, 2, 1, 0] rfl)

theorem dX2_clean_0 : decode cX2_clean 0 = .ok (.iload_n 1, 1) := by decide +kernel
theorem dX2_clean_1 : decode cX2_clean 1 = .ok (.invokestatic 44, 3) := by decide +kernel
theorem dX2_clean_4 : decode cX2_clean 4 = .ok (.aload_n 0, 1) := by decide +kernel
theorem dX2_clean_5 : decode cX2_clean 5 = .ok (.invokevirtual 52, 3) := by decide +kernel
theorem dX2_clean_8 : decode cX2_clean 8 = .ok (.aload_n 0, 1) := by decide +kernel
theorem dX2_clean_9 : decode cX2_clean 9 = .ok (.getfield 10, 3) := by decide +kernel
theorem dX2_clean_12 : decode cX2_clean 12 = .ok (.getfield 70, 3) := by decide +kernel
theorem dX2_clean_15 : decode cX2_clean 15 = .ok (.iload_n 1, 1) := by decide +kernel
theorem dX2_clean_16 : decode cX2_clean 16 = .ok (.invokestatic 58, 3) := by decide +kernel
theorem dX2_clean_19 : decode cX2_clean 19 = .ok (.istore_n 2, 1) := by decide +kernel
theorem dX2_clean_20 : decode cX2_clean 20 = .ok (.aload_n 0, 1) := by decide +kernel
theorem dX2_clean_21 : decode cX2_clean 21 = .ok (.getfield 10, 3) := by decide +kernel
theorem dX2_clean_24 : decode cX2_clean 24 = .ok (.getfield 70, 3) := by decide +kernel
theorem dX2_clean_27 : decode cX2_clean 27 = .ok (.iload_n 1, 1) := by decide +kernel
theorem dX2_clean_28 : decode cX2_clean 28 = .ok (.iconst 0, 1) := by decide +kernel
theorem dX2_clean_29 : decode cX2_clean 29 = .ok (.invokestatic 62, 3) := by decide +kernel
theorem dX2_clean_32 : decode cX2_clean 32 = .ok (.iload_n 2, 1) := by decide +kernel
theorem dX2_clean_33 : decode cX2_clean 33 = .ok (.ireturn, 1) := by decide +kernel
abbrev zX2_clean : List Cond := .code yX2_clean cX2_clean 3 (some .int) :: BIG
def fX2_clean (bo : BoT) (now : ShT) (sv : (Nat → ShT)) (cu : Int32) : Option (Nat ⊕ (Int32 × BoT × ShT × (Nat → ShT))) := tb (fX2_needCurtain cu) (fun r1 => (fX2_saveState bo now sv).bind (fun r2 => (fX2_at 2 now.2.1 cu).bind (fun r3 => (fX2_put 2 now.2.1 cu 0).bind (fun r4 => some (.inr (r3, r2.1, (now.1, r4, now.2.2.1, now.2.2.2.1, now.2.2.2.2.1, now.2.2.2.2.2.1, now.2.2.2.2.2.2.1, now.2.2.2.2.2.2.2.1, now.2.2.2.2.2.2.2.2.1, now.2.2.2.2.2.2.2.2.2), r2.2))))))
set_option maxHeartbeats 4000000 in
set_option maxRecDepth 100000 in
theorem mtX2_clean (l : Launch) (D : va_G) (t : Nat → ClassId) (bh : Nat) (bk : Nat → Nat) (bo : BoT) (nb : Nat → Nat) (now : ShT) (sa : Nat → Nat) (sb : Nat → Nat → Nat) (sv : (Nat → ShT)) (cu : Int32) (out : Int32 × BoT × ShT × (Nat → ShT)) (h : fX2_clean bo now sv cu = some (.inr out))  (sz : Nat) : Met l yX2_clean zX2_clean ({ frames := 3, cells := 0, slots := 0, locals := 64 }) (sPc D t (gBo bh bk bo ++ (gS t (bk 0) nb now ++ (gQ t (bk 3) sa ++ (g6 t sa sb sv)))) sz [.ref bh, .int cu]) (qI D t (gBo bh bk out.2.1 ++ (gS t (bk 0) nb out.2.2.1 ++ (gQ t (bk 3) sa ++ (g6 t sa sb out.2.2.2)))) out.1 (va_A (gBo bh bk bo ++ (gS t (bk 0) nb now ++ (gQ t (bk 3) sa ++ (g6 t sa sb sv)))) sz)) 0 0 (va_A (gBo bh bk bo ++ (gS t (bk 0) nb now ++ (gQ t (bk 3) sa ++ (g6 t sa sb sv)))) sz) := by
  refine met_of (Qf := fun A => qI D t (gBo bh bk out.2.1 ++ (gS t (bk 0) nb out.2.2.1 ++ (gQ t (bk 3) sa ++ (g6 t sa sb out.2.2.2)))) out.1 A) (cc := cX2_clean) (maxL := 3) (ret := some .int) (by decide) rfl (Nat.le_of_ble_eq_true rfl) ?_
  intro p e s m args below meth c A hx hb hr hml hts hown hlocks hA hP hK hD hE hS ls hl
  have htB : ∀ w ∈ BIG, w.before args s = true := fun w h => hts w (List.mem_cons_of_mem _ h)
  have hown : s.vm.findClass RX2 = some m.cls := hown
  have hl : lv_has ls 3 [(0, .ref bh), (1, .int cu)] := hl
  unfold fX2_clean at h
  refine lv_iload_n hx hb dX2_clean_0 rfl (lv_at hl 1 rfl) ?_
  obtain ⟨r1, h1, h⟩ := tb_r h
  refine call_v (wc := ([] : va_W)) (wc' := ([] : va_W)) (ws' := (gBo bh bk bo ++ (gS t (bk 0) nb now ++ (gQ t (bk 3) sa ++ (g6 t sa sb sv))))) (cutB (bs := [gBo bh bk bo, gS t (bk 0) nb now, gQ t (bk 3) sa, g6 t sa sb sv]) (cs := []) (cs' := []) (bs' := [gBo bh bk bo, gS t (bk 0) nb now, gQ t (bk 3) sa, g6 t sa sb sv]) [] hP hD hS hA rfl rfl rfl rfl) hS (fun hPc hDc => va_runS (As := [.int cu]) (rest := []) ⟨hx, hb, hml, hown, hts⟩ (mtX2_needCurtain l D t cu r1 h1 _) (va_cwS 1 hts (gBS kw73 kw74 kw2 kw75) rfl rfl rfl (by decide +kernel) ⟨Nat.le_of_ble_eq_true rfl, Nat.le_of_ble_eq_true rfl⟩) (sPc_S hPc hK hDc hE) rfl rfl hl.1 rfl (lv_room (Nat.le_of_ble_eq_true rfl)) dX2_clean_1 ⟨Nat.zero_le _, Nat.zero_le _⟩) (fun H locs hP hD hS => ?_)
  refine lv_aload_n hx hb dX2_clean_4 rfl (lv_at hl 0 rfl) ?_
  obtain ⟨r2, h2, h⟩ := ob h
  refine call_v (wc := (gBo bh bk bo ++ (gS t (bk 0) nb now ++ (gQ t (bk 3) sa ++ (g6 t sa sb sv))))) (wc' := (gBo bh bk r2.1 ++ (gS t (bk 0) nb now ++ (gQ t (bk 3) sa ++ (g6 t sa sb r2.2))))) (ws' := (gBo bh bk r2.1 ++ (gS t (bk 0) nb now ++ (gQ t (bk 3) sa ++ (g6 t sa sb r2.2))))) (cutB (bs := [gBo bh bk bo, gS t (bk 0) nb now, gQ t (bk 3) sa, g6 t sa sb sv]) (cs := [gBo bh bk bo, gS t (bk 0) nb now, gQ t (bk 3) sa, g6 t sa sb sv]) (cs' := [gBo bh bk r2.1, gS t (bk 0) nb now, gQ t (bk 3) sa, g6 t sa sb r2.2]) (bs' := [gBo bh bk r2.1, gS t (bk 0) nb now, gQ t (bk 3) sa, g6 t sa sb r2.2]) [0, 1, 2, 3] hP hD hS hA rfl rfl rfl rfl) hS (fun hPc hDc => va_runV (As := []) (rest := []) ⟨hx, hb, hml, hown, hts⟩ (mtX2_saveState l D t bh bk bo nb now sa sb sv r2 h2 _) (cwV 0 hts (gBV kw86 kw87 kw88 kw2 kw89) rfl rfl rfl (by decide +kernel) ⟨Nat.le_of_ble_eq_true rfl, Nat.le_of_ble_eq_true rfl⟩) (sPc_V hPc hK hDc hE (va_recv hK hP (ci := 2) (q0 := 0) rfl rfl)) rfl rfl hl.1 rfl (lv_room (Nat.le_of_ble_eq_true rfl)) dX2_clean_5 ⟨Nat.zero_le _, Nat.zero_le _⟩) (fun H locs hP hD hS => ?_)
  refine lv_aload_n hx hb dX2_clean_8 rfl (lv_at hl 0 rfl) ?_
  refine va_get (D := D) (ci := 2) (v := .ref (bk 0)) (C := RX2) (T := TX2) (N := 8) hx hb htB inlX2 hown hK hP 0 rfl rfl 0 (by decide) (htB _ kw17) (fun _ h9 => h9) rfl dX2_clean_9 ?_
  refine va_get (D := D) (ci := 1) (v := .ref (nb 1)) (C := RX1) (T := TX1) (N := 10) hx hb htB inlX1 hown hK hP 1 rfl rfl 1 (by decide) (htB _ kw166) (fun _ h9 => h9) rfl dX2_clean_12 ?_
  refine lv_iload_n hx hb dX2_clean_15 rfl (lv_at hl 1 rfl) ?_
  obtain ⟨r3, h3, h⟩ := ob h
  refine call_i (v := r3) (wc := (gA t (nb 1) 2 now.2.1)) (wc' := (gA t (nb 1) 2 now.2.1)) (ws' := (gBo bh bk r2.1 ++ (gS t (bk 0) nb now ++ (gQ t (bk 3) sa ++ (g6 t sa sb r2.2))))) (cutI (wc := (gA t (nb 1) 2 now.2.1)) (wc' := (gA t (nb 1) 2 now.2.1)) (ws' := (gBo bh bk r2.1 ++ (gS t (bk 0) nb now ++ (gQ t (bk 3) sa ++ (g6 t sa sb r2.2))))) [3] hP hD hS hA rfl rfl rfl rfl) hS (fun hPc hDc => va_runS (As := [.ref (nb 1), .int cu]) (rest := []) ⟨hx, hb, hml, hown, hts⟩ (mtX2_at l D t (nb 1) 2 now.2.1 cu r3 h3 (by decide) _) (va_cwS 2 hts (gBS kw104 kw105 kw2 kw106) rfl rfl rfl (by decide +kernel) ⟨Nat.le_of_ble_eq_true rfl, Nat.le_of_ble_eq_true rfl⟩) (sPc_S hPc hK hDc hE) rfl rfl hl.1 rfl (lv_room (Nat.le_of_ble_eq_true rfl)) dX2_clean_16 ⟨Nat.zero_le _, Nat.zero_le _⟩) (fun H locs hP hD hS => ?_)
  refine lv_istore_n (lv' := [(2, .int r3), (0, .ref bh), (1, .int cu)]) hx hb dX2_clean_19 rfl hl (by decide) rfl (fun ls hl => ?_)
  refine lv_aload_n hx hb dX2_clean_20 rfl (lv_at hl 1 rfl) ?_
  refine va_get (D := D) (ci := 2) (v := .ref (bk 0)) (C := RX2) (T := TX2) (N := 8) hx hb htB inlX2 hown hK hP 0 rfl rfl 0 (by decide) (htB _ kw17) (fun _ h9 => h9) rfl dX2_clean_21 ?_
  refine va_get (D := D) (ci := 1) (v := .ref (nb 1)) (C := RX1) (T := TX1) (N := 10) hx hb htB inlX1 hown hK hP 1 rfl rfl 1 (by decide) (htB _ kw166) (fun _ h9 => h9) rfl dX2_clean_24 ?_
  refine lv_iload_n hx hb dX2_clean_27 rfl (lv_at hl 2 rfl) ?_
  refine lv_iconst (v := 0) hx hb dX2_clean_28 (by decide) ?_
  obtain ⟨r4, h4, h⟩ := ob h
  refine call_v (wc := (gA t (nb 1) 2 now.2.1)) (wc' := (gA t (nb 1) 2 r4)) (ws' := (gBo bh bk r2.1 ++ (gS t (bk 0) nb (now.1, r4, now.2.2.1, now.2.2.2.1, now.2.2.2.2.1, now.2.2.2.2.2.1, now.2.2.2.2.2.2.1, now.2.2.2.2.2.2.2.1, now.2.2.2.2.2.2.2.2.1, now.2.2.2.2.2.2.2.2.2) ++ (gQ t (bk 3) sa ++ (g6 t sa sb r2.2))))) (cutI (wc := (gA t (nb 1) 2 now.2.1)) (wc' := (gA t (nb 1) 2 r4)) (ws' := (gBo bh bk r2.1 ++ (gS t (bk 0) nb (now.1, r4, now.2.2.1, now.2.2.2.1, now.2.2.2.2.1, now.2.2.2.2.2.1, now.2.2.2.2.2.2.1, now.2.2.2.2.2.2.2.1, now.2.2.2.2.2.2.2.2.1, now.2.2.2.2.2.2.2.2.2) ++ (gQ t (bk 3) sa ++ (g6 t sa sb r2.2))))) [3] hP hD hS hA rfl rfl rfl rfl) hS (fun hPc hDc => va_runS (As := [.ref (nb 1), .int cu, .int 0]) (rest := []) ⟨hx, hb, hml, hown, hts⟩ (mtX2_put l D t (nb 1) 2 now.2.1 cu 0 r4 h4 (by decide) _) (va_cwS 3 hts (gBS kw107 kw108 kw2 kw109) rfl rfl rfl (by decide +kernel) ⟨Nat.le_of_ble_eq_true rfl, Nat.le_of_ble_eq_true rfl⟩) (sPc_S hPc hK hDc hE) rfl rfl hl.1 rfl (lv_room (Nat.le_of_ble_eq_true rfl)) dX2_clean_29 ⟨Nat.zero_le _, Nat.zero_le _⟩) (fun H locs hP hD hS => ?_)
  refine lv_iload_n hx hb dX2_clean_32 rfl (lv_at hl 0 rfl) ?_
  obtain rfl := oi h
  exact ret_i hx hb hr hlocks hP hK hD hS dX2_clean_33

theorem dX2_correct_0 : decode cX2_correct 0 = .ok (.iload_n 1, 1) := by decide +kernel
theorem dX2_correct_1 : decode cX2_correct 1 = .ok (.invokestatic 73, 3) := by decide +kernel
theorem dX2_correct_4 : decode cX2_correct 4 = .ok (.iload_n 2, 1) := by decide +kernel
theorem dX2_correct_5 : decode cX2_correct 5 = .ok (.bipush (-50), 2) := by decide +kernel
theorem dX2_correct_7 : decode cX2_correct 7 = .ok (.bipush 50, 2) := by decide +kernel
theorem dX2_correct_9 : decode cX2_correct 9 = .ok (.invokestatic 48, 3) := by decide +kernel
theorem dX2_correct_12 : decode cX2_correct 12 = .ok (.aload_n 0, 1) := by decide +kernel
theorem dX2_correct_13 : decode cX2_correct 13 = .ok (.invokevirtual 52, 3) := by decide +kernel
theorem dX2_correct_16 : decode cX2_correct 16 = .ok (.aload_n 0, 1) := by decide +kernel
theorem dX2_correct_17 : decode cX2_correct 17 = .ok (.getfield 10, 3) := by decide +kernel
theorem dX2_correct_20 : decode cX2_correct 20 = .ok (.getfield 76, 3) := by decide +kernel
theorem dX2_correct_23 : decode cX2_correct 23 = .ok (.iload_n 1, 1) := by decide +kernel
theorem dX2_correct_24 : decode cX2_correct 24 = .ok (.invokestatic 58, 3) := by decide +kernel
theorem dX2_correct_27 : decode cX2_correct 27 = .ok (.istore_n 3, 1) := by decide +kernel
theorem dX2_correct_28 : decode cX2_correct 28 = .ok (.aload_n 0, 1) := by decide +kernel
theorem dX2_correct_29 : decode cX2_correct 29 = .ok (.getfield 10, 3) := by decide +kernel
theorem dX2_correct_32 : decode cX2_correct 32 = .ok (.getfield 76, 3) := by decide +kernel
theorem dX2_correct_35 : decode cX2_correct 35 = .ok (.iload_n 1, 1) := by decide +kernel
theorem dX2_correct_36 : decode cX2_correct 36 = .ok (.iload_n 2, 1) := by decide +kernel
theorem dX2_correct_37 : decode cX2_correct 37 = .ok (.invokestatic 62, 3) := by decide +kernel
theorem dX2_correct_40 : decode cX2_correct 40 = .ok (.iload_n 3, 1) := by decide +kernel
theorem dX2_correct_41 : decode cX2_correct 41 = .ok (.bipush 100, 2) := by decide +kernel
theorem dX2_correct_43 : decode cX2_correct 43 = .ok (.iadd, 1) := by decide +kernel
theorem dX2_correct_44 : decode cX2_correct 44 = .ok (.ireturn, 1) := by decide +kernel
abbrev zX2_correct : List Cond := .code yX2_correct cX2_correct 4 (some .int) :: BIG
def fX2_correct (bo : BoT) (now : ShT) (sv : (Nat → ShT)) (v : Int32) (w : Int32) : Option (Nat ⊕ (Int32 × BoT × ShT × (Nat → ShT))) := tb (fX2_needSpeed v) (fun r1 => tb (fX2_needRange w (-50) 50) (fun r2 => (fX2_saveState bo now sv).bind (fun r3 => (fX2_at 6 now.2.2.2.2.1 v).bind (fun r4 => (fX2_put 6 now.2.2.2.2.1 v w).bind (fun r5 => some (.inr (r4 + 100, r3.1, (now.1, now.2.1, now.2.2.1, now.2.2.2.1, r5, now.2.2.2.2.2.1, now.2.2.2.2.2.2.1, now.2.2.2.2.2.2.2.1, now.2.2.2.2.2.2.2.2.1, now.2.2.2.2.2.2.2.2.2), r3.2)))))))
set_option maxHeartbeats 4000000 in
set_option maxRecDepth 100000 in
theorem mtX2_correct (l : Launch) (D : va_G) (t : Nat → ClassId) (bh : Nat) (bk : Nat → Nat) (bo : BoT) (nb : Nat → Nat) (now : ShT) (sa : Nat → Nat) (sb : Nat → Nat → Nat) (sv : (Nat → ShT)) (v : Int32) (w : Int32) (out : Int32 × BoT × ShT × (Nat → ShT)) (h : fX2_correct bo now sv v w = some (.inr out))  (sz : Nat) : Met l yX2_correct zX2_correct ({ frames := 3, cells := 0, slots := 0, locals := 64 }) (sPc D t (gBo bh bk bo ++ (gS t (bk 0) nb now ++ (gQ t (bk 3) sa ++ (g6 t sa sb sv)))) sz [.ref bh, .int v, .int w]) (qI D t (gBo bh bk out.2.1 ++ (gS t (bk 0) nb out.2.2.1 ++ (gQ t (bk 3) sa ++ (g6 t sa sb out.2.2.2)))) out.1 (va_A (gBo bh bk bo ++ (gS t (bk 0) nb now ++ (gQ t (bk 3) sa ++ (g6 t sa sb sv)))) sz)) 0 0 (va_A (gBo bh bk bo ++ (gS t (bk 0) nb now ++ (gQ t (bk 3) sa ++ (g6 t sa sb sv)))) sz) := by
  refine met_of (Qf := fun A => qI D t (gBo bh bk out.2.1 ++ (gS t (bk 0) nb out.2.2.1 ++ (gQ t (bk 3) sa ++ (g6 t sa sb out.2.2.2)))) out.1 A) (cc := cX2_correct) (maxL := 4) (ret := some .int) (by decide) rfl (Nat.le_of_ble_eq_true rfl) ?_
  intro p e s m args below meth c A hx hb hr hml hts hown hlocks hA hP hK hD hE hS ls hl
  have htB : ∀ w ∈ BIG, w.before args s = true := fun w h => hts w (List.mem_cons_of_mem _ h)
  have hown : s.vm.findClass RX2 = some m.cls := hown
  have hl : lv_has ls 4 [(0, .ref bh), (1, .int v), (2, .int w)] := hl
  unfold fX2_correct at h
  refine lv_iload_n hx hb dX2_correct_0 rfl (lv_at hl 1 rfl) ?_
  obtain ⟨r1, h1, h⟩ := tb_r h
  refine call_v (wc := ([] : va_W)) (wc' := ([] : va_W)) (ws' := (gBo bh bk bo ++ (gS t (bk 0) nb now ++ (gQ t (bk 3) sa ++ (g6 t sa sb sv))))) (cutB (bs := [gBo bh bk bo, gS t (bk 0) nb now, gQ t (bk 3) sa, g6 t sa sb sv]) (cs := []) (cs' := []) (bs' := [gBo bh bk bo, gS t (bk 0) nb now, gQ t (bk 3) sa, g6 t sa sb sv]) [] hP hD hS hA rfl rfl rfl rfl) hS (fun hPc hDc => va_runS (As := [.int v]) (rest := []) ⟨hx, hb, hml, hown, hts⟩ (mtX2_needSpeed l D t v r1 h1 _) (va_cwS 1 hts (gBS kw179 kw180 kw2 kw181) rfl rfl rfl (by decide +kernel) ⟨Nat.le_of_ble_eq_true rfl, Nat.le_of_ble_eq_true rfl⟩) (sPc_S hPc hK hDc hE) rfl rfl hl.1 rfl (lv_room (Nat.le_of_ble_eq_true rfl)) dX2_correct_1 ⟨Nat.zero_le _, Nat.zero_le _⟩) (fun H locs hP hD hS => ?_)
  refine lv_iload_n hx hb dX2_correct_4 rfl (lv_at hl 2 rfl) ?_
  refine lv_bipush (v := (-50)) hx hb dX2_correct_5 (by decide) ?_
  refine lv_bipush (v := 50) hx hb dX2_correct_7 (by decide) ?_
  obtain ⟨r2, h2, h⟩ := tb_r h
  refine call_v (wc := ([] : va_W)) (wc' := ([] : va_W)) (ws' := (gBo bh bk bo ++ (gS t (bk 0) nb now ++ (gQ t (bk 3) sa ++ (g6 t sa sb sv))))) (cutB (bs := [gBo bh bk bo, gS t (bk 0) nb now, gQ t (bk 3) sa, g6 t sa sb sv]) (cs := []) (cs' := []) (bs' := [gBo bh bk bo, gS t (bk 0) nb now, gQ t (bk 3) sa, g6 t sa sb sv]) [] hP hD hS hA rfl rfl rfl rfl) hS (fun hPc hDc => va_runS (As := [.int w, .int (-50), .int 50]) (rest := []) ⟨hx, hb, hml, hown, hts⟩ (mtX2_needRange l D t w (-50) 50 r2 h2 _) (va_cwS 3 hts (gBS kw81 kw82 kw2 kw83) rfl rfl rfl (by decide +kernel) ⟨Nat.le_of_ble_eq_true rfl, Nat.le_of_ble_eq_true rfl⟩) (sPc_S hPc hK hDc hE) rfl rfl hl.1 rfl (lv_room (Nat.le_of_ble_eq_true rfl)) dX2_correct_9 ⟨Nat.zero_le _, Nat.zero_le _⟩) (fun H locs hP hD hS => ?_)
  refine lv_aload_n hx hb dX2_correct_12 rfl (lv_at hl 0 rfl) ?_
  obtain ⟨r3, h3, h⟩ := ob h
  refine call_v (wc := (gBo bh bk bo ++ (gS t (bk 0) nb now ++ (gQ t (bk 3) sa ++ (g6 t sa sb sv))))) (wc' := (gBo bh bk r3.1 ++ (gS t (bk 0) nb now ++ (gQ t (bk 3) sa ++ (g6 t sa sb r3.2))))) (ws' := (gBo bh bk r3.1 ++ (gS t (bk 0) nb now ++ (gQ t (bk 3) sa ++ (g6 t sa sb r3.2))))) (cutB (bs := [gBo bh bk bo, gS t (bk 0) nb now, gQ t (bk 3) sa, g6 t sa sb sv]) (cs := [gBo bh bk bo, gS t (bk 0) nb now, gQ t (bk 3) sa, g6 t sa sb sv]) (cs' := [gBo bh bk r3.1, gS t (bk 0) nb now, gQ t (bk 3) sa, g6 t sa sb r3.2]) (bs' := [gBo bh bk r3.1, gS t (bk 0) nb now, gQ t (bk 3) sa, g6 t sa sb r3.2]) [0, 1, 2, 3] hP hD hS hA rfl rfl rfl rfl) hS (fun hPc hDc => va_runV (As := []) (rest := []) ⟨hx, hb, hml, hown, hts⟩ (mtX2_saveState l D t bh bk bo nb now sa sb sv r3 h3 _) (cwV 0 hts (gBV kw86 kw87 kw88 kw2 kw89) rfl rfl rfl (by decide +kernel) ⟨Nat.le_of_ble_eq_true rfl, Nat.le_of_ble_eq_true rfl⟩) (sPc_V hPc hK hDc hE (va_recv hK hP (ci := 2) (q0 := 0) rfl rfl)) rfl rfl hl.1 rfl (lv_room (Nat.le_of_ble_eq_true rfl)) dX2_correct_13 ⟨Nat.zero_le _, Nat.zero_le _⟩) (fun H locs hP hD hS => ?_)
  refine lv_aload_n hx hb dX2_correct_16 rfl (lv_at hl 0 rfl) ?_
  refine va_get (D := D) (ci := 2) (v := .ref (bk 0)) (C := RX2) (T := TX2) (N := 8) hx hb htB inlX2 hown hK hP 0 rfl rfl 0 (by decide) (htB _ kw17) (fun _ h9 => h9) rfl dX2_correct_17 ?_
  refine va_get (D := D) (ci := 1) (v := .ref (nb 4)) (C := RX1) (T := TX1) (N := 10) hx hb htB inlX1 hown hK hP 1 rfl rfl 4 (by decide) (htB _ kw178) (fun _ h9 => h9) rfl dX2_correct_20 ?_
  refine lv_iload_n hx hb dX2_correct_23 rfl (lv_at hl 1 rfl) ?_
  obtain ⟨r4, h4, h⟩ := ob h
  refine call_i (v := r4) (wc := (gA t (nb 4) 6 now.2.2.2.2.1)) (wc' := (gA t (nb 4) 6 now.2.2.2.2.1)) (ws' := (gBo bh bk r3.1 ++ (gS t (bk 0) nb now ++ (gQ t (bk 3) sa ++ (g6 t sa sb r3.2))))) (cutI (wc := (gA t (nb 4) 6 now.2.2.2.2.1)) (wc' := (gA t (nb 4) 6 now.2.2.2.2.1)) (ws' := (gBo bh bk r3.1 ++ (gS t (bk 0) nb now ++ (gQ t (bk 3) sa ++ (g6 t sa sb r3.2))))) [6] hP hD hS hA rfl rfl rfl rfl) hS (fun hPc hDc => va_runS (As := [.ref (nb 4), .int v]) (rest := []) ⟨hx, hb, hml, hown, hts⟩ (mtX2_at l D t (nb 4) 6 now.2.2.2.2.1 v r4 h4 (by decide) _) (va_cwS 2 hts (gBS kw104 kw105 kw2 kw106) rfl rfl rfl (by decide +kernel) ⟨Nat.le_of_ble_eq_true rfl, Nat.le_of_ble_eq_true rfl⟩) (sPc_S hPc hK hDc hE) rfl rfl hl.1 rfl (lv_room (Nat.le_of_ble_eq_true rfl)) dX2_correct_24 ⟨Nat.zero_le _, Nat.zero_le _⟩) (fun H locs hP hD hS => ?_)
  refine lv_istore_n (lv' := [(3, .int r4), (0, .ref bh), (1, .int v), (2, .int w)]) hx hb dX2_correct_27 rfl hl (by decide) rfl (fun ls hl => ?_)
  refine lv_aload_n hx hb dX2_correct_28 rfl (lv_at hl 1 rfl) ?_
  refine va_get (D := D) (ci := 2) (v := .ref (bk 0)) (C := RX2) (T := TX2) (N := 8) hx hb htB inlX2 hown hK hP 0 rfl rfl 0 (by decide) (htB _ kw17) (fun _ h9 => h9) rfl dX2_correct_29 ?_
  refine va_get (D := D) (ci := 1) (v := .ref (nb 4)) (C := RX1) (T := TX1) (N := 10) hx hb htB inlX1 hown hK hP 1 rfl rfl 4 (by decide) (htB _ kw178) (fun _ h9 => h9) rfl dX2_correct_32 ?_
  refine lv_iload_n hx hb dX2_correct_35 rfl (lv_at hl 2 rfl) ?_
  refine lv_iload_n hx hb dX2_correct_36 rfl (lv_at hl 3 rfl) ?_
  obtain ⟨r5, h5, h⟩ := ob h
  refine call_v (wc := (gA t (nb 4) 6 now.2.2.2.2.1)) (wc' := (gA t (nb 4) 6 r5)) (ws' := (gBo bh bk r3.1 ++ (gS t (bk 0) nb (now.1, now.2.1, now.2.2.1, now.2.2.2.1, r5, now.2.2.2.2.2.1, now.2.2.2.2.2.2.1, now.2.2.2.2.2.2.2.1, now.2.2.2.2.2.2.2.2.1, now.2.2.2.2.2.2.2.2.2) ++ (gQ t (bk 3) sa ++ (g6 t sa sb r3.2))))) (cutI (wc := (gA t (nb 4) 6 now.2.2.2.2.1)) (wc' := (gA t (nb 4) 6 r5)) (ws' := (gBo bh bk r3.1 ++ (gS t (bk 0) nb (now.1, now.2.1, now.2.2.1, now.2.2.2.1, r5, now.2.2.2.2.2.1, now.2.2.2.2.2.2.1, now.2.2.2.2.2.2.2.1, now.2.2.2.2.2.2.2.2.1, now.2.2.2.2.2.2.2.2.2) ++ (gQ t (bk 3) sa ++ (g6 t sa sb r3.2))))) [6] hP hD hS hA rfl rfl rfl rfl) hS (fun hPc hDc => va_runS (As := [.ref (nb 4), .int v, .int w]) (rest := []) ⟨hx, hb, hml, hown, hts⟩ (mtX2_put l D t (nb 4) 6 now.2.2.2.2.1 v w r5 h5 (by decide) _) (va_cwS 3 hts (gBS kw107 kw108 kw2 kw109) rfl rfl rfl (by decide +kernel) ⟨Nat.le_of_ble_eq_true rfl, Nat.le_of_ble_eq_true rfl⟩) (sPc_S hPc hK hDc hE) rfl rfl hl.1 rfl (lv_room (Nat.le_of_ble_eq_true rfl)) dX2_correct_37 ⟨Nat.zero_le _, Nat.zero_le _⟩) (fun H locs hP hD hS => ?_)
  refine lv_iload_n hx hb dX2_correct_40 rfl (lv_at hl 0 rfl) ?_
  refine lv_bipush (v := 100) hx hb dX2_correct_41 (by decide) ?_
  refine lv_iadd hx hb dX2_correct_43 ?_
  obtain rfl := oi h
  exact ret_i hx hb hr hlocks hP hK hD hS dX2_correct_44

theorem dX2_set_0 : decode cX2_set 0 = .ok (.iload_n 1, 1) := by decide +kernel
theorem dX2_set_1 : decode cX2_set 1 = .ok (.invokestatic 79, 3) := by decide +kernel
theorem dX2_set_4 : decode cX2_set 4 = .ok (.iload_n 2, 1) := by decide +kernel
theorem dX2_set_5 : decode cX2_set 5 = .ok (.iload_n 1, 1) := by decide +kernel
theorem dX2_set_6 : decode cX2_set 6 = .ok (.invokestatic 82, 3) := by decide +kernel
theorem dX2_set_9 : decode cX2_set 9 = .ok (.iload_n 1, 1) := by decide +kernel
theorem dX2_set_10 : decode cX2_set 10 = .ok (.invokestatic 86, 3) := by decide +kernel
theorem dX2_set_13 : decode cX2_set 13 = .ok (.invokestatic 48, 3) := by decide +kernel
theorem dX2_set_16 : decode cX2_set 16 = .ok (.aload_n 0, 1) := by decide +kernel
theorem dX2_set_17 : decode cX2_set 17 = .ok (.invokevirtual 52, 3) := by decide +kernel
theorem dX2_set_20 : decode cX2_set 20 = .ok (.aload_n 0, 1) := by decide +kernel
theorem dX2_set_21 : decode cX2_set 21 = .ok (.getfield 10, 3) := by decide +kernel
theorem dX2_set_24 : decode cX2_set 24 = .ok (.getfield 89, 3) := by decide +kernel
theorem dX2_set_27 : decode cX2_set 27 = .ok (.iload_n 1, 1) := by decide +kernel
theorem dX2_set_28 : decode cX2_set 28 = .ok (.invokestatic 58, 3) := by decide +kernel
theorem dX2_set_31 : decode cX2_set 31 = .ok (.istore_n 3, 1) := by decide +kernel
theorem dX2_set_32 : decode cX2_set 32 = .ok (.aload_n 0, 1) := by decide +kernel
theorem dX2_set_33 : decode cX2_set 33 = .ok (.getfield 10, 3) := by decide +kernel
theorem dX2_set_36 : decode cX2_set 36 = .ok (.getfield 89, 3) := by decide +kernel
theorem dX2_set_39 : decode cX2_set 39 = .ok (.iload_n 1, 1) := by decide +kernel
theorem dX2_set_40 : decode cX2_set 40 = .ok (.iload_n 2, 1) := by decide +kernel
theorem dX2_set_41 : decode cX2_set 41 = .ok (.invokestatic 62, 3) := by decide +kernel
theorem dX2_set_44 : decode cX2_set 44 = .ok (.iload_n 3, 1) := by decide +kernel
theorem dX2_set_45 : decode cX2_set 45 = .ok (.ireturn, 1) := by decide +kernel
abbrev zX2_set : List Cond := .code yX2_set cX2_set 4 (some .int) :: BIG
def fX2_set (bo : BoT) (now : ShT) (sv : (Nat → ShT)) (v : Int32) (w : Int32) : Option (Nat ⊕ (Int32 × BoT × ShT × (Nat → ShT))) := tb (fX2_needSetting v) (fun r1 => (fX2_leastValue v).bind (fun r2 => (fX2_mostValue v).bind (fun r3 => tb (fX2_needRange w r2 r3) (fun r4 => (fX2_saveState bo now sv).bind (fun r5 => (fX2_at 4 now.2.2.2.2.2.1 v).bind (fun r6 => (fX2_put 4 now.2.2.2.2.2.1 v w).bind (fun r7 => some (.inr (r6, r5.1, (now.1, now.2.1, now.2.2.1, now.2.2.2.1, now.2.2.2.2.1, r7, now.2.2.2.2.2.2.1, now.2.2.2.2.2.2.2.1, now.2.2.2.2.2.2.2.2.1, now.2.2.2.2.2.2.2.2.2), r5.2)))))))))
set_option maxHeartbeats 4000000 in
set_option maxRecDepth 100000 in
theorem mtX2_set (l : Launch) (D : va_G) (t : Nat → ClassId) (bh : Nat) (bk : Nat → Nat) (bo : BoT) (nb : Nat → Nat) (now : ShT) (sa : Nat → Nat) (sb : Nat → Nat → Nat) (sv : (Nat → ShT)) (v : Int32) (w : Int32) (out : Int32 × BoT × ShT × (Nat → ShT)) (h : fX2_set bo now sv v w = some (.inr out))  (sz : Nat) : Met l yX2_set zX2_set ({ frames := 3, cells := 0, slots := 0, locals := 64 }) (sPc D t (gBo bh bk bo ++ (gS t (bk 0) nb now ++ (gQ t (bk 3) sa ++ (g6 t sa sb sv)))) sz [.ref bh, .int v, .int w]) (qI D t (gBo bh bk out.2.1 ++ (gS t (bk 0) nb out.2.2.1 ++ (gQ t (bk 3) sa ++ (g6 t sa sb out.2.2.2)))) out.1 (va_A (gBo bh bk bo ++ (gS t (bk 0) nb now ++ (gQ t (bk 3) sa ++ (g6 t sa sb sv)))) sz)) 0 0 (va_A (gBo bh bk bo ++ (gS t (bk 0) nb now ++ (gQ t (bk 3) sa ++ (g6 t sa sb sv)))) sz) := by
  refine met_of (Qf := fun A => qI D t (gBo bh bk out.2.1 ++ (gS t (bk 0) nb out.2.2.1 ++ (gQ t (bk 3) sa ++ (g6 t sa sb out.2.2.2)))) out.1 A) (cc := cX2_set) (maxL := 4) (ret := some .int) (by decide) rfl (Nat.le_of_ble_eq_true rfl) ?_
  intro p e s m args below meth c A hx hb hr hml hts hown hlocks hA hP hK hD hE hS ls hl
  have htB : ∀ w ∈ BIG, w.before args s = true := fun w h => hts w (List.mem_cons_of_mem _ h)
  have hown : s.vm.findClass RX2 = some m.cls := hown
  have hl : lv_has ls 4 [(0, .ref bh), (1, .int v), (2, .int w)] := hl
  unfold fX2_set at h
  refine lv_iload_n hx hb dX2_set_0 rfl (lv_at hl 1 rfl) ?_
  obtain ⟨r1, h1, h⟩ := tb_r h
  refine call_v (wc := ([] : va_W)) (wc' := ([] : va_W)) (ws' := (gBo bh bk bo ++ (gS t (bk 0) nb now ++ (gQ t (bk 3) sa ++ (g6 t sa sb sv))))) (cutB (bs := [gBo bh bk bo, gS t (bk 0) nb now, gQ t (bk 3) sa, g6 t sa sb sv]) (cs := []) (cs' := []) (bs' := [gBo bh bk bo, gS t (bk 0) nb now, gQ t (bk 3) sa, g6 t sa sb sv]) [] hP hD hS hA rfl rfl rfl rfl) hS (fun hPc hDc => va_runS (As := [.int v]) (rest := []) ⟨hx, hb, hml, hown, hts⟩ (mtX2_needSetting l D t v r1 h1 _) (va_cwS 1 hts (gBS kw197 kw198 kw2 kw199) rfl rfl rfl (by decide +kernel) ⟨Nat.le_of_ble_eq_true rfl, Nat.le_of_ble_eq_true rfl⟩) (sPc_S hPc hK hDc hE) rfl rfl hl.1 rfl (lv_room (Nat.le_of_ble_eq_true rfl)) dX2_set_1 ⟨Nat.zero_le _, Nat.zero_le _⟩) (fun H locs hP hD hS => ?_)
  refine lv_iload_n hx hb dX2_set_4 rfl (lv_at hl 2 rfl) ?_
  refine lv_iload_n hx hb dX2_set_5 rfl (lv_at hl 1 rfl) ?_
  obtain ⟨r2, h2, h⟩ := ob h
  refine call_i (v := r2) (wc := ([] : va_W)) (wc' := ([] : va_W)) (ws' := (gBo bh bk bo ++ (gS t (bk 0) nb now ++ (gQ t (bk 3) sa ++ (g6 t sa sb sv))))) (cutB (bs := [gBo bh bk bo, gS t (bk 0) nb now, gQ t (bk 3) sa, g6 t sa sb sv]) (cs := []) (cs' := []) (bs' := [gBo bh bk bo, gS t (bk 0) nb now, gQ t (bk 3) sa, g6 t sa sb sv]) [] hP hD hS hA rfl rfl rfl rfl) hS (fun hPc hDc => va_runS (As := [.int v]) (rest := [.int w]) ⟨hx, hb, hml, hown, hts⟩ (mtX2_leastValue l D t v r2 h2 _) (va_cwS 1 hts (gBS kw200 kw201 kw2 kw202) rfl rfl rfl (by decide +kernel) ⟨Nat.le_of_ble_eq_true rfl, Nat.le_of_ble_eq_true rfl⟩) (sPc_S hPc hK hDc hE) rfl rfl hl.1 rfl (lv_room (Nat.le_of_ble_eq_true rfl)) dX2_set_6 ⟨Nat.zero_le _, Nat.zero_le _⟩) (fun H locs hP hD hS => ?_)
  refine lv_iload_n hx hb dX2_set_9 rfl (lv_at hl 1 rfl) ?_
  obtain ⟨r3, h3, h⟩ := ob h
  refine call_i (v := r3) (wc := ([] : va_W)) (wc' := ([] : va_W)) (ws' := (gBo bh bk bo ++ (gS t (bk 0) nb now ++ (gQ t (bk 3) sa ++ (g6 t sa sb sv))))) (cutB (bs := [gBo bh bk bo, gS t (bk 0) nb now, gQ t (bk 3) sa, g6 t sa sb sv]) (cs := []) (cs' := []) (bs' := [gBo bh bk bo, gS t (bk 0) nb now, gQ t (bk 3) sa, g6 t sa sb sv]) [] hP hD hS hA rfl rfl rfl rfl) hS (fun hPc hDc => va_runS (As := [.int v]) (rest := [.int r2, .int w]) ⟨hx, hb, hml, hown, hts⟩ (mtX2_mostValue l D t v r3 h3 _) (va_cwS 1 hts (gBS kw203 kw204 kw2 kw205) rfl rfl rfl (by decide +kernel) ⟨Nat.le_of_ble_eq_true rfl, Nat.le_of_ble_eq_true rfl⟩) (sPc_S hPc hK hDc hE) rfl rfl hl.1 rfl (lv_room (Nat.le_of_ble_eq_true rfl)) dX2_set_10 ⟨Nat.zero_le _, Nat.zero_le _⟩) (fun H locs hP hD hS => ?_)
  obtain ⟨r4, h4, h⟩ := tb_r h
  refine call_v (wc := ([] : va_W)) (wc' := ([] : va_W)) (ws' := (gBo bh bk bo ++ (gS t (bk 0) nb now ++ (gQ t (bk 3) sa ++ (g6 t sa sb sv))))) (cutB (bs := [gBo bh bk bo, gS t (bk 0) nb now, gQ t (bk 3) sa, g6 t sa sb sv]) (cs := []) (cs' := []) (bs' := [gBo bh bk bo, gS t (bk 0) nb now, gQ t (bk 3) sa, g6 t sa sb sv]) [] hP hD hS hA rfl rfl rfl rfl) hS (fun hPc hDc => va_runS (As := [.int w, .int r2, .int r3]) (rest := []) ⟨hx, hb, hml, hown, hts⟩ (mtX2_needRange l D t w r2 r3 r4 h4 _) (va_cwS 3 hts (gBS kw81 kw82 kw2 kw83) rfl rfl rfl (by decide +kernel) ⟨Nat.le_of_ble_eq_true rfl, Nat.le_of_ble_eq_true rfl⟩) (sPc_S hPc hK hDc hE) rfl rfl hl.1 rfl (lv_room (Nat.le_of_ble_eq_true rfl)) dX2_set_13 ⟨Nat.zero_le _, Nat.zero_le _⟩) (fun H locs hP hD hS => ?_)
  refine lv_aload_n hx hb dX2_set_16 rfl (lv_at hl 0 rfl) ?_
  obtain ⟨r5, h5, h⟩ := ob h
  refine call_v (wc := (gBo bh bk bo ++ (gS t (bk 0) nb now ++ (gQ t (bk 3) sa ++ (g6 t sa sb sv))))) (wc' := (gBo bh bk r5.1 ++ (gS t (bk 0) nb now ++ (gQ t (bk 3) sa ++ (g6 t sa sb r5.2))))) (ws' := (gBo bh bk r5.1 ++ (gS t (bk 0) nb now ++ (gQ t (bk 3) sa ++ (g6 t sa sb r5.2))))) (cutB (bs := [gBo bh bk bo, gS t (bk 0) nb now, gQ t (bk 3) sa, g6 t sa sb sv]) (cs := [gBo bh bk bo, gS t (bk 0) nb now, gQ t (bk 3) sa, g6 t sa sb sv]) (cs' := [gBo bh bk r5.1, gS t (bk 0) nb now, gQ t (bk 3) sa, g6 t sa sb r5.2]) (bs' := [gBo bh bk r5.1, gS t (bk 0) nb now, gQ t (bk 3) sa, g6 t sa sb r5.2]) [0, 1, 2, 3] hP hD hS hA rfl rfl rfl rfl) hS (fun hPc hDc => va_runV (As := []) (rest := []) ⟨hx, hb, hml, hown, hts⟩ (mtX2_saveState l D t bh bk bo nb now sa sb sv r5 h5 _) (cwV 0 hts (gBV kw86 kw87 kw88 kw2 kw89) rfl rfl rfl (by decide +kernel) ⟨Nat.le_of_ble_eq_true rfl, Nat.le_of_ble_eq_true rfl⟩) (sPc_V hPc hK hDc hE (va_recv hK hP (ci := 2) (q0 := 0) rfl rfl)) rfl rfl hl.1 rfl (lv_room (Nat.le_of_ble_eq_true rfl)) dX2_set_17 ⟨Nat.zero_le _, Nat.zero_le _⟩) (fun H locs hP hD hS => ?_)
  refine lv_aload_n hx hb dX2_set_20 rfl (lv_at hl 0 rfl) ?_
  refine va_get (D := D) (ci := 2) (v := .ref (bk 0)) (C := RX2) (T := TX2) (N := 8) hx hb htB inlX2 hown hK hP 0 rfl rfl 0 (by decide) (htB _ kw17) (fun _ h9 => h9) rfl dX2_set_21 ?_
  refine va_get (D := D) (ci := 1) (v := .ref (nb 5)) (C := RX1) (T := TX1) (N := 10) hx hb htB inlX1 hown hK hP 1 rfl rfl 5 (by decide) (htB _ kw196) (fun _ h9 => h9) rfl dX2_set_24 ?_
  refine lv_iload_n hx hb dX2_set_27 rfl (lv_at hl 1 rfl) ?_
  obtain ⟨r6, h6, h⟩ := ob h
  refine call_i (v := r6) (wc := (gA t (nb 5) 4 now.2.2.2.2.2.1)) (wc' := (gA t (nb 5) 4 now.2.2.2.2.2.1)) (ws' := (gBo bh bk r5.1 ++ (gS t (bk 0) nb now ++ (gQ t (bk 3) sa ++ (g6 t sa sb r5.2))))) (cutI (wc := (gA t (nb 5) 4 now.2.2.2.2.2.1)) (wc' := (gA t (nb 5) 4 now.2.2.2.2.2.1)) (ws' := (gBo bh bk r5.1 ++ (gS t (bk 0) nb now ++ (gQ t (bk 3) sa ++ (g6 t sa sb r5.2))))) [7] hP hD hS hA rfl rfl rfl rfl) hS (fun hPc hDc => va_runS (As := [.ref (nb 5), .int v]) (rest := []) ⟨hx, hb, hml, hown, hts⟩ (mtX2_at l D t (nb 5) 4 now.2.2.2.2.2.1 v r6 h6 (by decide) _) (va_cwS 2 hts (gBS kw104 kw105 kw2 kw106) rfl rfl rfl (by decide +kernel) ⟨Nat.le_of_ble_eq_true rfl, Nat.le_of_ble_eq_true rfl⟩) (sPc_S hPc hK hDc hE) rfl rfl hl.1 rfl (lv_room (Nat.le_of_ble_eq_true rfl)) dX2_set_28 ⟨Nat.zero_le _, Nat.zero_le _⟩) (fun H locs hP hD hS => ?_)
  refine lv_istore_n (lv' := [(3, .int r6), (0, .ref bh), (1, .int v), (2, .int w)]) hx hb dX2_set_31 rfl hl (by decide) rfl (fun ls hl => ?_)
  refine lv_aload_n hx hb dX2_set_32 rfl (lv_at hl 1 rfl) ?_
  refine va_get (D := D) (ci := 2) (v := .ref (bk 0)) (C := RX2) (T := TX2) (N := 8) hx hb htB inlX2 hown hK hP 0 rfl rfl 0 (by decide) (htB _ kw17) (fun _ h9 => h9) rfl dX2_set_33 ?_
  refine va_get (D := D) (ci := 1) (v := .ref (nb 5)) (C := RX1) (T := TX1) (N := 10) hx hb htB inlX1 hown hK hP 1 rfl rfl 5 (by decide) (htB _ kw196) (fun _ h9 => h9) rfl dX2_set_36 ?_
  refine lv_iload_n hx hb dX2_set_39 rfl (lv_at hl 2 rfl) ?_
  refine lv_iload_n hx hb dX2_set_40 rfl (lv_at hl 3 rfl) ?_
  obtain ⟨r7, h7, h⟩ := ob h
  refine call_v (wc := (gA t (nb 5) 4 now.2.2.2.2.2.1)) (wc' := (gA t (nb 5) 4 r7)) (ws' := (gBo bh bk r5.1 ++ (gS t (bk 0) nb (now.1, now.2.1, now.2.2.1, now.2.2.2.1, now.2.2.2.2.1, r7, now.2.2.2.2.2.2.1, now.2.2.2.2.2.2.2.1, now.2.2.2.2.2.2.2.2.1, now.2.2.2.2.2.2.2.2.2) ++ (gQ t (bk 3) sa ++ (g6 t sa sb r5.2))))) (cutI (wc := (gA t (nb 5) 4 now.2.2.2.2.2.1)) (wc' := (gA t (nb 5) 4 r7)) (ws' := (gBo bh bk r5.1 ++ (gS t (bk 0) nb (now.1, now.2.1, now.2.2.1, now.2.2.2.1, now.2.2.2.2.1, r7, now.2.2.2.2.2.2.1, now.2.2.2.2.2.2.2.1, now.2.2.2.2.2.2.2.2.1, now.2.2.2.2.2.2.2.2.2) ++ (gQ t (bk 3) sa ++ (g6 t sa sb r5.2))))) [7] hP hD hS hA rfl rfl rfl rfl) hS (fun hPc hDc => va_runS (As := [.ref (nb 5), .int v, .int w]) (rest := []) ⟨hx, hb, hml, hown, hts⟩ (mtX2_put l D t (nb 5) 4 now.2.2.2.2.2.1 v w r7 h7 (by decide) _) (va_cwS 3 hts (gBS kw107 kw108 kw2 kw109) rfl rfl rfl (by decide +kernel) ⟨Nat.le_of_ble_eq_true rfl, Nat.le_of_ble_eq_true rfl⟩) (sPc_S hPc hK hDc hE) rfl rfl hl.1 rfl (lv_room (Nat.le_of_ble_eq_true rfl)) dX2_set_41 ⟨Nat.zero_le _, Nat.zero_le _⟩) (fun H locs hP hD hS => ?_)
  refine lv_iload_n hx hb dX2_set_44 rfl (lv_at hl 0 rfl) ?_
  obtain rfl := oi h
  exact ret_i hx hb hr hlocks hP hK hD hS dX2_set_45

theorem dX2_shoot_0 : decode cX2_shoot 0 = .ok (.iload_n 1, 1) := by decide +kernel
theorem dX2_shoot_1 : decode cX2_shoot 1 = .ok (.invokestatic 73, 3) := by decide +kernel
theorem dX2_shoot_4 : decode cX2_shoot 4 = .ok (.iload_n 2, 1) := by decide +kernel
theorem dX2_shoot_5 : decode cX2_shoot 5 = .ok (.iconst 1, 1) := by decide +kernel
theorem dX2_shoot_6 : decode cX2_shoot 6 = .ok (.bipush 50, 2) := by decide +kernel
theorem dX2_shoot_8 : decode cX2_shoot 8 = .ok (.invokestatic 48, 3) := by decide +kernel
theorem dX2_shoot_11 : decode cX2_shoot 11 = .ok (.aload_n 0, 1) := by decide +kernel
theorem dX2_shoot_12 : decode cX2_shoot 12 = .ok (.invokevirtual 52, 3) := by decide +kernel
theorem dX2_shoot_15 : decode cX2_shoot 15 = .ok (.aload_n 0, 1) := by decide +kernel
theorem dX2_shoot_16 : decode cX2_shoot 16 = .ok (.aload_n 0, 1) := by decide +kernel
theorem dX2_shoot_17 : decode cX2_shoot 17 = .ok (.getfield 10, 3) := by decide +kernel
theorem dX2_shoot_20 : decode cX2_shoot 20 = .ok (.iload_n 1, 1) := by decide +kernel
theorem dX2_shoot_21 : decode cX2_shoot 21 = .ok (.iload_n 2, 1) := by decide +kernel
theorem dX2_shoot_22 : decode cX2_shoot 22 = .ok (.invokevirtual 92, 3) := by decide +kernel
theorem dX2_shoot_25 : decode cX2_shoot 25 = .ok (.aload_n 0, 1) := by decide +kernel
theorem dX2_shoot_26 : decode cX2_shoot 26 = .ok (.getfield 22, 3) := by decide +kernel
theorem dX2_shoot_29 : decode cX2_shoot 29 = .ok (.invokevirtual 96, 3) := by decide +kernel
theorem dX2_shoot_32 : decode cX2_shoot 32 = .ok (.ireturn, 1) := by decide +kernel
abbrev zX2_shoot : List Cond := .code yX2_shoot cX2_shoot 3 (some .int) :: BIG
def fX2_shoot (bo : BoT) (now : ShT) (ex : ExT) (sv : (Nat → ShT)) (v : Int32) (w : Int32) : Option (Nat ⊕ (Int32 × BoT × ShT × ExT × (Nat → ShT))) := tb (fX2_needSpeed v) (fun r1 => tb (fX2_needRange w 1 50) (fun r2 => (fX2_saveState bo now sv).bind (fun r3 => (fX2_fire r3.1 ex now v w).bind (fun r4 => (fX0_spread r4.1).bind (fun r5 => some (.inr (r5, r3.1, r4.2, r4.1, r3.2)))))))
set_option maxHeartbeats 4000000 in
set_option maxRecDepth 100000 in
theorem mtX2_shoot (l : Launch) (D : va_G) (t : Nat → ClassId) (bh : Nat) (bk : Nat → Nat) (bo : BoT) (nb : Nat → Nat) (now : ShT) (eb : Nat → Nat) (ex : ExT) (sa : Nat → Nat) (sb : Nat → Nat → Nat) (sv : (Nat → ShT)) (v : Int32) (w : Int32) (out : Int32 × BoT × ShT × ExT × (Nat → ShT)) (h : fX2_shoot bo now ex sv v w = some (.inr out))  (sz : Nat) : Met l yX2_shoot zX2_shoot ({ frames := 5, cells := 0, slots := 0, locals := 117 }) (sPc D t (gBo bh bk bo ++ (gS t (bk 0) nb now ++ (gE t (bk 2) eb ex ++ (gQ t (bk 3) sa ++ (g6 t sa sb sv))))) sz [.ref bh, .int v, .int w]) (qI D t (gBo bh bk out.2.1 ++ (gS t (bk 0) nb out.2.2.1 ++ (gE t (bk 2) eb out.2.2.2.1 ++ (gQ t (bk 3) sa ++ (g6 t sa sb out.2.2.2.2))))) out.1 (va_A (gBo bh bk bo ++ (gS t (bk 0) nb now ++ (gE t (bk 2) eb ex ++ (gQ t (bk 3) sa ++ (g6 t sa sb sv))))) sz)) 0 0 (va_A (gBo bh bk bo ++ (gS t (bk 0) nb now ++ (gE t (bk 2) eb ex ++ (gQ t (bk 3) sa ++ (g6 t sa sb sv))))) sz) := by
  refine met_of (Qf := fun A => qI D t (gBo bh bk out.2.1 ++ (gS t (bk 0) nb out.2.2.1 ++ (gE t (bk 2) eb out.2.2.2.1 ++ (gQ t (bk 3) sa ++ (g6 t sa sb out.2.2.2.2))))) out.1 A) (cc := cX2_shoot) (maxL := 3) (ret := some .int) (by decide) rfl (Nat.le_of_ble_eq_true rfl) ?_
  intro p e s m args below meth c A hx hb hr hml hts hown hlocks hA hP hK hD hE hS ls hl
  have htB : ∀ w ∈ BIG, w.before args s = true := fun w h => hts w (List.mem_cons_of_mem _ h)
  have hown : s.vm.findClass RX2 = some m.cls := hown
  have hl : lv_has ls 3 [(0, .ref bh), (1, .int v), (2, .int w)] := hl
  unfold fX2_shoot at h
  refine lv_iload_n hx hb dX2_shoot_0 rfl (lv_at hl 1 rfl) ?_
  obtain ⟨r1, h1, h⟩ := tb_r h
  refine call_v (wc := ([] : va_W)) (wc' := ([] : va_W)) (ws' := (gBo bh bk bo ++ (gS t (bk 0) nb now ++ (gE t (bk 2) eb ex ++ (gQ t (bk 3) sa ++ (g6 t sa sb sv)))))) (cutB (bs := [gBo bh bk bo, gS t (bk 0) nb now, gE t (bk 2) eb ex, gQ t (bk 3) sa, g6 t sa sb sv]) (cs := []) (cs' := []) (bs' := [gBo bh bk bo, gS t (bk 0) nb now, gE t (bk 2) eb ex, gQ t (bk 3) sa, g6 t sa sb sv]) [] hP hD hS hA rfl rfl rfl rfl) hS (fun hPc hDc => va_runS (As := [.int v]) (rest := []) ⟨hx, hb, hml, hown, hts⟩ (mtX2_needSpeed l D t v r1 h1 _) (va_cwS 1 hts (gBS kw179 kw180 kw2 kw181) rfl rfl rfl (by decide +kernel) ⟨Nat.le_of_ble_eq_true rfl, Nat.le_of_ble_eq_true rfl⟩) (sPc_S hPc hK hDc hE) rfl rfl hl.1 rfl (lv_room (Nat.le_of_ble_eq_true rfl)) dX2_shoot_1 ⟨Nat.zero_le _, Nat.zero_le _⟩) (fun H locs hP hD hS => ?_)
  refine lv_iload_n hx hb dX2_shoot_4 rfl (lv_at hl 2 rfl) ?_
  refine lv_iconst (v := 1) hx hb dX2_shoot_5 (by decide) ?_
  refine lv_bipush (v := 50) hx hb dX2_shoot_6 (by decide) ?_
  obtain ⟨r2, h2, h⟩ := tb_r h
  refine call_v (wc := ([] : va_W)) (wc' := ([] : va_W)) (ws' := (gBo bh bk bo ++ (gS t (bk 0) nb now ++ (gE t (bk 2) eb ex ++ (gQ t (bk 3) sa ++ (g6 t sa sb sv)))))) (cutB (bs := [gBo bh bk bo, gS t (bk 0) nb now, gE t (bk 2) eb ex, gQ t (bk 3) sa, g6 t sa sb sv]) (cs := []) (cs' := []) (bs' := [gBo bh bk bo, gS t (bk 0) nb now, gE t (bk 2) eb ex, gQ t (bk 3) sa, g6 t sa sb sv]) [] hP hD hS hA rfl rfl rfl rfl) hS (fun hPc hDc => va_runS (As := [.int w, .int 1, .int 50]) (rest := []) ⟨hx, hb, hml, hown, hts⟩ (mtX2_needRange l D t w 1 50 r2 h2 _) (va_cwS 3 hts (gBS kw81 kw82 kw2 kw83) rfl rfl rfl (by decide +kernel) ⟨Nat.le_of_ble_eq_true rfl, Nat.le_of_ble_eq_true rfl⟩) (sPc_S hPc hK hDc hE) rfl rfl hl.1 rfl (lv_room (Nat.le_of_ble_eq_true rfl)) dX2_shoot_8 ⟨Nat.zero_le _, Nat.zero_le _⟩) (fun H locs hP hD hS => ?_)
  refine lv_aload_n hx hb dX2_shoot_11 rfl (lv_at hl 0 rfl) ?_
  obtain ⟨r3, h3, h⟩ := ob h
  refine call_v (wc := (gBo bh bk bo ++ (gS t (bk 0) nb now ++ (gQ t (bk 3) sa ++ (g6 t sa sb sv))))) (wc' := (gBo bh bk r3.1 ++ (gS t (bk 0) nb now ++ (gQ t (bk 3) sa ++ (g6 t sa sb r3.2))))) (ws' := (gBo bh bk r3.1 ++ (gS t (bk 0) nb now ++ (gE t (bk 2) eb ex ++ (gQ t (bk 3) sa ++ (g6 t sa sb r3.2)))))) (cutB (bs := [gBo bh bk bo, gS t (bk 0) nb now, gE t (bk 2) eb ex, gQ t (bk 3) sa, g6 t sa sb sv]) (cs := [gBo bh bk bo, gS t (bk 0) nb now, gQ t (bk 3) sa, g6 t sa sb sv]) (cs' := [gBo bh bk r3.1, gS t (bk 0) nb now, gQ t (bk 3) sa, g6 t sa sb r3.2]) (bs' := [gBo bh bk r3.1, gS t (bk 0) nb now, gE t (bk 2) eb ex, gQ t (bk 3) sa, g6 t sa sb r3.2]) [0, 1, 3, 4] hP hD hS hA rfl rfl rfl rfl) hS (fun hPc hDc => va_runV (As := []) (rest := []) ⟨hx, hb, hml, hown, hts⟩ (mtX2_saveState l D t bh bk bo nb now sa sb sv r3 h3 _) (cwV 0 hts (gBV kw86 kw87 kw88 kw2 kw89) rfl rfl rfl (by decide +kernel) ⟨Nat.le_of_ble_eq_true rfl, Nat.le_of_ble_eq_true rfl⟩) (sPc_V hPc hK hDc hE (va_recv hK hP (ci := 2) (q0 := 0) rfl rfl)) rfl rfl hl.1 rfl (lv_room (Nat.le_of_ble_eq_true rfl)) dX2_shoot_12 ⟨Nat.zero_le _, Nat.zero_le _⟩) (fun H locs hP hD hS => ?_)
  refine lv_aload_n hx hb dX2_shoot_15 rfl (lv_at hl 0 rfl) ?_
  refine lv_aload_n hx hb dX2_shoot_16 rfl (lv_at hl 0 rfl) ?_
  refine va_get (D := D) (ci := 2) (v := .ref (bk 0)) (C := RX2) (T := TX2) (N := 8) hx hb htB inlX2 hown hK hP 0 rfl rfl 0 (by decide) (htB _ kw17) (fun _ h9 => h9) rfl dX2_shoot_17 ?_
  refine lv_iload_n hx hb dX2_shoot_20 rfl (lv_at hl 1 rfl) ?_
  refine lv_iload_n hx hb dX2_shoot_21 rfl (lv_at hl 2 rfl) ?_
  obtain ⟨r4, h4, h⟩ := ob h
  refine call_v (wc := (gBo bh bk r3.1 ++ (gE t (bk 2) eb ex ++ (gS t (bk 0) nb now)))) (wc' := (gBo bh bk r3.1 ++ (gE t (bk 2) eb r4.1 ++ (gS t (bk 0) nb r4.2)))) (ws' := (gBo bh bk r3.1 ++ (gS t (bk 0) nb r4.2 ++ (gE t (bk 2) eb r4.1 ++ (gQ t (bk 3) sa ++ (g6 t sa sb r3.2)))))) (cutB (bs := [gBo bh bk r3.1, gS t (bk 0) nb now, gE t (bk 2) eb ex, gQ t (bk 3) sa, g6 t sa sb r3.2]) (cs := [gBo bh bk r3.1, gE t (bk 2) eb ex, gS t (bk 0) nb now]) (cs' := [gBo bh bk r3.1, gE t (bk 2) eb r4.1, gS t (bk 0) nb r4.2]) (bs' := [gBo bh bk r3.1, gS t (bk 0) nb r4.2, gE t (bk 2) eb r4.1, gQ t (bk 3) sa, g6 t sa sb r3.2]) [0, 2, 1] hP hD hS hA rfl rfl rfl rfl) hS (fun hPc hDc => va_runV (As := [.ref (bk 0), .int v, .int w]) (rest := []) ⟨hx, hb, hml, hown, hts⟩ (mtX2_fire l D t bh bk r3.1 eb ex (bk 0) nb now v w r4 h4 _) (cwV 3 hts (gBV kw220 kw221 kw222 kw2 kw223) rfl rfl rfl (by decide +kernel) ⟨Nat.le_of_ble_eq_true rfl, Nat.le_of_ble_eq_true rfl⟩) (sPc_V hPc hK hDc hE (va_recv hK hP (ci := 2) (q0 := 0) rfl rfl)) rfl rfl hl.1 rfl (lv_room (Nat.le_of_ble_eq_true rfl)) dX2_shoot_22 ⟨Nat.zero_le _, Nat.zero_le _⟩) (fun H locs hP hD hS => ?_)
  refine lv_aload_n hx hb dX2_shoot_25 rfl (lv_at hl 0 rfl) ?_
  refine va_get (D := D) (ci := 2) (v := .ref (bk 2)) (C := RX2) (T := TX2) (N := 8) hx hb htB inlX2 hown hK hP 0 rfl rfl 2 (by decide) (htB _ kw22) (fun _ h9 => h9) rfl dX2_shoot_26 ?_
  obtain ⟨r5, h5, h⟩ := ob h
  refine call_i (v := r5) (wc := (gE t (bk 2) eb r4.1)) (wc' := (gE t (bk 2) eb r4.1)) (ws' := (gBo bh bk r3.1 ++ (gS t (bk 0) nb r4.2 ++ (gE t (bk 2) eb r4.1 ++ (gQ t (bk 3) sa ++ (g6 t sa sb r3.2)))))) (cutB (bs := [gBo bh bk r3.1, gS t (bk 0) nb r4.2, gE t (bk 2) eb r4.1, gQ t (bk 3) sa, g6 t sa sb r3.2]) (cs := [gE t (bk 2) eb r4.1]) (cs' := [gE t (bk 2) eb r4.1]) (bs' := [gBo bh bk r3.1, gS t (bk 0) nb r4.2, gE t (bk 2) eb r4.1, gQ t (bk 3) sa, g6 t sa sb r3.2]) [2] hP hD hS hA rfl rfl rfl rfl) hS (fun hPc hDc => va_runV (As := []) (rest := []) ⟨hx, hb, hml, hown, hts⟩ (mtX0_spread l D t (bk 2) eb r4.1 r5 h5 _) (cwV 0 hts (gBV kw282 kw279 kw280 kw21 kw281) rfl rfl rfl (by decide +kernel) ⟨Nat.le_of_ble_eq_true rfl, Nat.le_of_ble_eq_true rfl⟩) (sPc_V hPc hK hDc hE (va_recv hK hP (ci := 0) (q0 := 9) rfl rfl)) rfl rfl hl.1 rfl (lv_room (Nat.le_of_ble_eq_true rfl)) dX2_shoot_29 ⟨Nat.zero_le _, Nat.zero_le _⟩) (fun H locs hP hD hS => ?_)
  obtain rfl := oi h
  exact ret_i hx hb hr hlocks hP hK hD hS dX2_shoot_32

theorem dX2_append_0 : decode cX2_append 0 = .ok (.iload_n 1, 1) := by decide +kernel
theorem dX2_append_1 : decode cX2_append 1 = .ok (.bipush 33, 2) := by decide +kernel
theorem dX2_append_3 : decode cX2_append 3 = .ok (.bipush 126, 2) := by decide +kernel
theorem dX2_append_5 : decode cX2_append 5 = .ok (.invokestatic 48, 3) := by decide +kernel
theorem dX2_append_8 : decode cX2_append 8 = .ok (.aload_n 0, 1) := by decide +kernel
theorem dX2_append_9 : decode cX2_append 9 = .ok (.getfield 41, 3) := by decide +kernel
theorem dX2_append_12 : decode cX2_append 12 = .ok (.bipush 60, 2) := by decide +kernel
theorem dX2_append_14 : decode cX2_append 14 = .ok (.if_icmp .lt 13, 3) := by decide +kernel
theorem dX2_append_17 : decode cX2_append 17 = .ok (.new 100, 3) := by decide +kernel
theorem dX2_append_27 : decode cX2_append 27 = .ok (.aload_n 0, 1) := by decide +kernel
theorem dX2_append_28 : decode cX2_append 28 = .ok (.getfield 37, 3) := by decide +kernel
theorem dX2_append_31 : decode cX2_append 31 = .ok (.aload_n 0, 1) := by decide +kernel
theorem dX2_append_32 : decode cX2_append 32 = .ok (.getfield 41, 3) := by decide +kernel
theorem dX2_append_35 : decode cX2_append 35 = .ok (.iload_n 1, 1) := by decide +kernel
theorem dX2_append_36 : decode cX2_append 36 = .ok (.invokestatic 62, 3) := by decide +kernel
theorem dX2_append_39 : decode cX2_append 39 = .ok (.aload_n 0, 1) := by decide +kernel
theorem dX2_append_40 : decode cX2_append 40 = .ok (.dup, 1) := by decide +kernel
theorem dX2_append_41 : decode cX2_append 41 = .ok (.getfield 41, 3) := by decide +kernel
theorem dX2_append_44 : decode cX2_append 44 = .ok (.iconst 1, 1) := by decide +kernel
theorem dX2_append_45 : decode cX2_append 45 = .ok (.iadd, 1) := by decide +kernel
theorem dX2_append_46 : decode cX2_append 46 = .ok (.putfield 41, 3) := by decide +kernel
theorem dX2_append_49 : decode cX2_append 49 = .ok (.aload_n 0, 1) := by decide +kernel
theorem dX2_append_50 : decode cX2_append 50 = .ok (.getfield 41, 3) := by decide +kernel
theorem dX2_append_53 : decode cX2_append 53 = .ok (.ireturn, 1) := by decide +kernel
abbrev zX2_append : List Cond := .code yX2_append cX2_append 2 (some .int) :: BIG
def fX2_append (bo : BoT) (buf : (Nat → Int32)) (v : Int32) : Option (Nat ⊕ (Int32 × BoT × (Nat → Int32))) := tb (fX2_needRange v 33 126) (fun r1 => (if bo.2.2 < 60 then (fX2_put 60 buf bo.2.2 v).bind (fun r3 => some (.inr ((bo.2.2 + 1), (bo.1, bo.2.1, (bo.2.2 + 1)), r3))) else some (.inl 2)))
set_option maxHeartbeats 4000000 in
set_option maxRecDepth 100000 in
theorem mtX2_append (l : Launch) (D : va_G) (t : Nat → ClassId) (bh : Nat) (bk : Nat → Nat) (bo : BoT) (buf : (Nat → Int32)) (v : Int32) (out : Int32 × BoT × (Nat → Int32)) (h : fX2_append bo buf v = some (.inr out))  (sz : Nat) : Met l yX2_append zX2_append ({ frames := 1, cells := 0, slots := 0, locals := 22 }) (sPc D t (gBo bh bk bo ++ (gA t (bk 4) 60 buf)) sz [.ref bh, .int v]) (qI D t (gBo bh bk out.2.1 ++ (gA t (bk 4) 60 out.2.2)) out.1 (va_A (gBo bh bk bo ++ (gA t (bk 4) 60 buf)) sz)) 0 0 (va_A (gBo bh bk bo ++ (gA t (bk 4) 60 buf)) sz) := by
  refine met_of (Qf := fun A => qI D t (gBo bh bk out.2.1 ++ (gA t (bk 4) 60 out.2.2)) out.1 A) (cc := cX2_append) (maxL := 2) (ret := some .int) (by decide) rfl (Nat.le_of_ble_eq_true rfl) ?_
  intro p e s m args below meth c A hx hb hr hml hts hown hlocks hA hP hK hD hE hS ls hl
  have htB : ∀ w ∈ BIG, w.before args s = true := fun w h => hts w (List.mem_cons_of_mem _ h)
  have hown : s.vm.findClass RX2 = some m.cls := hown
  have hl : lv_has ls 2 [(0, .ref bh), (1, .int v)] := hl
  unfold fX2_append at h
  refine lv_iload_n hx hb dX2_append_0 rfl (lv_at hl 1 rfl) ?_
  refine lv_bipush (v := 33) hx hb dX2_append_1 (by decide) ?_
  refine lv_bipush (v := 126) hx hb dX2_append_3 (by decide) ?_
  obtain ⟨r1, h1, h⟩ := tb_r h
  refine call_v (wc := ([] : va_W)) (wc' := ([] : va_W)) (ws' := (gBo bh bk bo ++ (gA t (bk 4) 60 buf))) (cutB (bs := [gBo bh bk bo, gA t (bk 4) 60 buf]) (cs := []) (cs' := []) (bs' := [gBo bh bk bo, gA t (bk 4) 60 buf]) [] hP hD hS hA rfl rfl rfl rfl) hS (fun hPc hDc => va_runS (As := [.int v, .int 33, .int 126]) (rest := []) ⟨hx, hb, hml, hown, hts⟩ (mtX2_needRange l D t v 33 126 r1 h1 _) (va_cwS 3 hts (gBS kw81 kw82 kw2 kw83) rfl rfl rfl (by decide +kernel) ⟨Nat.le_of_ble_eq_true rfl, Nat.le_of_ble_eq_true rfl⟩) (sPc_S hPc hK hDc hE) rfl rfl hl.1 rfl (lv_room (Nat.le_of_ble_eq_true rfl)) dX2_append_5 ⟨Nat.zero_le _, Nat.zero_le _⟩) (fun H locs hP hD hS => ?_)
  refine lv_aload_n hx hb dX2_append_8 rfl (lv_at hl 0 rfl) ?_
  refine va_get (D := D) (ci := 2) (v := .int bo.2.2) (C := RX2) (T := TX2) (N := 8) hx hb htB inlX2 hown hK hP 0 rfl rfl 7 (by decide) (htB _ kw28) (fun _ h9 => h9) rfl dX2_append_9 ?_
  refine lv_bipush (v := 60) hx hb dX2_append_12 (by decide) ?_
  refine lv_icmp_lt (tgt := 27) hx hb dX2_append_14 (by decide) (fun c2 => ?_) (fun c2 => ?_)
  · have h := it_p c2 h
    refine lv_aload_n hx hb dX2_append_27 rfl (lv_at hl 0 rfl) ?_
    refine va_get (D := D) (ci := 2) (v := .ref (bk 4)) (C := RX2) (T := TX2) (N := 8) hx hb htB inlX2 hown hK hP 0 rfl rfl 6 (by decide) (htB _ kw27) (fun _ h9 => h9) rfl dX2_append_28 ?_
    refine lv_aload_n hx hb dX2_append_31 rfl (lv_at hl 0 rfl) ?_
    refine va_get (D := D) (ci := 2) (v := .int bo.2.2) (C := RX2) (T := TX2) (N := 8) hx hb htB inlX2 hown hK hP 0 rfl rfl 7 (by decide) (htB _ kw28) (fun _ h9 => h9) rfl dX2_append_32 ?_
    refine lv_iload_n hx hb dX2_append_35 rfl (lv_at hl 1 rfl) ?_
    obtain ⟨r3, h3, h⟩ := ob h
    refine call_v (wc := (gA t (bk 4) 60 buf)) (wc' := (gA t (bk 4) 60 r3)) (ws' := (gBo bh bk bo ++ (gA t (bk 4) 60 r3))) (cutB (bs := [gBo bh bk bo, gA t (bk 4) 60 buf]) (cs := [gA t (bk 4) 60 buf]) (cs' := [gA t (bk 4) 60 r3]) (bs' := [gBo bh bk bo, gA t (bk 4) 60 r3]) [1] hP hD hS hA rfl rfl rfl rfl) hS (fun hPc hDc => va_runS (As := [.ref (bk 4), .int bo.2.2, .int v]) (rest := []) ⟨hx, hb, hml, hown, hts⟩ (mtX2_put l D t (bk 4) 60 buf bo.2.2 v r3 h3 (by decide) _) (va_cwS 3 hts (gBS kw107 kw108 kw2 kw109) rfl rfl rfl (by decide +kernel) ⟨Nat.le_of_ble_eq_true rfl, Nat.le_of_ble_eq_true rfl⟩) (sPc_S hPc hK hDc hE) rfl rfl hl.1 rfl (lv_room (Nat.le_of_ble_eq_true rfl)) dX2_append_36 ⟨Nat.zero_le _, Nat.zero_le _⟩) (fun H locs hP hD hS => ?_)
    refine lv_aload_n hx hb dX2_append_39 rfl (lv_at hl 0 rfl) ?_
    refine lv_dup hx hb dX2_append_40 rfl ?_
    refine va_get (D := D) (ci := 2) (v := .int bo.2.2) (C := RX2) (T := TX2) (N := 8) hx hb htB inlX2 hown hK hP 0 rfl rfl 7 (by decide) (htB _ kw28) (fun _ h9 => h9) rfl dX2_append_41 ?_
    refine lv_iconst (v := 1) hx hb dX2_append_44 (by decide) ?_
    refine lv_iadd hx hb dX2_append_45 ?_
    refine va_put (D := D) (ci := 2) (v := .int (bo.2.2 + 1)) (ty := .int) (C := RX2) (T := TX2) (N := 8) hx hb htB inlX2 tyX2 tyX2_ok nmX2 hown hK hP hD hS 0 rfl rfl 7 (by decide) (htB _ kw28) (fun _ h9 => h9) rfl (by decide +kernel) rfl rfl (Nat.le_of_ble_eq_true rfl) dX2_append_46 (fun H locs hP hD hS => ?_)
    have hP : va_P D vwCl (gBo bh bk (bo.1, bo.2.1, (bo.2.2 + 1)) ++ (gA t (bk 4) 60 r3)) H := hP
    have hD : va_D A (gBo bh bk (bo.1, bo.2.1, (bo.2.2 + 1)) ++ (gA t (bk 4) 60 r3)) := hD
    refine lv_aload_n hx hb dX2_append_49 rfl (lv_at hl 0 rfl) ?_
    refine va_get (D := D) (ci := 2) (v := .int (bo.2.2 + 1)) (C := RX2) (T := TX2) (N := 8) hx hb htB inlX2 hown hK hP 0 rfl rfl 7 (by decide) (htB _ kw28) (fun _ h9 => h9) rfl dX2_append_50 ?_
    obtain rfl := oi h
    exact ret_i hx hb hr hlocks hP hK hD hS dX2_append_53
  · have h := it_n c2 h
    cases h

theorem dX2_clearBuffer_0 : decode cX2_clearBuffer 0 = .ok (.aload_n 0, 1) := by decide +kernel
theorem dX2_clearBuffer_1 : decode cX2_clearBuffer 1 = .ok (.getfield 41, 3) := by decide +kernel
theorem dX2_clearBuffer_4 : decode cX2_clearBuffer 4 = .ok (.istore_n 1, 1) := by decide +kernel
theorem dX2_clearBuffer_5 : decode cX2_clearBuffer 5 = .ok (.aload_n 0, 1) := by decide +kernel
theorem dX2_clearBuffer_6 : decode cX2_clearBuffer 6 = .ok (.iconst 0, 1) := by decide +kernel
theorem dX2_clearBuffer_7 : decode cX2_clearBuffer 7 = .ok (.putfield 41, 3) := by decide +kernel
theorem dX2_clearBuffer_10 : decode cX2_clearBuffer 10 = .ok (.iload_n 1, 1) := by decide +kernel
theorem dX2_clearBuffer_11 : decode cX2_clearBuffer 11 = .ok (.ireturn, 1) := by decide +kernel
abbrev zX2_clearBuffer : List Cond := .code yX2_clearBuffer cX2_clearBuffer 2 (some .int) :: BIG
def fX2_clearBuffer (bo : BoT) : Option (Int32 × BoT) := some (bo.2.2, (bo.1, bo.2.1, 0))
set_option maxHeartbeats 4000000 in
set_option maxRecDepth 100000 in
theorem mtX2_clearBuffer (l : Launch) (D : va_G) (t : Nat → ClassId) (bh : Nat) (bk : Nat → Nat) (bo : BoT) (out : Int32 × BoT) (h : fX2_clearBuffer bo = some out)  (sz : Nat) : Met l yX2_clearBuffer zX2_clearBuffer ({ frames := 0, cells := 0, slots := 0, locals := 0 }) (sPc D t (gBo bh bk bo) sz [.ref bh]) (qI D t (gBo bh bk out.2) out.1 (va_A (gBo bh bk bo) sz)) 0 0 (va_A (gBo bh bk bo) sz) := by
  refine met_of (Qf := fun A => qI D t (gBo bh bk out.2) out.1 A) (cc := cX2_clearBuffer) (maxL := 2) (ret := some .int) (by decide) rfl (Nat.le_of_ble_eq_true rfl) ?_
  intro p e s m args below meth c A hx hb hr hml hts hown hlocks hA hP hK hD hE hS ls hl
  have htB : ∀ w ∈ BIG, w.before args s = true := fun w h => hts w (List.mem_cons_of_mem _ h)
  have hown : s.vm.findClass RX2 = some m.cls := hown
  have hl : lv_has ls 2 [(0, .ref bh)] := hl
  unfold fX2_clearBuffer at h
  refine lv_aload_n hx hb dX2_clearBuffer_0 rfl (lv_at hl 0 rfl) ?_
  refine va_get (D := D) (ci := 2) (v := .int bo.2.2) (C := RX2) (T := TX2) (N := 8) hx hb htB inlX2 hown hK hP 0 rfl rfl 7 (by decide) (htB _ kw28) (fun _ h9 => h9) rfl dX2_clearBuffer_1 ?_
  refine lv_istore_n (lv' := [(1, .int bo.2.2), (0, .ref bh)]) hx hb dX2_clearBuffer_4 rfl hl (by decide) rfl (fun ls hl => ?_)
  refine lv_aload_n hx hb dX2_clearBuffer_5 rfl (lv_at hl 1 rfl) ?_
  refine lv_iconst (v := 0) hx hb dX2_clearBuffer_6 (by decide) ?_
  refine va_put (D := D) (ci := 2) (v := .int 0) (ty := .int) (C := RX2) (T := TX2) (N := 8) hx hb htB inlX2 tyX2 tyX2_ok nmX2 hown hK hP hD hS 0 rfl rfl 7 (by decide) (htB _ kw28) (fun _ h9 => h9) rfl (by decide +kernel) rfl rfl (Nat.le_of_ble_eq_true rfl) dX2_clearBuffer_7 (fun H locs hP hD hS => ?_)
  have hP : va_P D vwCl (gBo bh bk (bo.1, bo.2.1, 0)) H := hP
  have hD : va_D A (gBo bh bk (bo.1, bo.2.1, 0)) := hD
  refine lv_iload_n hx hb dX2_clearBuffer_10 rfl (lv_at hl 0 rfl) ?_
  obtain rfl := os h
  exact ret_i hx hb hr hlocks hP hK hD hS dX2_clearBuffer_11

theorem dX2_firstError_0 : decode cX2_firstError 0 = .ok (.iconst 0, 1) := by decide +kernel
theorem dX2_firstError_1 : decode cX2_firstError 1 = .ok (.istore_n 1, 1) := by decide +kernel
theorem dX2_firstError_2 : decode cX2_firstError 2 = .ok (.iconst 0, 1) := by decide +kernel
theorem dX2_firstError_3 : decode cX2_firstError 3 = .ok (.istore_n 2, 1) := by decide +kernel
theorem dX2_firstError_4 : decode cX2_firstError 4 = .ok (.iload_n 2, 1) := by decide +kernel
theorem dX2_firstError_5 : decode cX2_firstError 5 = .ok (.aload_n 0, 1) := by decide +kernel
theorem dX2_firstError_6 : decode cX2_firstError 6 = .ok (.getfield 41, 3) := by decide +kernel
theorem dX2_firstError_9 : decode cX2_firstError 9 = .ok (.if_icmp .ge 30, 3) := by decide +kernel
theorem dX2_firstError_12 : decode cX2_firstError 12 = .ok (.iload_n 1, 1) := by decide +kernel
theorem dX2_firstError_13 : decode cX2_firstError 13 = .ok (.aload_n 0, 1) := by decide +kernel
theorem dX2_firstError_14 : decode cX2_firstError 14 = .ok (.getfield 37, 3) := by decide +kernel
theorem dX2_firstError_17 : decode cX2_firstError 17 = .ok (.iload_n 2, 1) := by decide +kernel
theorem dX2_firstError_18 : decode cX2_firstError 18 = .ok (.invokestatic 58, 3) := by decide +kernel
theorem dX2_firstError_21 : decode cX2_firstError 21 = .ok (.invokestatic 107, 3) := by decide +kernel
theorem dX2_firstError_24 : decode cX2_firstError 24 = .ok (.istore_n 1, 1) := by decide +kernel
theorem dX2_firstError_25 : decode cX2_firstError 25 = .ok (.iload_n 1, 1) := by decide +kernel
theorem dX2_firstError_26 : decode cX2_firstError 26 = .ok (.bipush 9, 2) := by decide +kernel
theorem dX2_firstError_28 : decode cX2_firstError 28 = .ok (.if_icmp .ne 5, 3) := by decide +kernel
theorem dX2_firstError_31 : decode cX2_firstError 31 = .ok (.iload_n 2, 1) := by decide +kernel
theorem dX2_firstError_32 : decode cX2_firstError 32 = .ok (.ireturn, 1) := by decide +kernel
theorem dX2_firstError_33 : decode cX2_firstError 33 = .ok (.iinc 2 1, 3) := by decide +kernel
theorem dX2_firstError_36 : decode cX2_firstError 36 = .ok (.goto (-32), 3) := by decide +kernel
theorem dX2_firstError_39 : decode cX2_firstError 39 = .ok (.aload_n 0, 1) := by decide +kernel
theorem dX2_firstError_40 : decode cX2_firstError 40 = .ok (.getfield 41, 3) := by decide +kernel
theorem dX2_firstError_43 : decode cX2_firstError 43 = .ok (.ireturn, 1) := by decide +kernel
abbrev zX2_firstError : List Cond := .code yX2_firstError cX2_firstError 3 (some .int) :: BIG
def fX2_firstError_l4 (bo : BoT) (buf : (Nat → Int32))  (K4 : (Int32 × Int32) → Option (Int32)) (v4 : Int32 × Int32) : Option (Int32) := (if bo.2.2 ≤ v4.2 then some bo.2.2 else (fX2_at 60 buf v4.2).bind (fun r2 => (fX2_placeAfter v4.1 r2).bind (fun r3 => (if r3 = 9 then some v4.2 else K4 (r3, v4.2 + 1)))))
def fX2_firstError (bo : BoT) (buf : (Nat → Int32)) : Option (Int32) := lp (fX2_firstError_l4 bo buf) 2000 (0, 0)
set_option maxHeartbeats 4000000 in
set_option maxRecDepth 100000 in
theorem mtX2_firstError (l : Launch) (D : va_G) (t : Nat → ClassId) (bh : Nat) (bk : Nat → Nat) (bo : BoT) (buf : (Nat → Int32)) (out : Int32) (h : fX2_firstError bo buf = some out)  (sz : Nat) : Met l yX2_firstError zX2_firstError ({ frames := 2, cells := 0, slots := 0, locals := 41 }) (sPc D t (gBo bh bk bo ++ (gA t (bk 4) 60 buf)) sz [.ref bh]) (qI D t (gBo bh bk bo ++ (gA t (bk 4) 60 buf)) out (va_A (gBo bh bk bo ++ (gA t (bk 4) 60 buf)) sz)) 0 0 (va_A (gBo bh bk bo ++ (gA t (bk 4) 60 buf)) sz) := by
  refine met_of (Qf := fun A => qI D t (gBo bh bk bo ++ (gA t (bk 4) 60 buf)) out A) (cc := cX2_firstError) (maxL := 3) (ret := some .int) (by decide) rfl (Nat.le_of_ble_eq_true rfl) ?_
  intro p e s m args below meth c A hx hb hr hml hts hown hlocks hA hP hK hD hE hS ls hl
  have htB : ∀ w ∈ BIG, w.before args s = true := fun w h => hts w (List.mem_cons_of_mem _ h)
  have hown : s.vm.findClass RX2 = some m.cls := hown
  have hl : lv_has ls 3 [(0, .ref bh)] := hl
  unfold fX2_firstError at h
  have J4 : ∀ (fu4 : Nat) (v4 : Int32 × Int32), lp (fX2_firstError_l4 bo buf) fu4 v4 = some out → ∀ (H : Heap) (locs : List Loc), va_P D vwCl (gBo bh bk bo ++ (gA t (bk 4) 60 buf)) H → va_D A (gBo bh bk bo ++ (gA t (bk 4) 60 buf)) → va_S A s.heap H locs → ∀ ls : Array Slot, lv_has ls 3 [(0, .ref bh), (1, .int v4.1), (2, .int v4.2)] → W p l e ({ frames := 2, cells := 0, slots := 0, locals := 41 }) s m args below meth c H locs 0 0 (MQ below (qI D t (gBo bh bk bo ++ (gA t (bk 4) 60 buf)) out A) args s 0 0 A) (F0 m 4 ls []) := by
    intro fu4
    induction fu4 with
    | zero => intro v4 h; cases h
    | succ fu4 ih4 =>
      intro v4 h H locs hP hD hS ls hl
      have h : fX2_firstError_l4 bo buf (lp (fX2_firstError_l4 bo buf) fu4) v4 = some out := h
      unfold fX2_firstError_l4 at h
      refine lv_iload_n hx hb dX2_firstError_4 rfl (lv_at hl 2 rfl) ?_
      refine lv_aload_n hx hb dX2_firstError_5 rfl (lv_at hl 0 rfl) ?_
      refine va_get (D := D) (ci := 2) (v := .int bo.2.2) (C := RX2) (T := TX2) (N := 8) hx hb htB inlX2 hown hK hP 0 rfl rfl 7 (by decide) (htB _ kw28) (fun _ h9 => h9) rfl dX2_firstError_6 ?_
      refine lv_icmp_ge (tgt := 39) hx hb dX2_firstError_9 (by decide) (fun c1 => ?_) (fun c1 => ?_)
      · have h := it_p c1 h
        refine lv_aload_n hx hb dX2_firstError_39 rfl (lv_at hl 0 rfl) ?_
        refine va_get (D := D) (ci := 2) (v := .int bo.2.2) (C := RX2) (T := TX2) (N := 8) hx hb htB inlX2 hown hK hP 0 rfl rfl 7 (by decide) (htB _ kw28) (fun _ h9 => h9) rfl dX2_firstError_40 ?_
        obtain rfl := os h
        exact ret_i hx hb hr hlocks hP hK hD hS dX2_firstError_43
      · have h := it_n c1 h
        refine lv_iload_n hx hb dX2_firstError_12 rfl (lv_at hl 1 rfl) ?_
        refine lv_aload_n hx hb dX2_firstError_13 rfl (lv_at hl 0 rfl) ?_
        refine va_get (D := D) (ci := 2) (v := .ref (bk 4)) (C := RX2) (T := TX2) (N := 8) hx hb htB inlX2 hown hK hP 0 rfl rfl 6 (by decide) (htB _ kw27) (fun _ h9 => h9) rfl dX2_firstError_14 ?_
        refine lv_iload_n hx hb dX2_firstError_17 rfl (lv_at hl 2 rfl) ?_
        obtain ⟨r2, h2, h⟩ := ob h
        refine call_i (v := r2) (wc := (gA t (bk 4) 60 buf)) (wc' := (gA t (bk 4) 60 buf)) (ws' := (gBo bh bk bo ++ (gA t (bk 4) 60 buf))) (cutB (bs := [gBo bh bk bo, gA t (bk 4) 60 buf]) (cs := [gA t (bk 4) 60 buf]) (cs' := [gA t (bk 4) 60 buf]) (bs' := [gBo bh bk bo, gA t (bk 4) 60 buf]) [1] hP hD hS hA rfl rfl rfl rfl) hS (fun hPc hDc => va_runS (As := [.ref (bk 4), .int v4.2]) (rest := [.int v4.1]) ⟨hx, hb, hml, hown, hts⟩ (mtX2_at l D t (bk 4) 60 buf v4.2 r2 h2 (by decide) _) (va_cwS 2 hts (gBS kw104 kw105 kw2 kw106) rfl rfl rfl (by decide +kernel) ⟨Nat.le_of_ble_eq_true rfl, Nat.le_of_ble_eq_true rfl⟩) (sPc_S hPc hK hDc hE) rfl rfl hl.1 rfl (lv_room (Nat.le_of_ble_eq_true rfl)) dX2_firstError_18 ⟨Nat.zero_le _, Nat.zero_le _⟩) (fun H locs hP hD hS => ?_)
        obtain ⟨r3, h3, h⟩ := ob h
        refine call_i (v := r3) (wc := ([] : va_W)) (wc' := ([] : va_W)) (ws' := (gBo bh bk bo ++ (gA t (bk 4) 60 buf))) (cutB (bs := [gBo bh bk bo, gA t (bk 4) 60 buf]) (cs := []) (cs' := []) (bs' := [gBo bh bk bo, gA t (bk 4) 60 buf]) [] hP hD hS hA rfl rfl rfl rfl) hS (fun hPc hDc => va_runS (As := [.int v4.1, .int r2]) (rest := []) ⟨hx, hb, hml, hown, hts⟩ (mtX2_placeAfter l D t v4.1 r2 r3 h3 _) (va_cwS 2 hts (gBS kw345 kw346 kw2 kw347) rfl rfl rfl (by decide +kernel) ⟨Nat.le_of_ble_eq_true rfl, Nat.le_of_ble_eq_true rfl⟩) (sPc_S hPc hK hDc hE) rfl rfl hl.1 rfl (lv_room (Nat.le_of_ble_eq_true rfl)) dX2_firstError_21 ⟨Nat.zero_le _, Nat.zero_le _⟩) (fun H locs hP hD hS => ?_)
        refine lv_istore_n (lv' := [(1, .int r3), (0, .ref bh), (2, .int v4.2)]) hx hb dX2_firstError_24 rfl hl (by decide) rfl (fun ls hl => ?_)
        refine lv_iload_n hx hb dX2_firstError_25 rfl (lv_at hl 0 rfl) ?_
        refine lv_bipush (v := 9) hx hb dX2_firstError_26 (by decide) ?_
        refine lv_icmp_ne (tgt := 33) hx hb dX2_firstError_28 (by decide) (fun c4 => ?_) (fun c4 => ?_)
        · have h := it_n c4 h
          refine lv_iinc (v := v4.2 + 1) (lv' := [(2, .int (v4.2 + 1)), (1, .int r3), (0, .ref bh)]) hx hb dX2_firstError_33 hl (k := 2) rfl rfl (by decide) rfl (fun ls hl => ?_)
          refine lv_goto (tgt := 4) hx hb dX2_firstError_36 (by decide) ?_
          exact ih4 (r3, v4.2 + 1) h _ _ hP hD hS _ (lv_sub hl [2, 1, 0] rfl)
        · have h := it_p c4 h
          refine lv_iload_n hx hb dX2_firstError_31 rfl (lv_at hl 2 rfl) ?_
          obtain rfl := os h
          exact ret_i hx hb hr hlocks hP hK hD hS dX2_firstError_32
  refine lv_iconst (v := 0) hx hb dX2_firstError_0 (by decide) ?_
  refine lv_istore_n (lv' := [(1, .int 0), (0, .ref bh)]) hx hb dX2_firstError_1 rfl hl (by decide) rfl (fun ls hl => ?_)
  refine lv_iconst (v := 0) hx hb dX2_firstError_2 (by decide) ?_
  refine lv_istore_n (lv' := [(2, .int 0), (1, .int 0), (0, .ref bh)]) hx hb dX2_firstError_3 rfl hl (by decide) rfl (fun ls hl => ?_)
  exact J4 2000 (0, 0) h _ _ hP hD hS _ (lv_sub hl [2, 1, 0] rfl)

theorem dX2_play_0 : decode cX2_play 0 = .ok (.aload_n 0, 1) := by decide +kernel
theorem dX2_play_1 : decode cX2_play 1 = .ok (.invokevirtual 111, 3) := by decide +kernel
theorem dX2_play_4 : decode cX2_play 4 = .ok (.ifCond .ne 13, 3) := by decide +kernel
theorem dX2_play_7 : decode cX2_play 7 = .ok (.new 115, 3) := by decide +kernel
theorem dX2_play_17 : decode cX2_play 17 = .ok (.aload_n 0, 1) := by decide +kernel
theorem dX2_play_18 : decode cX2_play 18 = .ok (.invokevirtual 52, 3) := by decide +kernel
theorem dX2_play_21 : decode cX2_play 21 = .ok (.iconst 0, 1) := by decide +kernel
theorem dX2_play_22 : decode cX2_play 22 = .ok (.istore_n 1, 1) := by decide +kernel
theorem dX2_play_23 : decode cX2_play 23 = .ok (.iconst 0, 1) := by decide +kernel
theorem dX2_play_24 : decode cX2_play 24 = .ok (.istore_n 2, 1) := by decide +kernel
theorem dX2_play_25 : decode cX2_play 25 = .ok (.iconst 0, 1) := by decide +kernel
theorem dX2_play_26 : decode cX2_play 26 = .ok (.istore_n 3, 1) := by decide +kernel
theorem dX2_play_27 : decode cX2_play 27 = .ok (.iload_n 3, 1) := by decide +kernel
theorem dX2_play_28 : decode cX2_play 28 = .ok (.aload_n 0, 1) := by decide +kernel
theorem dX2_play_29 : decode cX2_play 29 = .ok (.getfield 41, 3) := by decide +kernel
theorem dX2_play_32 : decode cX2_play 32 = .ok (.if_icmp .gt 43, 3) := by decide +kernel
theorem dX2_play_35 : decode cX2_play 35 = .ok (.iload_n 3, 1) := by decide +kernel
theorem dX2_play_36 : decode cX2_play 36 = .ok (.aload_n 0, 1) := by decide +kernel
theorem dX2_play_37 : decode cX2_play 37 = .ok (.getfield 41, 3) := by decide +kernel
theorem dX2_play_40 : decode cX2_play 40 = .ok (.if_icmp .eq 16, 3) := by decide +kernel
theorem dX2_play_43 : decode cX2_play 43 = .ok (.aload_n 0, 1) := by decide +kernel
theorem dX2_play_44 : decode cX2_play 44 = .ok (.getfield 37, 3) := by decide +kernel
theorem dX2_play_47 : decode cX2_play 47 = .ok (.iload_n 3, 1) := by decide +kernel
theorem dX2_play_48 : decode cX2_play 48 = .ok (.invokestatic 58, 3) := by decide +kernel
theorem dX2_play_51 : decode cX2_play 51 = .ok (.bipush 59, 2) := by decide +kernel
theorem dX2_play_53 : decode cX2_play 53 = .ok (.if_icmp .ne 16, 3) := by decide +kernel
theorem dX2_play_56 : decode cX2_play 56 = .ok (.iload_n 1, 1) := by decide +kernel
theorem dX2_play_57 : decode cX2_play 57 = .ok (.aload_n 0, 1) := by decide +kernel
theorem dX2_play_58 : decode cX2_play 58 = .ok (.iload_n 2, 1) := by decide +kernel
theorem dX2_play_59 : decode cX2_play 59 = .ok (.iload_n 3, 1) := by decide +kernel
theorem dX2_play_60 : decode cX2_play 60 = .ok (.invokevirtual 120, 3) := by decide +kernel
theorem dX2_play_63 : decode cX2_play 63 = .ok (.iadd, 1) := by decide +kernel
theorem dX2_play_64 : decode cX2_play 64 = .ok (.istore_n 1, 1) := by decide +kernel
theorem dX2_play_65 : decode cX2_play 65 = .ok (.iload_n 3, 1) := by decide +kernel
theorem dX2_play_66 : decode cX2_play 66 = .ok (.iconst 1, 1) := by decide +kernel
theorem dX2_play_67 : decode cX2_play 67 = .ok (.iadd, 1) := by decide +kernel
theorem dX2_play_68 : decode cX2_play 68 = .ok (.istore_n 2, 1) := by decide +kernel
theorem dX2_play_69 : decode cX2_play 69 = .ok (.iinc 3 1, 3) := by decide +kernel
theorem dX2_play_72 : decode cX2_play 72 = .ok (.goto (-45), 3) := by decide +kernel
theorem dX2_play_75 : decode cX2_play 75 = .ok (.aload_n 0, 1) := by decide +kernel
theorem dX2_play_76 : decode cX2_play 76 = .ok (.iconst 0, 1) := by decide +kernel
theorem dX2_play_77 : decode cX2_play 77 = .ok (.putfield 41, 3) := by decide +kernel
theorem dX2_play_80 : decode cX2_play 80 = .ok (.iload_n 1, 1) := by decide +kernel
theorem dX2_play_81 : decode cX2_play 81 = .ok (.ireturn, 1) := by decide +kernel
abbrev zX2_play : List Cond := .code yX2_play cX2_play 4 (some .int) :: BIG
def fX2_play_j56 (buf : (Nat → Int32)) (K27 : (BoT × ShT × ExT × (Nat → ShT) × Int32 × Int32 × Int32) → Option (Nat ⊕ (Int32 × BoT × ShT × ExT × (Nat → ShT)))) (v56 : BoT × ShT × ExT × (Nat → ShT) × Int32 × Int32 × Int32) : Option (Nat ⊕ (Int32 × BoT × ShT × ExT × (Nat → ShT))) := (fX2_playPart v56.1 v56.2.1 v56.2.2.1 buf v56.2.2.2.2.2.1 v56.2.2.2.2.2.2).bind (fun r8 => K27 (v56.1, r8.2.1, r8.2.2, v56.2.2.2.1, v56.2.2.2.2.1 + r8.1, v56.2.2.2.2.2.2 + 1, v56.2.2.2.2.2.2 + 1))
def fX2_play_l27 (buf : (Nat → Int32))  (K27 : (BoT × ShT × ExT × (Nat → ShT) × Int32 × Int32 × Int32) → Option (Nat ⊕ (Int32 × BoT × ShT × ExT × (Nat → ShT)))) (v27 : BoT × ShT × ExT × (Nat → ShT) × Int32 × Int32 × Int32) : Option (Nat ⊕ (Int32 × BoT × ShT × ExT × (Nat → ShT))) := (if v27.1.2.2 < v27.2.2.2.2.2.2 then some (.inr (v27.2.2.2.2.1, (v27.1.1, v27.1.2.1, 0), v27.2.1, v27.2.2.1, v27.2.2.2.1)) else (if v27.2.2.2.2.2.2 = v27.1.2.2 then fX2_play_j56 buf K27 (v27.1, v27.2.1, v27.2.2.1, v27.2.2.2.1, v27.2.2.2.2.1, v27.2.2.2.2.2.1, v27.2.2.2.2.2.2) else (fX2_at 60 buf v27.2.2.2.2.2.2).bind (fun r6 => (if r6 = 59 then fX2_play_j56 buf K27 (v27.1, v27.2.1, v27.2.2.1, v27.2.2.2.1, v27.2.2.2.2.1, v27.2.2.2.2.2.1, v27.2.2.2.2.2.2) else K27 (v27.1, v27.2.1, v27.2.2.1, v27.2.2.2.1, v27.2.2.2.2.1, v27.2.2.2.2.2.1, v27.2.2.2.2.2.2 + 1)))))
def fX2_play (bo : BoT) (now : ShT) (ex : ExT) (sv : (Nat → ShT)) (buf : (Nat → Int32)) : Option (Nat ⊕ (Int32 × BoT × ShT × ExT × (Nat → ShT))) := (fX2_isComplete bo buf).bind (fun r1 => (if (b2i r1) = 0 then some (.inl 1) else (fX2_saveState bo now sv).bind (fun r3 => lp (fX2_play_l27 buf) 2000 (r3.1, now, ex, r3.2, 0, 0, 0))))
set_option maxHeartbeats 4000000 in
set_option maxRecDepth 100000 in
theorem mtX2_play (l : Launch) (D : va_G) (t : Nat → ClassId) (bh : Nat) (bk : Nat → Nat) (bo : BoT) (nb : Nat → Nat) (now : ShT) (eb : Nat → Nat) (ex : ExT) (sa : Nat → Nat) (sb : Nat → Nat → Nat) (sv : (Nat → ShT)) (buf : (Nat → Int32)) (out : Int32 × BoT × ShT × ExT × (Nat → ShT)) (h : fX2_play bo now ex sv buf = some (.inr out))  (sz : Nat) : Met l yX2_play zX2_play ({ frames := 6, cells := 0, slots := 0, locals := 141 }) (sPc D t (gBo bh bk bo ++ (gS t (bk 0) nb now ++ (gE t (bk 2) eb ex ++ (gQ t (bk 3) sa ++ (g6 t sa sb sv ++ (gA t (bk 4) 60 buf)))))) sz [.ref bh]) (qI D t (gBo bh bk out.2.1 ++ (gS t (bk 0) nb out.2.2.1 ++ (gE t (bk 2) eb out.2.2.2.1 ++ (gQ t (bk 3) sa ++ (g6 t sa sb out.2.2.2.2 ++ (gA t (bk 4) 60 buf)))))) out.1 (va_A (gBo bh bk bo ++ (gS t (bk 0) nb now ++ (gE t (bk 2) eb ex ++ (gQ t (bk 3) sa ++ (g6 t sa sb sv ++ (gA t (bk 4) 60 buf)))))) sz)) 0 0 (va_A (gBo bh bk bo ++ (gS t (bk 0) nb now ++ (gE t (bk 2) eb ex ++ (gQ t (bk 3) sa ++ (g6 t sa sb sv ++ (gA t (bk 4) 60 buf)))))) sz) := by
  refine met_of (Qf := fun A => qI D t (gBo bh bk out.2.1 ++ (gS t (bk 0) nb out.2.2.1 ++ (gE t (bk 2) eb out.2.2.2.1 ++ (gQ t (bk 3) sa ++ (g6 t sa sb out.2.2.2.2 ++ (gA t (bk 4) 60 buf)))))) out.1 A) (cc := cX2_play) (maxL := 4) (ret := some .int) (by decide) rfl (Nat.le_of_ble_eq_true rfl) ?_
  intro p e s m args below meth c A hx hb hr hml hts hown hlocks hA hP hK hD hE hS ls hl
  have htB : ∀ w ∈ BIG, w.before args s = true := fun w h => hts w (List.mem_cons_of_mem _ h)
  have hown : s.vm.findClass RX2 = some m.cls := hown
  have hl : lv_has ls 4 [(0, .ref bh)] := hl
  unfold fX2_play at h
  have J27 : ∀ (fu27 : Nat) (v27 : BoT × ShT × ExT × (Nat → ShT) × Int32 × Int32 × Int32), lp (fX2_play_l27 buf) fu27 v27 = some (.inr out) → ∀ (H : Heap) (locs : List Loc), va_P D vwCl (gBo bh bk v27.1 ++ (gS t (bk 0) nb v27.2.1 ++ (gE t (bk 2) eb v27.2.2.1 ++ (gQ t (bk 3) sa ++ (g6 t sa sb v27.2.2.2.1 ++ (gA t (bk 4) 60 buf)))))) H → va_D A (gBo bh bk v27.1 ++ (gS t (bk 0) nb v27.2.1 ++ (gE t (bk 2) eb v27.2.2.1 ++ (gQ t (bk 3) sa ++ (g6 t sa sb v27.2.2.2.1 ++ (gA t (bk 4) 60 buf)))))) → va_S A s.heap H locs → ∀ ls : Array Slot, lv_has ls 4 [(0, .ref bh), (1, .int v27.2.2.2.2.1), (2, .int v27.2.2.2.2.2.1), (3, .int v27.2.2.2.2.2.2)] → W p l e ({ frames := 6, cells := 0, slots := 0, locals := 141 }) s m args below meth c H locs 0 0 (MQ below (qI D t (gBo bh bk out.2.1 ++ (gS t (bk 0) nb out.2.2.1 ++ (gE t (bk 2) eb out.2.2.2.1 ++ (gQ t (bk 3) sa ++ (g6 t sa sb out.2.2.2.2 ++ (gA t (bk 4) 60 buf)))))) out.1 A) args s 0 0 A) (F0 m 27 ls []) := by
    intro fu27
    induction fu27 with
    | zero => intro v27 h; cases h
    | succ fu27 ih27 =>
      intro v27 h H locs hP hD hS ls hl
      have h : fX2_play_l27 buf (lp (fX2_play_l27 buf) fu27) v27 = some (.inr out) := h
      unfold fX2_play_l27 at h
      have J56 : ∀ v56 : BoT × ShT × ExT × (Nat → ShT) × Int32 × Int32 × Int32, fX2_play_j56 buf (lp (fX2_play_l27 buf) fu27) v56 = some (.inr out) → ∀ (H : Heap) (locs : List Loc), va_P D vwCl (gBo bh bk v56.1 ++ (gS t (bk 0) nb v56.2.1 ++ (gE t (bk 2) eb v56.2.2.1 ++ (gQ t (bk 3) sa ++ (g6 t sa sb v56.2.2.2.1 ++ (gA t (bk 4) 60 buf)))))) H → va_D A (gBo bh bk v56.1 ++ (gS t (bk 0) nb v56.2.1 ++ (gE t (bk 2) eb v56.2.2.1 ++ (gQ t (bk 3) sa ++ (g6 t sa sb v56.2.2.2.1 ++ (gA t (bk 4) 60 buf)))))) → va_S A s.heap H locs → ∀ ls : Array Slot, lv_has ls 4 [(0, .ref bh), (1, .int v56.2.2.2.2.1), (2, .int v56.2.2.2.2.2.1), (3, .int v56.2.2.2.2.2.2)] → W p l e ({ frames := 6, cells := 0, slots := 0, locals := 141 }) s m args below meth c H locs 0 0 (MQ below (qI D t (gBo bh bk out.2.1 ++ (gS t (bk 0) nb out.2.2.1 ++ (gE t (bk 2) eb out.2.2.2.1 ++ (gQ t (bk 3) sa ++ (g6 t sa sb out.2.2.2.2 ++ (gA t (bk 4) 60 buf)))))) out.1 A) args s 0 0 A) (F0 m 56 ls []) := by
        intro v56 h H locs hP hD hS ls hl
        unfold fX2_play_j56 at h
        refine lv_iload_n hx hb dX2_play_56 rfl (lv_at hl 1 rfl) ?_
        refine lv_aload_n hx hb dX2_play_57 rfl (lv_at hl 0 rfl) ?_
        refine lv_iload_n hx hb dX2_play_58 rfl (lv_at hl 2 rfl) ?_
        refine lv_iload_n hx hb dX2_play_59 rfl (lv_at hl 3 rfl) ?_
        obtain ⟨r8, h8, h⟩ := ob h
        refine call_i (v := r8.1) (wc := (gBo bh bk v56.1 ++ (gS t (bk 0) nb v56.2.1 ++ (gE t (bk 2) eb v56.2.2.1 ++ (gA t (bk 4) 60 buf))))) (wc' := (gBo bh bk v56.1 ++ (gS t (bk 0) nb r8.2.1 ++ (gE t (bk 2) eb r8.2.2 ++ (gA t (bk 4) 60 buf))))) (ws' := (gBo bh bk v56.1 ++ (gS t (bk 0) nb r8.2.1 ++ (gE t (bk 2) eb r8.2.2 ++ (gQ t (bk 3) sa ++ (g6 t sa sb v56.2.2.2.1 ++ (gA t (bk 4) 60 buf))))))) (cutB (bs := [gBo bh bk v56.1, gS t (bk 0) nb v56.2.1, gE t (bk 2) eb v56.2.2.1, gQ t (bk 3) sa, g6 t sa sb v56.2.2.2.1, gA t (bk 4) 60 buf]) (cs := [gBo bh bk v56.1, gS t (bk 0) nb v56.2.1, gE t (bk 2) eb v56.2.2.1, gA t (bk 4) 60 buf]) (cs' := [gBo bh bk v56.1, gS t (bk 0) nb r8.2.1, gE t (bk 2) eb r8.2.2, gA t (bk 4) 60 buf]) (bs' := [gBo bh bk v56.1, gS t (bk 0) nb r8.2.1, gE t (bk 2) eb r8.2.2, gQ t (bk 3) sa, g6 t sa sb v56.2.2.2.1, gA t (bk 4) 60 buf]) [0, 1, 2, 5] hP hD hS hA rfl rfl rfl rfl) hS (fun hPc hDc => va_runV (As := [.int v56.2.2.2.2.2.1, .int v56.2.2.2.2.2.2]) (rest := [.int v56.2.2.2.2.1]) ⟨hx, hb, hml, hown, hts⟩ (mtX2_playPart l D t bh bk v56.1 nb v56.2.1 eb v56.2.2.1 buf v56.2.2.2.2.2.1 v56.2.2.2.2.2.2 r8 h8 _) (cwV 2 hts (gBV kw399 kw400 kw401 kw2 kw402) rfl rfl rfl (by decide +kernel) ⟨Nat.le_of_ble_eq_true rfl, Nat.le_of_ble_eq_true rfl⟩) (sPc_V hPc hK hDc hE (va_recv hK hP (ci := 2) (q0 := 0) rfl rfl)) rfl rfl hl.1 rfl (lv_room (Nat.le_of_ble_eq_true rfl)) dX2_play_60 ⟨Nat.zero_le _, Nat.zero_le _⟩) (fun H locs hP hD hS => ?_)
        refine lv_iadd hx hb dX2_play_63 ?_
        refine lv_istore_n (lv' := [(1, .int (v56.2.2.2.2.1 + r8.1)), (0, .ref bh), (2, .int v56.2.2.2.2.2.1), (3, .int v56.2.2.2.2.2.2)]) hx hb dX2_play_64 rfl hl (by decide) rfl (fun ls hl => ?_)
        refine lv_iload_n hx hb dX2_play_65 rfl (lv_at hl 3 rfl) ?_
        refine lv_iconst (v := 1) hx hb dX2_play_66 (by decide) ?_
        refine lv_iadd hx hb dX2_play_67 ?_
        refine lv_istore_n (lv' := [(2, .int (v56.2.2.2.2.2.2 + 1)), (1, .int (v56.2.2.2.2.1 + r8.1)), (0, .ref bh), (3, .int v56.2.2.2.2.2.2)]) hx hb dX2_play_68 rfl hl (by decide) rfl (fun ls hl => ?_)
        refine lv_iinc (v := v56.2.2.2.2.2.2 + 1) (lv' := [(3, .int (v56.2.2.2.2.2.2 + 1)), (2, .int (v56.2.2.2.2.2.2 + 1)), (1, .int (v56.2.2.2.2.1 + r8.1)), (0, .ref bh)]) hx hb dX2_play_69 hl (k := 3) rfl rfl (by decide) rfl (fun ls hl => ?_)
        refine lv_goto (tgt := 27) hx hb dX2_play_72 (by decide) ?_
        exact ih27 (v56.1, r8.2.1, r8.2.2, v56.2.2.2.1, v56.2.2.2.2.1 + r8.1, v56.2.2.2.2.2.2 + 1, v56.2.2.2.2.2.2 + 1) h _ _ hP hD hS _ (lv_sub hl [3, 2, 1, 0] rfl)
      refine lv_iload_n hx hb dX2_play_27 rfl (lv_at hl 3 rfl) ?_
      refine lv_aload_n hx hb dX2_play_28 rfl (lv_at hl 0 rfl) ?_
      refine va_get (D := D) (ci := 2) (v := .int v27.1.2.2) (C := RX2) (T := TX2) (N := 8) hx hb htB inlX2 hown hK hP 0 rfl rfl 7 (by decide) (htB _ kw28) (fun _ h9 => h9) rfl dX2_play_29 ?_
      refine lv_icmp_gt (tgt := 75) hx hb dX2_play_32 (by decide) (fun c4 => ?_) (fun c4 => ?_)
      · have h := it_p c4 h
        refine lv_aload_n hx hb dX2_play_75 rfl (lv_at hl 0 rfl) ?_
        refine lv_iconst (v := 0) hx hb dX2_play_76 (by decide) ?_
        refine va_put (D := D) (ci := 2) (v := .int 0) (ty := .int) (C := RX2) (T := TX2) (N := 8) hx hb htB inlX2 tyX2 tyX2_ok nmX2 hown hK hP hD hS 0 rfl rfl 7 (by decide) (htB _ kw28) (fun _ h9 => h9) rfl (by decide +kernel) rfl rfl (Nat.le_of_ble_eq_true rfl) dX2_play_77 (fun H locs hP hD hS => ?_)
        have hP : va_P D vwCl (gBo bh bk (v27.1.1, v27.1.2.1, 0) ++ (gS t (bk 0) nb v27.2.1 ++ (gE t (bk 2) eb v27.2.2.1 ++ (gQ t (bk 3) sa ++ (g6 t sa sb v27.2.2.2.1 ++ (gA t (bk 4) 60 buf)))))) H := hP
        have hD : va_D A (gBo bh bk (v27.1.1, v27.1.2.1, 0) ++ (gS t (bk 0) nb v27.2.1 ++ (gE t (bk 2) eb v27.2.2.1 ++ (gQ t (bk 3) sa ++ (g6 t sa sb v27.2.2.2.1 ++ (gA t (bk 4) 60 buf)))))) := hD
        refine lv_iload_n hx hb dX2_play_80 rfl (lv_at hl 1 rfl) ?_
        obtain rfl := oi h
        exact ret_i hx hb hr hlocks hP hK hD hS dX2_play_81
      · have h := it_n c4 h
        refine lv_iload_n hx hb dX2_play_35 rfl (lv_at hl 3 rfl) ?_
        refine lv_aload_n hx hb dX2_play_36 rfl (lv_at hl 0 rfl) ?_
        refine va_get (D := D) (ci := 2) (v := .int v27.1.2.2) (C := RX2) (T := TX2) (N := 8) hx hb htB inlX2 hown hK hP 0 rfl rfl 7 (by decide) (htB _ kw28) (fun _ h9 => h9) rfl dX2_play_37 ?_
        refine lv_icmp_eq (tgt := 56) hx hb dX2_play_40 (by decide) (fun c5 => ?_) (fun c5 => ?_)
        · have h := it_p c5 h
          exact J56 (v27.1, v27.2.1, v27.2.2.1, v27.2.2.2.1, v27.2.2.2.2.1, v27.2.2.2.2.2.1, v27.2.2.2.2.2.2) h _ _ hP hD hS _ (lv_sub hl [0, 1, 2, 3] rfl)
        · have h := it_n c5 h
          refine lv_aload_n hx hb dX2_play_43 rfl (lv_at hl 0 rfl) ?_
          refine va_get (D := D) (ci := 2) (v := .ref (bk 4)) (C := RX2) (T := TX2) (N := 8) hx hb htB inlX2 hown hK hP 0 rfl rfl 6 (by decide) (htB _ kw27) (fun _ h9 => h9) rfl dX2_play_44 ?_
          refine lv_iload_n hx hb dX2_play_47 rfl (lv_at hl 3 rfl) ?_
          obtain ⟨r6, h6, h⟩ := ob h
          refine call_i (v := r6) (wc := (gA t (bk 4) 60 buf)) (wc' := (gA t (bk 4) 60 buf)) (ws' := (gBo bh bk v27.1 ++ (gS t (bk 0) nb v27.2.1 ++ (gE t (bk 2) eb v27.2.2.1 ++ (gQ t (bk 3) sa ++ (g6 t sa sb v27.2.2.2.1 ++ (gA t (bk 4) 60 buf))))))) (cutB (bs := [gBo bh bk v27.1, gS t (bk 0) nb v27.2.1, gE t (bk 2) eb v27.2.2.1, gQ t (bk 3) sa, g6 t sa sb v27.2.2.2.1, gA t (bk 4) 60 buf]) (cs := [gA t (bk 4) 60 buf]) (cs' := [gA t (bk 4) 60 buf]) (bs' := [gBo bh bk v27.1, gS t (bk 0) nb v27.2.1, gE t (bk 2) eb v27.2.2.1, gQ t (bk 3) sa, g6 t sa sb v27.2.2.2.1, gA t (bk 4) 60 buf]) [5] hP hD hS hA rfl rfl rfl rfl) hS (fun hPc hDc => va_runS (As := [.ref (bk 4), .int v27.2.2.2.2.2.2]) (rest := []) ⟨hx, hb, hml, hown, hts⟩ (mtX2_at l D t (bk 4) 60 buf v27.2.2.2.2.2.2 r6 h6 (by decide) _) (va_cwS 2 hts (gBS kw104 kw105 kw2 kw106) rfl rfl rfl (by decide +kernel) ⟨Nat.le_of_ble_eq_true rfl, Nat.le_of_ble_eq_true rfl⟩) (sPc_S hPc hK hDc hE) rfl rfl hl.1 rfl (lv_room (Nat.le_of_ble_eq_true rfl)) dX2_play_48 ⟨Nat.zero_le _, Nat.zero_le _⟩) (fun H locs hP hD hS => ?_)
          refine lv_bipush (v := 59) hx hb dX2_play_51 (by decide) ?_
          refine lv_icmp_ne (tgt := 69) hx hb dX2_play_53 (by decide) (fun c7 => ?_) (fun c7 => ?_)
          · have h := it_n c7 h
            refine lv_iinc (v := v27.2.2.2.2.2.2 + 1) (lv' := [(3, .int (v27.2.2.2.2.2.2 + 1)), (0, .ref bh), (1, .int v27.2.2.2.2.1), (2, .int v27.2.2.2.2.2.1)]) hx hb dX2_play_69 hl (k := 3) rfl rfl (by decide) rfl (fun ls hl => ?_)
            refine lv_goto (tgt := 27) hx hb dX2_play_72 (by decide) ?_
            exact ih27 (v27.1, v27.2.1, v27.2.2.1, v27.2.2.2.1, v27.2.2.2.2.1, v27.2.2.2.2.2.1, v27.2.2.2.2.2.2 + 1) h _ _ hP hD hS _ (lv_sub hl [1, 2, 3, 0] rfl)
          · have h := it_p c7 h
            exact J56 (v27.1, v27.2.1, v27.2.2.1, v27.2.2.2.1, v27.2.2.2.2.1, v27.2.2.2.2.2.1, v27.2.2.2.2.2.2) h _ _ hP hD hS _ (lv_sub hl [0, 1, 2, 3] rfl)
  refine lv_aload_n hx hb dX2_play_0 rfl (lv_at hl 0 rfl) ?_
  obtain ⟨r1, h1, h⟩ := ob h
  refine call_i (v := b2i r1) (wc := (gBo bh bk bo ++ (gA t (bk 4) 60 buf))) (wc' := (gBo bh bk bo ++ (gA t (bk 4) 60 buf))) (ws' := (gBo bh bk bo ++ (gS t (bk 0) nb now ++ (gE t (bk 2) eb ex ++ (gQ t (bk 3) sa ++ (g6 t sa sb sv ++ (gA t (bk 4) 60 buf))))))) (cutB (bs := [gBo bh bk bo, gS t (bk 0) nb now, gE t (bk 2) eb ex, gQ t (bk 3) sa, g6 t sa sb sv, gA t (bk 4) 60 buf]) (cs := [gBo bh bk bo, gA t (bk 4) 60 buf]) (cs' := [gBo bh bk bo, gA t (bk 4) 60 buf]) (bs' := [gBo bh bk bo, gS t (bk 0) nb now, gE t (bk 2) eb ex, gQ t (bk 3) sa, g6 t sa sb sv, gA t (bk 4) 60 buf]) [0, 5] hP hD hS hA rfl rfl rfl rfl) hS (fun hPc hDc => va_runV (As := []) (rest := []) ⟨hx, hb, hml, hown, hts⟩ (mtX2_isComplete l D t bh bk bo buf r1 h1 _) (cwV 0 hts (gBV kw395 kw396 kw397 kw2 kw398) rfl rfl rfl (by decide +kernel) ⟨Nat.le_of_ble_eq_true rfl, Nat.le_of_ble_eq_true rfl⟩) (sPc_V hPc hK hDc hE (va_recv hK hP (ci := 2) (q0 := 0) rfl rfl)) rfl rfl hl.1 rfl (lv_room (Nat.le_of_ble_eq_true rfl)) dX2_play_1 ⟨Nat.zero_le _, Nat.zero_le _⟩) (fun H locs hP hD hS => ?_)
  refine lv_if_ne (tgt := 17) hx hb dX2_play_4 (by decide) (fun c2 => ?_) (fun c2 => ?_)
  · have h := it_n c2 h
    refine lv_aload_n hx hb dX2_play_17 rfl (lv_at hl 0 rfl) ?_
    obtain ⟨r3, h3, h⟩ := ob h
    refine call_v (wc := (gBo bh bk bo ++ (gS t (bk 0) nb now ++ (gQ t (bk 3) sa ++ (g6 t sa sb sv))))) (wc' := (gBo bh bk r3.1 ++ (gS t (bk 0) nb now ++ (gQ t (bk 3) sa ++ (g6 t sa sb r3.2))))) (ws' := (gBo bh bk r3.1 ++ (gS t (bk 0) nb now ++ (gE t (bk 2) eb ex ++ (gQ t (bk 3) sa ++ (g6 t sa sb r3.2 ++ (gA t (bk 4) 60 buf))))))) (cutB (bs := [gBo bh bk bo, gS t (bk 0) nb now, gE t (bk 2) eb ex, gQ t (bk 3) sa, g6 t sa sb sv, gA t (bk 4) 60 buf]) (cs := [gBo bh bk bo, gS t (bk 0) nb now, gQ t (bk 3) sa, g6 t sa sb sv]) (cs' := [gBo bh bk r3.1, gS t (bk 0) nb now, gQ t (bk 3) sa, g6 t sa sb r3.2]) (bs' := [gBo bh bk r3.1, gS t (bk 0) nb now, gE t (bk 2) eb ex, gQ t (bk 3) sa, g6 t sa sb r3.2, gA t (bk 4) 60 buf]) [0, 1, 3, 4] hP hD hS hA rfl rfl rfl rfl) hS (fun hPc hDc => va_runV (As := []) (rest := []) ⟨hx, hb, hml, hown, hts⟩ (mtX2_saveState l D t bh bk bo nb now sa sb sv r3 h3 _) (cwV 0 hts (gBV kw86 kw87 kw88 kw2 kw89) rfl rfl rfl (by decide +kernel) ⟨Nat.le_of_ble_eq_true rfl, Nat.le_of_ble_eq_true rfl⟩) (sPc_V hPc hK hDc hE (va_recv hK hP (ci := 2) (q0 := 0) rfl rfl)) rfl rfl hl.1 rfl (lv_room (Nat.le_of_ble_eq_true rfl)) dX2_play_18 ⟨Nat.zero_le _, Nat.zero_le _⟩) (fun H locs hP hD hS => ?_)
    refine lv_iconst (v := 0) hx hb dX2_play_21 (by decide) ?_
    refine lv_istore_n (lv' := [(1, .int 0), (0, .ref bh)]) hx hb dX2_play_22 rfl hl (by decide) rfl (fun ls hl => ?_)
    refine lv_iconst (v := 0) hx hb dX2_play_23 (by decide) ?_
    refine lv_istore_n (lv' := [(2, .int 0), (1, .int 0), (0, .ref bh)]) hx hb dX2_play_24 rfl hl (by decide) rfl (fun ls hl => ?_)
    refine lv_iconst (v := 0) hx hb dX2_play_25 (by decide) ?_
    refine lv_istore_n (lv' := [(3, .int 0), (2, .int 0), (1, .int 0), (0, .ref bh)]) hx hb dX2_play_26 rfl hl (by decide) rfl (fun ls hl => ?_)
    exact J27 2000 (r3.1, now, ex, r3.2, 0, 0, 0) h _ _ hP hD hS _ (lv_sub hl [3, 2, 1, 0] rfl)
  · have h := it_p c2 h
    cases h

theorem dX2_undo_0 : decode cX2_undo 0 = .ok (.aload_n 0, 1) := by decide +kernel
theorem dX2_undo_1 : decode cX2_undo 1 = .ok (.getfield 30, 3) := by decide +kernel
theorem dX2_undo_4 : decode cX2_undo 4 = .ok (.iconst 1, 1) := by decide +kernel
theorem dX2_undo_5 : decode cX2_undo 5 = .ok (.if_icmp .ge 13, 3) := by decide +kernel
theorem dX2_undo_8 : decode cX2_undo 8 = .ok (.new 100, 3) := by decide +kernel
theorem dX2_undo_18 : decode cX2_undo 18 = .ok (.aload_n 0, 1) := by decide +kernel
theorem dX2_undo_19 : decode cX2_undo 19 = .ok (.aload_n 0, 1) := by decide +kernel
theorem dX2_undo_20 : decode cX2_undo 20 = .ok (.getfield 34, 3) := by decide +kernel
theorem dX2_undo_23 : decode cX2_undo 23 = .ok (.ifCond .le 12, 3) := by decide +kernel
theorem dX2_undo_26 : decode cX2_undo 26 = .ok (.aload_n 0, 1) := by decide +kernel
theorem dX2_undo_27 : decode cX2_undo 27 = .ok (.getfield 34, 3) := by decide +kernel
theorem dX2_undo_30 : decode cX2_undo 30 = .ok (.iconst 1, 1) := by decide +kernel
theorem dX2_undo_31 : decode cX2_undo 31 = .ok (.isub, 1) := by decide +kernel
theorem dX2_undo_32 : decode cX2_undo 32 = .ok (.goto 4, 3) := by decide +kernel
theorem dX2_undo_35 : decode cX2_undo 35 = .ok (.iconst 5, 1) := by decide +kernel
theorem dX2_undo_36 : decode cX2_undo 36 = .ok (.putfield 34, 3) := by decide +kernel
theorem dX2_undo_39 : decode cX2_undo 39 = .ok (.aload_n 0, 1) := by decide +kernel
theorem dX2_undo_40 : decode cX2_undo 40 = .ok (.dup, 1) := by decide +kernel
theorem dX2_undo_41 : decode cX2_undo 41 = .ok (.getfield 30, 3) := by decide +kernel
theorem dX2_undo_44 : decode cX2_undo 44 = .ok (.iconst 1, 1) := by decide +kernel
theorem dX2_undo_45 : decode cX2_undo 45 = .ok (.isub, 1) := by decide +kernel
theorem dX2_undo_46 : decode cX2_undo 46 = .ok (.putfield 30, 3) := by decide +kernel
theorem dX2_undo_49 : decode cX2_undo 49 = .ok (.aload_n 0, 1) := by decide +kernel
theorem dX2_undo_50 : decode cX2_undo 50 = .ok (.aload_n 0, 1) := by decide +kernel
theorem dX2_undo_51 : decode cX2_undo 51 = .ok (.getfield 34, 3) := by decide +kernel
theorem dX2_undo_54 : decode cX2_undo 54 = .ok (.invokevirtual 125, 3) := by decide +kernel
theorem dX2_undo_57 : decode cX2_undo 57 = .ok (.astore_n 1, 1) := by decide +kernel
theorem dX2_undo_58 : decode cX2_undo 58 = .ok (.aload_n 1, 1) := by decide +kernel
theorem dX2_undo_59 : decode cX2_undo 59 = .ok (.ifnull 11, 3) := by decide +kernel
theorem dX2_undo_62 : decode cX2_undo 62 = .ok (.aload_n 0, 1) := by decide +kernel
theorem dX2_undo_63 : decode cX2_undo 63 = .ok (.getfield 10, 3) := by decide +kernel
theorem dX2_undo_66 : decode cX2_undo 66 = .ok (.aload_n 1, 1) := by decide +kernel
theorem dX2_undo_67 : decode cX2_undo 67 = .ok (.invokevirtual 129, 3) := by decide +kernel
theorem dX2_undo_70 : decode cX2_undo 70 = .ok (.aload_n 0, 1) := by decide +kernel
theorem dX2_undo_71 : decode cX2_undo 71 = .ok (.getfield 30, 3) := by decide +kernel
theorem dX2_undo_74 : decode cX2_undo 74 = .ok (.ireturn, 1) := by decide +kernel
abbrev zX2_undo : List Cond := .code yX2_undo cX2_undo 2 (some .int) :: BIG
def fX2_undo_j36 (sv : (Nat → ShT))  (v36 : BoT × ShT × Int32) : Option (Nat ⊕ (Int32 × BoT × ShT)) := (fX2_savedAt ((v36.1.1 - 1), v36.2.2, v36.1.2.2) v36.2.2).bind (fun r3 => (fX1_become v36.2.1 (sv (Int32.toNatClampNeg v36.2.2))).bind (fun r4 => some (.inr ((v36.1.1 - 1), ((v36.1.1 - 1), v36.2.2, v36.1.2.2), r4))))
def fX2_undo (bo : BoT) (now : ShT) (sv : (Nat → ShT)) : Option (Nat ⊕ (Int32 × BoT × ShT)) := (if 1 ≤ bo.1 then (if bo.2.1 ≤ 0 then fX2_undo_j36 sv (bo, now, 5) else fX2_undo_j36 sv (bo, now, bo.2.1 - 1)) else some (.inl 2))
set_option maxHeartbeats 4000000 in
set_option maxRecDepth 100000 in
theorem mtX2_undo (l : Launch) (D : va_G) (t : Nat → ClassId) (bh : Nat) (bk : Nat → Nat) (bo : BoT) (nb : Nat → Nat) (now : ShT) (sa : Nat → Nat) (sb : Nat → Nat → Nat) (sv : (Nat → ShT)) (out : Int32 × BoT × ShT) (h : fX2_undo bo now sv = some (.inr out))  (sz : Nat) : Met l yX2_undo zX2_undo ({ frames := 2, cells := 0, slots := 0, locals := 43 }) (sPc D t (gBo bh bk bo ++ (gS t (bk 0) nb now ++ (gQ t (bk 3) sa ++ (g6 t sa sb sv)))) sz [.ref bh]) (qI D t (gBo bh bk out.2.1 ++ (gS t (bk 0) nb out.2.2 ++ (gQ t (bk 3) sa ++ (g6 t sa sb sv)))) out.1 (va_A (gBo bh bk bo ++ (gS t (bk 0) nb now ++ (gQ t (bk 3) sa ++ (g6 t sa sb sv)))) sz)) 0 0 (va_A (gBo bh bk bo ++ (gS t (bk 0) nb now ++ (gQ t (bk 3) sa ++ (g6 t sa sb sv)))) sz) := by
  refine met_of (Qf := fun A => qI D t (gBo bh bk out.2.1 ++ (gS t (bk 0) nb out.2.2 ++ (gQ t (bk 3) sa ++ (g6 t sa sb sv)))) out.1 A) (cc := cX2_undo) (maxL := 2) (ret := some .int) (by decide) rfl (Nat.le_of_ble_eq_true rfl) ?_
  intro p e s m args below meth c A hx hb hr hml hts hown hlocks hA hP hK hD hE hS ls hl
  have htB : ∀ w ∈ BIG, w.before args s = true := fun w h => hts w (List.mem_cons_of_mem _ h)
  have hown : s.vm.findClass RX2 = some m.cls := hown
  have hl : lv_has ls 2 [(0, .ref bh)] := hl
  unfold fX2_undo at h
  have J36 : ∀ v36 : BoT × ShT × Int32, fX2_undo_j36 sv v36 = some (.inr out) → ∀ (H : Heap) (locs : List Loc), va_P D vwCl (gBo bh bk v36.1 ++ (gS t (bk 0) nb v36.2.1 ++ (gQ t (bk 3) sa ++ (g6 t sa sb sv)))) H → va_D A (gBo bh bk v36.1 ++ (gS t (bk 0) nb v36.2.1 ++ (gQ t (bk 3) sa ++ (g6 t sa sb sv)))) → va_S A s.heap H locs → ∀ ls : Array Slot, lv_has ls 2 [(0, .ref bh)] → W p l e ({ frames := 2, cells := 0, slots := 0, locals := 43 }) s m args below meth c H locs 0 0 (MQ below (qI D t (gBo bh bk out.2.1 ++ (gS t (bk 0) nb out.2.2 ++ (gQ t (bk 3) sa ++ (g6 t sa sb sv)))) out.1 A) args s 0 0 A) (F0 m 36 ls [.int v36.2.2, .ref bh]) := by
    intro v36 h H locs hP hD hS ls hl
    unfold fX2_undo_j36 at h
    refine va_put (D := D) (ci := 2) (v := .int v36.2.2) (ty := .int) (C := RX2) (T := TX2) (N := 8) hx hb htB inlX2 tyX2 tyX2_ok nmX2 hown hK hP hD hS 0 rfl rfl 5 (by decide) (htB _ kw25) (fun _ h9 => h9) rfl (by decide +kernel) rfl rfl (Nat.le_of_ble_eq_true rfl) dX2_undo_36 (fun H locs hP hD hS => ?_)
    have hP : va_P D vwCl (gBo bh bk (v36.1.1, v36.2.2, v36.1.2.2) ++ (gS t (bk 0) nb v36.2.1 ++ (gQ t (bk 3) sa ++ (g6 t sa sb sv)))) H := hP
    have hD : va_D A (gBo bh bk (v36.1.1, v36.2.2, v36.1.2.2) ++ (gS t (bk 0) nb v36.2.1 ++ (gQ t (bk 3) sa ++ (g6 t sa sb sv)))) := hD
    refine lv_aload_n hx hb dX2_undo_39 rfl (lv_at hl 0 rfl) ?_
    refine lv_dup hx hb dX2_undo_40 rfl ?_
    refine va_get (D := D) (ci := 2) (v := .int v36.1.1) (C := RX2) (T := TX2) (N := 8) hx hb htB inlX2 hown hK hP 0 rfl rfl 4 (by decide) (htB _ kw24) (fun _ h9 => h9) rfl dX2_undo_41 ?_
    refine lv_iconst (v := 1) hx hb dX2_undo_44 (by decide) ?_
    refine lv_isub hx hb dX2_undo_45 ?_
    refine va_put (D := D) (ci := 2) (v := .int (v36.1.1 - 1)) (ty := .int) (C := RX2) (T := TX2) (N := 8) hx hb htB inlX2 tyX2 tyX2_ok nmX2 hown hK hP hD hS 0 rfl rfl 4 (by decide) (htB _ kw24) (fun _ h9 => h9) rfl (by decide +kernel) rfl rfl (Nat.le_of_ble_eq_true rfl) dX2_undo_46 (fun H locs hP hD hS => ?_)
    have hP : va_P D vwCl (gBo bh bk ((v36.1.1 - 1), v36.2.2, v36.1.2.2) ++ (gS t (bk 0) nb v36.2.1 ++ (gQ t (bk 3) sa ++ (g6 t sa sb sv)))) H := hP
    have hD : va_D A (gBo bh bk ((v36.1.1 - 1), v36.2.2, v36.1.2.2) ++ (gS t (bk 0) nb v36.2.1 ++ (gQ t (bk 3) sa ++ (g6 t sa sb sv)))) := hD
    refine lv_aload_n hx hb dX2_undo_49 rfl (lv_at hl 0 rfl) ?_
    refine lv_aload_n hx hb dX2_undo_50 rfl (lv_at hl 0 rfl) ?_
    refine va_get (D := D) (ci := 2) (v := .int v36.2.2) (C := RX2) (T := TX2) (N := 8) hx hb htB inlX2 hown hK hP 0 rfl rfl 5 (by decide) (htB _ kw25) (fun _ h9 => h9) rfl dX2_undo_51 ?_
    obtain ⟨r3, h3, h⟩ := ob h
    refine call_r (v := sa (Int32.toNatClampNeg v36.2.2)) (wc := (gBo bh bk ((v36.1.1 - 1), v36.2.2, v36.1.2.2) ++ (gQ t (bk 3) sa))) (wc' := (gBo bh bk ((v36.1.1 - 1), v36.2.2, v36.1.2.2) ++ (gQ t (bk 3) sa))) (ws' := (gBo bh bk ((v36.1.1 - 1), v36.2.2, v36.1.2.2) ++ (gS t (bk 0) nb v36.2.1 ++ (gQ t (bk 3) sa ++ (g6 t sa sb sv))))) (cutB (bs := [gBo bh bk ((v36.1.1 - 1), v36.2.2, v36.1.2.2), gS t (bk 0) nb v36.2.1, gQ t (bk 3) sa, g6 t sa sb sv]) (cs := [gBo bh bk ((v36.1.1 - 1), v36.2.2, v36.1.2.2), gQ t (bk 3) sa]) (cs' := [gBo bh bk ((v36.1.1 - 1), v36.2.2, v36.1.2.2), gQ t (bk 3) sa]) (bs' := [gBo bh bk ((v36.1.1 - 1), v36.2.2, v36.1.2.2), gS t (bk 0) nb v36.2.1, gQ t (bk 3) sa, g6 t sa sb sv]) [0, 2] hP hD hS hA rfl rfl rfl rfl) hS (fun hPc hDc => va_runV (As := [.int v36.2.2]) (rest := []) ⟨hx, hb, hml, hown, hts⟩ (mtX2_savedAt l D t bh bk ((v36.1.1 - 1), v36.2.2, v36.1.2.2) sa v36.2.2 r3 h3 _) (cwV 1 hts (gBV kw94 kw95 kw96 kw2 kw97) rfl rfl rfl (by decide +kernel) ⟨Nat.le_of_ble_eq_true rfl, Nat.le_of_ble_eq_true rfl⟩) (sPc_V hPc hK hDc hE (va_recv hK hP (ci := 2) (q0 := 0) rfl rfl)) rfl rfl hl.1 rfl (lv_room (Nat.le_of_ble_eq_true rfl)) dX2_undo_54 ⟨Nat.zero_le _, Nat.zero_le _⟩) (fun H locs hP hD hS => ?_)
    have hj6 := pin6 (sv_pin h3)
    refine lv_astore_n (lv' := [(1, .ref (sa (Int32.toNatClampNeg v36.2.2))), (0, .ref bh)]) hx hb dX2_undo_57 rfl hl (by decide) rfl (fun ls hl => ?_)
    refine lv_aload_n hx hb dX2_undo_58 rfl (lv_at hl 0 rfl) ?_
    refine lv_ifnull hx hb dX2_undo_59 ?_
    refine lv_aload_n hx hb dX2_undo_62 rfl (lv_at hl 1 rfl) ?_
    refine va_get (D := D) (ci := 2) (v := .ref (bk 0)) (C := RX2) (T := TX2) (N := 8) hx hb htB inlX2 hown hK hP 0 rfl rfl 0 (by decide) (htB _ kw17) (fun _ h9 => h9) rfl dX2_undo_63 ?_
    refine lv_aload_n hx hb dX2_undo_66 rfl (lv_at hl 0 rfl) ?_
    obtain ⟨r4, h4, h⟩ := ob h
    refine call_v (wc := (gS t (bk 0) nb v36.2.1 ++ (gS t (sa (Int32.toNatClampNeg v36.2.2)) (sb (Int32.toNatClampNeg v36.2.2)) (sv (Int32.toNatClampNeg v36.2.2))))) (wc' := (gS t (bk 0) nb r4 ++ (gS t (sa (Int32.toNatClampNeg v36.2.2)) (sb (Int32.toNatClampNeg v36.2.2)) (sv (Int32.toNatClampNeg v36.2.2))))) (ws' := (gBo bh bk ((v36.1.1 - 1), v36.2.2, v36.1.2.2) ++ (gS t (bk 0) nb r4 ++ (gQ t (bk 3) sa ++ (g6 t sa sb sv))))) (cutB (bs := [gBo bh bk ((v36.1.1 - 1), v36.2.2, v36.1.2.2), gS t (bk 0) nb v36.2.1, gQ t (bk 3) sa, gS t (sa 0) (sb 0) (sv 0), gS t (sa 1) (sb 1) (sv 1), gS t (sa 2) (sb 2) (sv 2), gS t (sa 3) (sb 3) (sv 3), gS t (sa 4) (sb 4) (sv 4), gS t (sa 5) (sb 5) (sv 5)]) (cs := [gS t (bk 0) nb v36.2.1, gS t (sa (Int32.toNatClampNeg v36.2.2)) (sb (Int32.toNatClampNeg v36.2.2)) (sv (Int32.toNatClampNeg v36.2.2))]) (cs' := [gS t (bk 0) nb r4, gS t (sa (Int32.toNatClampNeg v36.2.2)) (sb (Int32.toNatClampNeg v36.2.2)) (sv (Int32.toNatClampNeg v36.2.2))]) (bs' := [gBo bh bk ((v36.1.1 - 1), v36.2.2, v36.1.2.2), gS t (bk 0) nb r4, gQ t (bk 3) sa, gS t (sa 0) (sb 0) (sv 0), gS t (sa 1) (sb 1) (sv 1), gS t (sa 2) (sb 2) (sv 2), gS t (sa 3) (sb 3) (sv 3), gS t (sa 4) (sb 4) (sv 4), gS t (sa 5) (sb 5) (sv 5)]) [1, 3 + (Int32.toNatClampNeg v36.2.2)] hP hD hS hA (by rcases hj6 with e9 | e9 | e9 | e9 | e9 | e9 <;> rw [e9] <;> rfl) (by rcases hj6 with e9 | e9 | e9 | e9 | e9 | e9 <;> rw [e9] <;> rfl) (by rcases hj6 with e9 | e9 | e9 | e9 | e9 | e9 <;> rw [e9] <;> rfl) rfl) hS (fun hPc hDc => va_runV (As := [.ref (sa (Int32.toNatClampNeg v36.2.2))]) (rest := []) ⟨hx, hb, hml, hown, hts⟩ (mtX1_become l D t (bk 0) nb v36.2.1 (sa (Int32.toNatClampNeg v36.2.2)) (sb (Int32.toNatClampNeg v36.2.2)) (sv (Int32.toNatClampNeg v36.2.2)) r4 h4 _) (cwV 1 hts (gBV kw98 kw99 kw100 kw16 kw101) rfl rfl rfl (by decide +kernel) ⟨Nat.le_of_ble_eq_true rfl, Nat.le_of_ble_eq_true rfl⟩) (sPc_V hPc hK hDc hE (va_recv hK hP (ci := 1) (q0 := 1) rfl rfl)) rfl rfl hl.1 rfl (lv_room (Nat.le_of_ble_eq_true rfl)) dX2_undo_67 ⟨Nat.zero_le _, Nat.zero_le _⟩) (fun H locs hP hD hS => ?_)
    refine lv_aload_n hx hb dX2_undo_70 rfl (lv_at hl 1 rfl) ?_
    refine va_get (D := D) (ci := 2) (v := .int (v36.1.1 - 1)) (C := RX2) (T := TX2) (N := 8) hx hb htB inlX2 hown hK hP 0 rfl rfl 4 (by decide) (htB _ kw24) (fun _ h9 => h9) rfl dX2_undo_71 ?_
    obtain rfl := oi h
    exact ret_i hx hb hr hlocks hP hK hD hS dX2_undo_74
  refine lv_aload_n hx hb dX2_undo_0 rfl (lv_at hl 0 rfl) ?_
  refine va_get (D := D) (ci := 2) (v := .int bo.1) (C := RX2) (T := TX2) (N := 8) hx hb htB inlX2 hown hK hP 0 rfl rfl 4 (by decide) (htB _ kw24) (fun _ h9 => h9) rfl dX2_undo_1 ?_
  refine lv_iconst (v := 1) hx hb dX2_undo_4 (by decide) ?_
  refine lv_icmp_ge (tgt := 18) hx hb dX2_undo_5 (by decide) (fun c1 => ?_) (fun c1 => ?_)
  · have h := it_p c1 h
    refine lv_aload_n hx hb dX2_undo_18 rfl (lv_at hl 0 rfl) ?_
    refine lv_aload_n hx hb dX2_undo_19 rfl (lv_at hl 0 rfl) ?_
    refine va_get (D := D) (ci := 2) (v := .int bo.2.1) (C := RX2) (T := TX2) (N := 8) hx hb htB inlX2 hown hK hP 0 rfl rfl 5 (by decide) (htB _ kw25) (fun _ h9 => h9) rfl dX2_undo_20 ?_
    refine lv_if_le (tgt := 35) hx hb dX2_undo_23 (by decide) (fun c2 => ?_) (fun c2 => ?_)
    · have h := it_p c2 h
      refine lv_iconst (v := 5) hx hb dX2_undo_35 (by decide) ?_
      exact J36 (bo, now, 5) h _ _ hP hD hS _ (lv_sub hl [0] rfl)
    · have h := it_n c2 h
      refine lv_aload_n hx hb dX2_undo_26 rfl (lv_at hl 0 rfl) ?_
      refine va_get (D := D) (ci := 2) (v := .int bo.2.1) (C := RX2) (T := TX2) (N := 8) hx hb htB inlX2 hown hK hP 0 rfl rfl 5 (by decide) (htB _ kw25) (fun _ h9 => h9) rfl dX2_undo_27 ?_
      refine lv_iconst (v := 1) hx hb dX2_undo_30 (by decide) ?_
      refine lv_isub hx hb dX2_undo_31 ?_
      refine lv_goto (tgt := 36) hx hb dX2_undo_32 (by decide) ?_
      exact J36 (bo, now, bo.2.1 - 1) h _ _ hP hD hS _ (lv_sub hl [0] rfl)
  · have h := it_n c1 h
    cases h
end
