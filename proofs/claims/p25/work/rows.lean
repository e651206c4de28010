section
-- ===== PART A: goes FIRST, ahead of the names: the tables' words, and 'selects' of the private methods out of them =====
/-- a private method of a class that the tables say can be made, by its rows of tables_1 -/
def lw_okq (q : MethodName × Nat) : Prop := (q.1.cls ≠ "java/lang/invoke/MethodHandle" ∧ q.1.cls ≠ "java/lang/invoke/VarHandle") ∧ Cond.instantiable q.1.cls q.2 ∈ tables_1 ∧ Cond.privateMethod q.1 ∈ tables_1 ∧ Cond.instanceMethod q.1 ∈ tables_1
theorem lw_p0 : lw_okq (⟨"java/lang/Throwable", "fillInStackTrace", "(I)Ljava/lang/Throwable;"⟩, 6) := ⟨⟨by decide +kernel, by decide +kernel⟩, List.mem_of_getElem? (i := 190) (by decide +kernel), List.mem_of_getElem? (i := 188) (by decide +kernel), List.mem_of_getElem? (i := 189) (by decide +kernel)⟩
theorem lw_p1 : lw_okq (⟨"ShutterBench$Exposure", "runCurtains", "(LShutterBench$Shutter;I)V"⟩, 10) := ⟨⟨by decide +kernel, by decide +kernel⟩, List.mem_of_getElem? (i := 69) (by decide +kernel), List.mem_of_getElem? (i := 270) (by decide +kernel), List.mem_of_getElem? (i := 271) (by decide +kernel)⟩
theorem lw_p2 : lw_okq (⟨"ShutterBench$Exposure", "openColumns", "(LShutterBench$Shutter;)V"⟩, 10) := ⟨⟨by decide +kernel, by decide +kernel⟩, List.mem_of_getElem? (i := 69) (by decide +kernel), List.mem_of_getElem? (i := 287) (by decide +kernel), List.mem_of_getElem? (i := 288) (by decide +kernel)⟩
theorem lw_p3 : lw_okq (⟨"ShutterBench$Exposure", "sumUp", "(I)V"⟩, 10) := ⟨⟨by decide +kernel, by decide +kernel⟩, List.mem_of_getElem? (i := 69) (by decide +kernel), List.mem_of_getElem? (i := 300) (by decide +kernel), List.mem_of_getElem? (i := 301) (by decide +kernel)⟩
theorem lw_p4 : lw_okq (⟨"ShutterBench", "fire", "(LShutterBench$Shutter;II)V"⟩, 8) := ⟨⟨by decide +kernel, by decide +kernel⟩, List.mem_of_getElem? (i := 12) (by decide +kernel), List.mem_of_getElem? (i := 329) (by decide +kernel), List.mem_of_getElem? (i := 330) (by decide +kernel)⟩
theorem lw_p5 : lw_okq (⟨"ShutterBench", "saveState", "()V"⟩, 8) := ⟨⟨by decide +kernel, by decide +kernel⟩, List.mem_of_getElem? (i := 12) (by decide +kernel), List.mem_of_getElem? (i := 384) (by decide +kernel), List.mem_of_getElem? (i := 385) (by decide +kernel)⟩
theorem lw_p6 : lw_okq (⟨"ShutterBench", "savedAt", "(I)LShutterBench$Shutter;"⟩, 8) := ⟨⟨by decide +kernel, by decide +kernel⟩, List.mem_of_getElem? (i := 12) (by decide +kernel), List.mem_of_getElem? (i := 388) (by decide +kernel), List.mem_of_getElem? (i := 389) (by decide +kernel)⟩
def lw_privs_1 : List (MethodName × Nat) := [(⟨"java/lang/Throwable", "fillInStackTrace", "(I)Ljava/lang/Throwable;"⟩, 6), (⟨"ShutterBench$Exposure", "runCurtains", "(LShutterBench$Shutter;I)V"⟩, 10), (⟨"ShutterBench$Exposure", "openColumns", "(LShutterBench$Shutter;)V"⟩, 10), (⟨"ShutterBench$Exposure", "sumUp", "(I)V"⟩, 10), (⟨"ShutterBench", "fire", "(LShutterBench$Shutter;II)V"⟩, 8), (⟨"ShutterBench", "saveState", "()V"⟩, 8), (⟨"ShutterBench", "savedAt", "(I)LShutterBench$Shutter;"⟩, 8)]
theorem lw_r1 : ∀ q ∈ lw_privs_1, lw_okq q := List.forall_mem_cons.mpr ⟨lw_p0, List.forall_mem_cons.mpr ⟨lw_p1, List.forall_mem_cons.mpr ⟨lw_p2, List.forall_mem_cons.mpr ⟨lw_p3, List.forall_mem_cons.mpr ⟨lw_p4, List.forall_mem_cons.mpr ⟨lw_p5, List.forall_mem_cons.mpr ⟨lw_p6, fun _ h => absurd h List.not_mem_nil⟩⟩⟩⟩⟩⟩⟩
def lw_privs : List (MethodName × Nat) := lw_privs_1
def lw_tbl : List Cond := k2_sels lw_privs ++ tables_1
theorem lw_privs_ok : ∀ q ∈ lw_privs, lw_okq q := lw_r1
/-- the streams that the claim lets the run draw from -/
abbrev lw_cs : List Choice := [Jvm.Choice.named "NaN.bits"]
theorem lw_bits : nanBits ∈ lw_cs := by first | decide | exact List.mem_cons_self | simp [lw_cs, nanBits]
-- ===== end of PART A; then your names; then what follows =====
end
section
/-! ===== BEGIN words of one list among another's, by their places ===== -/
theorem goodIn_r {big : List Cond} (ws : List Cond) (ps : List Nat) (hp : ws = ps.filterMap (fun i => big[i]?)) (h : ws.all goodWord = true) : GoodIn big ws := by
  intro w hw
  have h1 := List.all_eq_true.mp h w hw
  rw [hp] at hw
  obtain ⟨i, -, hi⟩ := List.mem_filterMap.mp hw
  have hm : w ∈ big := by first | exact List.mem_of_getElem? hi | exact List.getElem?_mem hi
  exact ⟨hm, good_of_word h1⟩
theorem goodIn_app {big a b : List Cond} (ha : GoodIn big a) (hb : GoodIn big b) : GoodIn big (a ++ b) := fun w h => (List.mem_append.mp h).elim (ha w) (hb w)
theorem goodIn_ca {big a b : List Cond} {c : Cond} (ha : GoodIn big (c :: a)) (hb : GoodIn big b) : GoodIn big (c :: (a ++ b)) := fun w h => (List.mem_cons.mp h).elim (fun e => ha w (List.mem_cons.mpr (Or.inl e))) (fun h => (List.mem_append.mp h).elim (fun h => ha w (List.mem_cons.mpr (Or.inr h))) (hb w))
theorem goodIn_sub {big ws : List Cond} (hm : ∀ w ∈ ws, w ∈ big) (h : ws.all goodWord = true) : GoodIn big ws := fun w hw => ⟨hm w hw, good_of_word (List.all_eq_true.mp h w hw)⟩
/-! ===== END ===== -/

/-! ===== BEGIN exceptions that leave a method, and their catching by the caller (launches without stack traces) ===== -/
section VXA
/-! The laws vx_back, vx_callV, vx_callS, vx_callSW, vx_throw0, vx_throwS follow proofs of the library, with one case more: JvmDerived/Free/Laws.lean (Back.of_free), Shelf42/LK1.lean (callV, callS), Shelf/KitTraced.lean (throwNew0V, throwNewS). -/
/-- where a method has thrown q: the class by its name, the cell, what was written, the world -/
def vx_T (XC : String → State → State → Prop) (st : State) (q : Addr) (t : State) (mc ms : Nat) (free : Addr → Prop) : Prop :=
  ∃ (E : String) (ce : Cell) (L : List Loc), XC E st t ∧ t.heap[q]? = some ce ∧ ce.vm = .none ∧ st.vm.findClass E = some ce.cls ∧ st.WarmedH t.vm ∧ st.sameButNew ({ t with vm := st.vm } : State) L mc ms ∧ ∀ z ∈ L, free z.base
def vx_Q (Qc : Array Value → State → Outcome → State → Prop) (XC : String → State → State → Prop) (mc ms : Nat) (free : Addr → Prop) : Array Value → State → Outcome → State → Prop := fun a st o t =>
  (Qc a st o t ∧ ∃ L, FrameEnd st o t L mc ms ∧ ∀ q ∈ L, free q.base) ∨ ∃ q, o = .threw q ∧ vx_T XC st q t mc ms free
/-- a callee that returns or throws -/
def vx_Met (l : Launch) (y : MethodName) (ws : List Cond) (rm : Room) (Pc : Array Value → State → Prop) (Qc : Array Value → State → Outcome → State → Prop) (XC : String → State → State → Prop) (mc ms : Nat) (free : Addr → Prop) : Prop :=
  MetFree l y (headSpec ws rm) Pc (fun _ _ _ _ _ => True) (vx_Q Qc XC mc ms free)
def vx_Post (XC : String → State → State → Prop) (mc ms : Nat) (free : Addr → Prop) : Pt → Array Value → Addr → Pt → Prop := fun A a q B =>
  ∃ (g : JFrame) (mk : MethodId) (t : State) (L : List Loc) (E : String) (ce : Cell), B.U.heap = t.heap ∧ B.U.vm = t.vm ∧ XC E (A.U.calling g mk a) t ∧ t.heap[q]? = some ce ∧ ce.vm = .none ∧ A.U.vm.findClass E = some ce.cls ∧ B.locs = A.locs ++ L ∧ (∀ z ∈ L, free z.base) ∧ B.cells = A.cells + mc ∧ B.slots = A.slots + ms
def vx_Back (l : Launch) (R : Room) (p : Program) (e : Env) (below : List Frame) (s : State) (sargs : Array Value) (y : MethodName) (len W9 : Nat)
    (Pre : Pt → Array Value → Prop) (Post : Pt → Array Value → Option Value → Pt → Prop) (PostX : Pt → Array Value → Addr → Pt → Prop) : Prop :=
  ∀ (m : MethodId) (meth : Method) (c : Code) (A : Pt) (g : JFrame) (ig : Instr) (mk : MethodId) (a : Array Value),
    Stand p l e R s m sargs below meth c A.U A.locs A.cells A.slots → g.method = m → g.locals.size = c.maxLocals → decode c.code g.pc = .ok (ig, len) →
    2 * g.monitorRoom + (g.stack.map fun v => v.category).sum ≤ W9 → A.U.methodNamed? y = some mk → Pre A a →
    (∃ (v : Option Value) (B : Pt), Stand p l e R s m sargs below meth c B.U B.locs B.cells B.slots ∧ Post A a v B ∧
      Steps p.tables e below (doInvoke e (A.U.setTop g) [] mk a).1 (B.U.setTop { g with pc := g.pc + len, stack := v.toList ++ g.stack })) ∨
    (∃ (q : Addr) (B : Pt), Stand p l e R s m sargs below meth c B.U B.locs B.cells B.slots ∧ PostX A a q B ∧
      Steps p.tables e below (doInvoke e (A.U.setTop g) [] mk a).1 ((B.U.setTop g).pushFrame (.throwing q)))
section Payer
variable {l : Launch} {R : Room} {p : Program} {e : Env} {below : List Frame} {s : State} {sargs : Array Value} {y : MethodName} {len W9 : Nat}
theorem vx_back {ws : List Cond} {rm : Room} {Pc : Array Value → State → Prop} {Qc : Array Value → State → Outcome → State → Prop} {XC : String → State → State → Prop} {mc ms : Nat} {free : Addr → Prop} {bytes : ByteArray} {maxL : Nat} {ret : Option FieldType}
    (hM : vx_Met l y ws rm Pc Qc XC mc ms free) (hblind : FrameBlind Pc) (hrc : rm.cells = mc) (hrs : rm.slots = ms)
    (hframes : rm.frames + 1 ≤ R.frames) (hlocals : W9 + (maxL + 11) + rm.locals ≤ R.locals)
    (hws : ∀ w ∈ ws, ∀ a' U, s.WarmedH U.vm → w.before a' U = true) (hcode : Cond.code y bytes maxL ret ∈ ws) (hinit : ∀ a' U, s.WarmedH U.vm → (Cond.initialized y.cls).before a' U = true) :
    vx_Back l R p e below s sargs y len W9 (PreOf R mc ms Pc) (PostOf Qc mc ms free) (vx_Post XC mc ms free) := by
  intro m meth c A g ig mk a X hg hsize hdg hW hn hp
  have h1 : (headSpec ws rm).pre.before a A.U = true := atoms_intro fun w hw => hws w hw _ _ X.warmed
  have h2 : (Cond.code y bytes maxL ret).before a A.U = true := hws _ hcode _ _ X.warmed
  have h3 : (Cond.initialized y.cls).before a A.U = true := hinit _ _ X.warmed
  have h4 : A.cells + (headSpec ws rm).room.cells ≤ R.cells := by rw [show (headSpec ws rm).room.cells = mc from hrc]; exact hp.1
  have h5 : A.slots + (headSpec ws rm).room.slots ≤ R.slots := by rw [show (headSpec ws rm).room.slots = ms from hrs]; exact hp.2.1
  have hPc : Pc a (A.U.calling g mk a) := hblind _ _ _ _ hp.2.2
  obtain ⟨U, Ls, c0, s0⟩ := A
  dsimp only [Pt.U, Pt.locs, Pt.cells, Pt.slots] at h1 h2 h3 h4 h5 X hn hPc ⊢
  obtain ⟨methY, cY, hmY, hcY, -, hlY, -, -, -, -⟩ := Cond.code_spec hn h2
  obtain ⟨kY, hkY, -⟩ := className_of_methodNamed hn
  have hinitY : kY.init = .initialized := Cond.initialized_spec (findClass_of_methodNamed hn) hkY h3
  have h : At U g.method c below := by rw [hg]; exact X.here
  have hlocals9 : W9 + (maxL + 11) + (headSpec ws rm).room.locals ≤ R.locals := hlocals
  have happ : (headSpec ws rm).appliesLoose y e.platform (U.calling g mk a) = true :=
    Spec.appliesLoose_calling (g := g) h hdg hn hkY hinitY
      (X.room_calling (g := g) (R' := (headSpec ws rm).room) hsize hmY hcY hframes (by rw [hlY]; omega) h4 h5) h1
  obtain ⟨mid, hmid⟩ := h.above
  have hfr : (U.setTop g).frames = (.java g :: mid) ++ below := by rw [State.frames_setTop' g h.top, hmid]; rfl
  obtain ⟨o, s₂, hsteps, -, hend, hq⟩ := Steps.callFree hM p X.admits X.cas X.clock (acts := []) hfr happ hPc trivial
  have hq' : vx_Q Qc XC mc ms free a (U.calling g mk a) o s₂ := hq
  rw [State.frames_setTop' g h.top] at hend
  obtain ⟨g₀, hg0⟩ := Option.isSome_iff_exists.mp h.top
  obtain ⟨r, hr⟩ := State.topJava?_eq_some.mp hg0
  have hr' : (({ U with heap := s₂.heap, slotsUsed := s₂.slotsUsed } : State).setVm s₂.vm).frames = .java g₀ :: r := hr
  rcases hq' with ⟨hqc, L, hfe, hL⟩ | ⟨q, rfl, E, ce, L, hx, hce, hcv, hcl, hW₂, hsm, hL⟩
  · obtain ⟨⟨v, rfl⟩, hW₂, e2, q2, q3, q4, q5, q6⟩ := id hfe
    have e3 : s₂ = ({ (U.calling g mk a).setFrames s₂.frames with heap := s₂.heap, slotsUsed := s₂.slotsUsed } : State).setVm s₂.vm := by
      have : s₂ = ({ s₂ with vm := (U.calling g mk a).vm } : State).setVm s₂.vm := rfl
      rw [e2] at this
      exact this
    obtain ⟨c₂, i₂, len₂, hc₂, hd₂, hf₂⟩ := hend
    have hW' : U.WarmedH s₂.vm := hW₂
    have hcc : c₂ = c := by
      have h1 : s₂.code? g.method = U.code? g.method := by
        rw [State.code?_eq, State.code?_eq, hW'.alike.method?]
      exact Option.some.inj (hc₂.symm.trans (h1.trans h.code))
    subst hcc
    have hlen : len₂ = len := by rw [hdg] at hd₂; cases hd₂; rfl
    subst hlen
    have hs₂ : s₂ = (({ U with heap := s₂.heap, slotsUsed := s₂.slotsUsed } : State).setVm s₂.vm).setTop { g with pc := g.pc + len₂, stack := v.toList ++ g.stack } := by
      refine e3.trans ?_
      rw [hf₂, State.calling_eq h.top, State.setFrames_setFrames, State.setTop_of_frames _ hr', hr]
      rfl
    have hsame : U.sameButNew ({ U with heap := s₂.heap, slotsUsed := s₂.slotsUsed } : State) L mc ms := by
      refine ⟨?_, q2, q3, q4, q5, q6⟩
      obtain ⟨t, ht, -⟩ := State.frames_cons hr
      show ({ U with heap := s₂.heap, slotsUsed := s₂.slotsUsed } : State) = { U.setFrames U.frames with heap := s₂.heap, slotsUsed := s₂.slotsUsed }
      rw [State.setFrames_self ht]
    subst hg
    refine Or.inl ⟨v, ⟨(({ U with heap := s₂.heap, slotsUsed := s₂.slotsUsed } : State).setVm s₂.vm), Ls ++ L, c0 + mc, s0 + ms⟩,
      ⟨X.admits, X.cas, X.clock, X.frames, X.room, X.hears, X.method, X.code, (X.here.setHeapUsed s₂.heap s₂.slotsUsed).setVm hW'.alike, X.tail, State.WarmedH.trans X.warmed hW', X.limits, X.bytes, X.same.trans (hsame.setVm s.vm)⟩,
      ⟨g, mk, s₂, L, rfl, rfl, hqc, rfl, hL, rfl, rfl⟩, ?_⟩
    show Steps p.tables e below _ ((({ U with heap := s₂.heap, slotsUsed := s₂.slotsUsed } : State).setVm s₂.vm).setTop { g with pc := g.pc + len₂, stack := v.toList ++ g.stack })
    rw [← hs₂]
    exact hsteps
  · obtain ⟨e2, q2, q3, q4, q5, q6⟩ := id hsm
    have e3 : s₂ = ({ (U.calling g mk a).setFrames s₂.frames with heap := s₂.heap, slotsUsed := s₂.slotsUsed } : State).setVm s₂.vm := by
      have : s₂ = ({ s₂ with vm := (U.calling g mk a).vm } : State).setVm s₂.vm := rfl
      rw [e2] at this
      exact this
    have hf₂ : s₂.frames = .throwing q :: .java g :: U.frames.tail := hend
    have hW' : U.WarmedH s₂.vm := hW₂
    have hs₂ : s₂ = ((({ U with heap := s₂.heap, slotsUsed := s₂.slotsUsed } : State).setVm s₂.vm).setTop g).pushFrame (.throwing q) := by
      refine e3.trans ?_
      rw [hf₂, State.calling_eq h.top, State.setFrames_setFrames, State.pushFrame, State.frames_setTop _ hr', State.setTop_of_frames _ hr', State.setFrames_setFrames, hr]
      rfl
    have hsame : U.sameButNew ({ U with heap := s₂.heap, slotsUsed := s₂.slotsUsed } : State) L mc ms := by
      refine ⟨?_, q2, q3, q4, q5, q6⟩
      obtain ⟨t, ht, -⟩ := State.frames_cons hr
      show ({ U with heap := s₂.heap, slotsUsed := s₂.slotsUsed } : State) = { U.setFrames U.frames with heap := s₂.heap, slotsUsed := s₂.slotsUsed }
      rw [State.setFrames_self ht]
    subst hg
    refine Or.inr ⟨q, ⟨(({ U with heap := s₂.heap, slotsUsed := s₂.slotsUsed } : State).setVm s₂.vm), Ls ++ L, c0 + mc, s0 + ms⟩,
      ⟨X.admits, X.cas, X.clock, X.frames, X.room, X.hears, X.method, X.code, (X.here.setHeapUsed s₂.heap s₂.slotsUsed).setVm hW'.alike, X.tail, State.WarmedH.trans X.warmed hW', X.limits, X.bytes, X.same.trans (hsame.setVm s.vm)⟩,
      ⟨g, mk, s₂, L, E, ce, rfl, rfl, hx, hce, hcv, hcl, rfl, hL, rfl, rfl⟩, ?_⟩
    show Steps p.tables e below _ (((({ U with heap := s₂.heap, slotsUsed := s₂.slotsUsed } : State).setVm s₂.vm).setTop g).pushFrame (.throwing q))
    rw [← hs₂]
    exact hsteps
end Payer
section Calls
variable {p : Program} {l : Launch} {e : Env} {R : Room} {s : State} {m : MethodId} {args : Array Value} {below : List Frame} {meth : Method} {c : Code} {T : State} {locs : List Loc} {cells slots : Nat}
theorem vx_callV (X : Stand p l e R s m args below meth c T locs cells slots) (hexec : p.tables.exec = Jvm.exec) {own C : String} {index : Nat} {y : MethodName} {bytes : ByteArray} {maxL : Nat} {ret : Option FieldType}
    (hown : s.vm.findClass own = some m.cls) (hlink : (Cond.methodLink own index y).before args s = true) (hinst : (Cond.instanceMethod y).before args s = true) (hsel : (Cond.selects C y y).before args s = true)
    (hcode : (Cond.code y bytes maxL ret).before args s = true) (hy : y.cls ≠ "java/lang/invoke/MethodHandle" ∧ y.cls ≠ "java/lang/invoke/VarHandle")
    {W9 : Nat} {Pre : Pt → Array Value → Prop} {Post : Pt → Array Value → Option Value → Pt → Prop} {PostX : Pt → Array Value → Addr → Pt → Prop} (hK : vx_Back l R p e below s args y 3 W9 Pre Post PostX)
    {b : Addr} {cellB : Cell} (hcell : T.heap[b]? = some cellB) (hobj : cellB.vm.isStatics = false) (hcls : s.vm.findClass C = some cellB.cls)
    {g : JFrame} (hg : g.method = m) (hsize : g.locals.size = c.maxLocals) {argsL rest : List Value} (hlen : ∀ sig, parseMethodDescriptor y.desc = some sig → argsL.length = sig.parameters.length)
    (hstack : g.stack = argsL.reverse ++ .ref b :: rest) (hW : 2 * g.monitorRoom + (rest.map fun v => v.category).sum ≤ W9) (hdg : decode c.code g.pc = .ok (.invokevirtual index, 3))
    (hpre : ∀ vm₁, s.WarmedH vm₁ → Pre ⟨T.setVm vm₁, locs, cells, slots⟩ (Value.ref b :: argsL).toArray) :
    (∃ (v : Option Value) (vm₁ : Vm) (B : Pt), s.WarmedH vm₁ ∧ Stand p l e R s m args below meth c B.U B.locs B.cells B.slots ∧ Post ⟨T.setVm vm₁, locs, cells, slots⟩ (Value.ref b :: argsL).toArray v B ∧
      ∀ target, Steps p.tables e below (B.U.setTop { g with pc := g.pc + 3, stack := v.toList ++ rest }) target → Steps p.tables e below (T.setTop g) target) ∨
    (∃ (q : Addr) (vm₁ : Vm) (B : Pt), s.WarmedH vm₁ ∧ Stand p l e R s m args below meth c B.U B.locs B.cells B.slots ∧ PostX ⟨T.setVm vm₁, locs, cells, slots⟩ (Value.ref b :: argsL).toArray q B ∧
      Steps p.tables e below (T.setTop g) ((B.U.setTop { g with stack := rest }).pushFrame (.throwing q))) := by
  obtain ⟨mk, methM, hnamed, hmethM, hstM, habM⟩ := Cond.instanceMethod_spec hinst
  obtain ⟨methM', cM, hmethM', -, -, -, -, -, -, hsigM⟩ := Cond.code_spec hnamed hcode
  cases hmethM.symm.trans hmethM'
  obtain ⟨c2, r2, m2, q1, q2, q3, q4, kP, hkP, hkPi⟩ := Cond.selects_spec hsel
  cases hcls.symm.trans q1
  cases (State.methodFound?_of_named hnamed hy).symm.trans q2
  cases hnamed.symm.trans q3
  have hselP : selectMethod e.platform s.vm cellB.cls mk = .method mk := by rw [Launch.admits_selectMethod X.admits]; exact q4
  obtain ⟨vm₁, X₁, hstep₁⟩ := X.invokevirtual hexec hown hlink hnamed hmethM hstM hkP hkPi hy (a := b) (cell := cellB) hcell
    (fun z h => by rw [h] at hobj; cases hobj) hselP hmethM habM hkP hkPi (g := g) hg (argsL := argsL) (rest := rest) (hlen _ hsigM) hstack hdg
  rcases hK m meth c ⟨T.setVm vm₁, locs, cells, slots⟩ { g with stack := rest } (.invokevirtual index) mk (Value.ref b :: argsL).toArray X₁ hg hsize hdg hW (X₁.named hnamed) (hpre vm₁ X₁.warmed) with ⟨v, B, X', hpost, hsteps⟩ | ⟨q, B, X', hpost, hsteps⟩
  · exact Or.inl ⟨v, vm₁, B, X₁.warmed, X', hpost, fun target h => hstep₁ _ fun acts => by rw [doInvoke_state]; exact hsteps.trans h⟩
  · exact Or.inr ⟨q, vm₁, B, X₁.warmed, X', hpost, hstep₁ _ fun acts => by rw [doInvoke_state]; exact hsteps⟩
theorem vx_callS (X : Stand p l e R s m args below meth c T locs cells slots) (hexec : p.tables.exec = Jvm.exec) {own : String} {index : Nat} {y : MethodName} {bytes : ByteArray} {maxL : Nat} {ret : Option FieldType}
    (hown : s.vm.findClass own = some m.cls) (hlink : (Cond.methodLink own index y).before args s = true) (hstat : (Cond.static y).before args s = true) (hinit : (Cond.initialized y.cls).before args s = true)
    (hcode : (Cond.code y bytes maxL ret).before args s = true) (hy : y.cls ≠ "java/lang/invoke/MethodHandle" ∧ y.cls ≠ "java/lang/invoke/VarHandle")
    {W9 : Nat} {Pre : Pt → Array Value → Prop} {Post : Pt → Array Value → Option Value → Pt → Prop} {PostX : Pt → Array Value → Addr → Pt → Prop} (hK : vx_Back l R p e below s args y 3 W9 Pre Post PostX)
    {g : JFrame} (hg : g.method = m) (hsize : g.locals.size = c.maxLocals) {argsL rest : List Value} (hlen : ∀ sig, parseMethodDescriptor y.desc = some sig → argsL.length = sig.parameters.length)
    (hstack : g.stack = argsL.reverse ++ rest) (hW : 2 * g.monitorRoom + (rest.map fun v => v.category).sum ≤ W9) (hdg : decode c.code g.pc = .ok (.invokestatic index, 3))
    (hpre : ∀ vm₁, s.WarmedH vm₁ → Pre ⟨T.setVm vm₁, locs, cells, slots⟩ argsL.toArray) :
    (∃ (v : Option Value) (vm₁ : Vm) (B : Pt), s.WarmedH vm₁ ∧ Stand p l e R s m args below meth c B.U B.locs B.cells B.slots ∧ Post ⟨T.setVm vm₁, locs, cells, slots⟩ argsL.toArray v B ∧
      ∀ target, Steps p.tables e below (B.U.setTop { g with pc := g.pc + 3, stack := v.toList ++ rest }) target → Steps p.tables e below (T.setTop g) target) ∨
    (∃ (q : Addr) (vm₁ : Vm) (B : Pt), s.WarmedH vm₁ ∧ Stand p l e R s m args below meth c B.U B.locs B.cells B.slots ∧ PostX ⟨T.setVm vm₁, locs, cells, slots⟩ argsL.toArray q B ∧
      Steps p.tables e below (T.setTop g) ((B.U.setTop { g with stack := rest }).pushFrame (.throwing q))) := by
  obtain ⟨mk, hnamed⟩ := Cond.code_named hcode
  obtain ⟨methM, cM, hmethM, -, -, -, -, -, -, hsigM⟩ := Cond.code_spec hnamed hcode
  have hstatic : methM.isStatic = true := Cond.static_spec hnamed hmethM hstat
  obtain ⟨kP, hkP, -⟩ := className_of_methodNamed hnamed
  have hinitP : kP.init = .initialized := Cond.initialized_spec (findClass_of_methodNamed hnamed) hkP hinit
  obtain ⟨vm₁, X₁, hstep₁⟩ := X.invokestatic hexec hown hlink hnamed hmethM hstatic hkP hinitP hy (g := g) hg (argsL := argsL) (rest := rest) (hlen _ hsigM) hstack hdg
  rcases hK m meth c ⟨T.setVm vm₁, locs, cells, slots⟩ { g with stack := rest } (.invokestatic index) mk argsL.toArray X₁ hg hsize hdg hW (X₁.named hnamed) (hpre vm₁ X₁.warmed) with ⟨v, B, X', hpost, hsteps⟩ | ⟨q, B, X', hpost, hsteps⟩
  · exact Or.inl ⟨v, vm₁, B, X₁.warmed, X', hpost, fun target h => hstep₁ _ fun acts => by rw [doInvoke_state]; exact hsteps.trans h⟩
  · exact Or.inr ⟨q, vm₁, B, X₁.warmed, X', hpost, hstep₁ _ fun acts => by rw [doInvoke_state]; exact hsteps⟩
end Calls
theorem vx_cls {s : State} {T : State} {vm₁ : Vm} {E : String} {k : ClassId} (hW : s.WarmedH vm₁) (h : (T.setVm vm₁).vm.findClass E = some k) : s.vm.findClass E = some k := by
  have h1 : vm₁.findClass E = some k := h
  rw [hW.alike.findClass] at h1
  exact h1
/-- the method's frame g, with q thrown over it -/
def vx_W (p : Program) (l : Launch) (e : Env) (R : Room) (s : State) (m : MethodId) (args : Array Value) (below : List Frame) (meth : Method) (c : Code) (H : Heap) (locs : List Loc) (cells slots : Nat) (Q : State → Prop) (g : JFrame) (q : Addr) : Prop :=
  ∀ T : State, T.heap = H → Stand p l e R s m args below meth c T locs cells slots → ∃ t, Steps p.tables e below ((T.setTop g).pushFrame (.throwing q)) t ∧ Q t
def vx_Run (p : Program) (l : Launch) (e : Env) (R : Room) (s : State) (m : MethodId) (args : Array Value) (below : List Frame) (meth : Method) (c : Code) (H : Heap) (locs : List Loc) (cells slots mc ms : Nat) (g : JFrame) (rest : List Value) (Qa : State → Outcome → State → Prop) (XC : String → State → State → Prop) (free : Addr → Prop) : Prop :=
  ∀ T : State, T.heap = H → Stand p l e R s m args below meth c T locs cells slots →
    (∃ (v : Option Value) (st₀ t T' : State) (L : List Loc), st₀.heap = H ∧ Stand p l e R s m args below meth c T' (locs ++ L) (cells + mc) (slots + ms) ∧ (∀ q ∈ L, free q.base) ∧ T'.heap = t.heap ∧ T'.vm = t.vm ∧ Qa st₀ (.returned v) t ∧
      Goes p e below T g T' { g with pc := g.pc + 3, stack := v.toList ++ rest }) ∨
    (∃ (q : Addr) (st₀ t T' : State) (L : List Loc) (E : String) (ce : Cell), st₀.heap = H ∧ Stand p l e R s m args below meth c T' (locs ++ L) (cells + mc) (slots + ms) ∧ (∀ z ∈ L, free z.base) ∧ T'.heap = t.heap ∧ T'.vm = t.vm ∧ XC E st₀ t ∧ t.heap[q]? = some ce ∧ ce.vm = .none ∧ s.vm.findClass E = some ce.cls ∧
      Steps p.tables e below (T.setTop g) ((T'.setTop { g with stack := rest }).pushFrame (.throwing q)))
def vx_X {S : Type} (px : S → Prop) (B : String → S → State → Prop) (A : Nat → Prop) : String → State → State → Prop := fun E st t => ∃ u : S, px u ∧ B E u t ∧ va_F A st t
section Runs
variable {p : Program} {l : Launch} {e : Env} {R : Room} {s : State} {m : MethodId} {args : Array Value} {below : List Frame} {meth : Method} {c : Code} {H : Heap} {locs : List Loc} {cells slots : Nat}
variable {y : MethodName} {bytes cc : ByteArray} {maxL nL mc ms n index : Nat} {ret : Option FieldType} {ws : List Cond} {rm : Room} {Pc : Array Value → State → Prop} {Qc : Array Value → State → Outcome → State → Prop} {XC : String → State → State → Prop} {free : Addr → Prop} {Ts : List Cond} {own C : String} {b : Addr} {As rest : List Value} {g : JFrame}
theorem vx_callBack (cb : CallB R s args own index y bytes maxL ret ws rm mc ms n) (hM : vx_Met l y ws rm Pc Qc XC mc ms free) (hbl : FrameBlind Pc) : vx_Back l R p e below s args y 3 8 (PreOf R mc ms Pc) (PostOf Qc mc ms free) (vx_Post XC mc ms free) := by
  obtain ⟨hrc, hrs, hfr, hlo, hws, hcw, -, hini, -⟩ := cb
  exact vx_back (bytes := bytes) (maxL := maxL) (ret := ret) hM hbl hrc hrs hfr hlo hws hcw (fun a' U hW => word_at hW (Or.inl (by first | rfl | simp [Cond.onTables, Cond.keeps, Cond.steady])) hini)
theorem vx_runV (S : CallFix p m c cc nL s args Ts own) (hM : vx_Met l y ws rm Pc Qc XC mc ms free) (cw : CallW R s args own C index y bytes maxL ret ws rm mc ms n) (hp : PreV s H C b Pc As)
    (hg : g.method = m) (hn : As.length = n) (hsize : g.locals.size = nL) (hstack : g.stack = As.reverse ++ .ref b :: rest) (hW : 2 * g.monitorRoom + (rest.map fun v => v.category).sum ≤ 8) (hdg : decode cc g.pc = .ok (.invokevirtual index, 3)) (hf : cells + mc ≤ R.cells ∧ slots + ms ≤ R.slots) :
    vx_Run p l e R s m args below meth c H locs cells slots mc ms g rest (Qc (Value.ref b :: As).toArray) XC free := by
  have hK : vx_Back l R p e below s args y 3 8 (PreOf R mc ms Pc) (PostOf Qc mc ms free) (vx_Post XC mc ms free) := vx_callBack cw.1 hM hp.1
  obtain ⟨⟨-, -, -, -, -, -, hcode, -, hy, hlen, hl⟩, hin, hse⟩ := cw
  obtain ⟨hx, hb, hml, ho, -⟩ := S
  obtain ⟨-, ⟨cellB, hcB, hoB, hclB⟩, hPc⟩ := hp
  intro T hT X
  rcases vx_callV X hx (C := C) (bytes := bytes) (maxL := maxL) (ret := ret) ho hl hin hse hcode hy hK (by rw [hT]; exact hcB) hoB hclB hg (hsize.trans hml.symm) (argsL := As) (rest := rest) (fun sig h => hn.trans (hlen sig h)) hstack hW (by rw [hb]; exact hdg)
    (fun vm₁ hW₁ => ⟨hf.1, hf.2, hPc (T.setVm vm₁) hT hW₁⟩) with ⟨v, vm₁, ⟨U', l2, c2, s2⟩, hW₁, X', ⟨g', mk, t, L, e1, e2, hq, h1, hL, h2, h3⟩, st⟩ | ⟨q, vm₁, ⟨U', l2, c2, s2⟩, hW₁, X', ⟨g', mk, t, L, E, ce, e1, e2, hq, hce, hcv, hcl, h1, hL, h2, h3⟩, st⟩
  · dsimp only [Pt.U, Pt.locs, Pt.cells, Pt.slots] at X' e1 e2 h1 h2 h3 st
    subst h1; subst h2; subst h3
    exact Or.inl ⟨v, (T.setVm vm₁).calling g' mk (Value.ref b :: As).toArray, t, U', L, hT, X', hL, e1, e2, hq, st⟩
  · dsimp only [Pt.U, Pt.locs, Pt.cells, Pt.slots] at X' e1 e2 h1 h2 h3 st hcl
    subst h1; subst h2; subst h3
    exact Or.inr ⟨q, (T.setVm vm₁).calling g' mk (Value.ref b :: As).toArray, t, U', L, E, ce, hT, X', hL, e1, e2, hq, hce, hcv, vx_cls hW₁ hcl, st⟩
theorem vx_runS (S : CallFix p m c cc nL s args Ts own) (hM : vx_Met l y ws rm Pc Qc XC mc ms free) (cw : CallB R s args own index y bytes maxL ret ws rm mc ms n ∧ (Cond.static y).before args s = true) (hp : PreS s H Pc As)
    (hg : g.method = m) (hn : As.length = n) (hsize : g.locals.size = nL) (hstack : g.stack = As.reverse ++ rest) (hW : 2 * g.monitorRoom + (rest.map fun v => v.category).sum ≤ 8) (hdg : decode cc g.pc = .ok (.invokestatic index, 3)) (hf : cells + mc ≤ R.cells ∧ slots + ms ≤ R.slots) :
    vx_Run p l e R s m args below meth c H locs cells slots mc ms g rest (Qc As.toArray) XC free := by
  have hK : vx_Back l R p e below s args y 3 8 (PreOf R mc ms Pc) (PostOf Qc mc ms free) (vx_Post XC mc ms free) := vx_callBack cw.1 hM hp.1
  obtain ⟨⟨-, -, -, -, -, -, hcode, hini, hy, hlen, hl⟩, hstt⟩ := cw
  obtain ⟨hx, hb, hml, ho, -⟩ := S
  intro T hT X
  rcases vx_callS X hx (bytes := bytes) (maxL := maxL) (ret := ret) ho hl hstt hini hcode hy hK hg (hsize.trans hml.symm) (argsL := As) (rest := rest) (fun sig h => hn.trans (hlen sig h)) hstack hW (by rw [hb]; exact hdg)
    (fun vm₁ hW₁ => ⟨hf.1, hf.2, hp.2 (T.setVm vm₁) hT hW₁⟩) with ⟨v, vm₁, ⟨U', l2, c2, s2⟩, hW₁, X', ⟨g', mk, t, L, e1, e2, hq, h1, hL, h2, h3⟩, st⟩ | ⟨q, vm₁, ⟨U', l2, c2, s2⟩, hW₁, X', ⟨g', mk, t, L, E, ce, e1, e2, hq, hce, hcv, hcl, h1, hL, h2, h3⟩, st⟩
  · dsimp only [Pt.U, Pt.locs, Pt.cells, Pt.slots] at X' e1 e2 h1 h2 h3 st
    subst h1; subst h2; subst h3
    exact Or.inl ⟨v, (T.setVm vm₁).calling g' mk As.toArray, t, U', L, hT, X', hL, e1, e2, hq, st⟩
  · dsimp only [Pt.U, Pt.locs, Pt.cells, Pt.slots] at X' e1 e2 h1 h2 h3 st hcl
    subst h1; subst h2; subst h3
    exact Or.inr ⟨q, (T.setVm vm₁).calling g' mk As.toArray, t, U', L, E, ce, hT, X', hL, e1, e2, hq, hce, hcv, vx_cls hW₁ hcl, st⟩
end Runs
section Rows
variable {p : Program} {l : Launch} {e : Env} {R : Room} {s : State} {m : MethodId} {args : Array Value} {below : List Frame} {meth : Method} {c : Code} {H : Heap} {locs : List Loc} {cells slots : Nat} {Q : State → Prop}
variable {mc ms : Nat} {free : Addr → Prop} {A0 A1 : Nat → Prop} {H0 : Heap} {a : Array Value} {pc : Nat} {ls : Array Slot} {st0 rest : List Value}
theorem vx_keep {st₀ t T' : State} {L : List Loc} (h0 : st₀.heap = H) (e1 : T'.heap = t.heap) (hS : va_S A0 H0 H locs) (hA : ∀ q, q < H.size → A1 q → A0 q) (hf : ∀ q, free q → A0 q) (hL : ∀ q ∈ L, free q.base) (hF : va_F A1 st₀ t) :
    H.size ≤ T'.heap.size ∧ (∀ q : Nat, q < H.size → ¬ A1 q → T'.heap[q]? = H[q]?) ∧ va_S A0 H0 T'.heap (locs ++ L) := by
  obtain ⟨hz, hk⟩ := hF
  rw [h0] at hz hk
  exact ⟨by rw [e1]; exact hz, fun q h1 h2 => by rw [e1]; exact hk q h1 h2,
    ⟨Nat.le_trans hS.1 (by rw [e1]; exact hz), fun q h1 h2 => by rw [e1, hk q (Nat.lt_of_lt_of_le h1 hS.1) (fun z => h2 (hA q (Nat.lt_of_lt_of_le h1 hS.1) z))]; exact hS.2.1 q h1 h2, fun q hq => by
      rcases List.mem_append.mp hq with h | h
      · exact hS.2.2 q h
      · exact hf _ (hL q h)⟩⟩
theorem vx_calli {S SX : Type} {post : Int32 → S → Prop} {px : SX → Prop} {B : S → State → Prop} {BX : String → SX → State → Prop} {AX : Nat → Prop} (hr : vx_Run p l e R s m args below meth c H locs cells slots mc ms (F0 m pc ls st0) rest (va_Qi post B A1 a) (vx_X px BX AX) free) (hS : va_S A0 H0 H locs) (hA : ∀ q, q < H.size → A1 q → A0 q) (hf : ∀ q, free q → A0 q) (hAX : ∀ q, q < H.size → AX q → A0 q)
    (kx : ∀ (E : String) (ce : Cell) (q9 : Addr) (u : SX) (t : State) (H1 : Heap) (locs1 : List Loc), t.heap = H1 → s.vm.Alike t.vm → px u → BX E u t → H.size ≤ H1.size → (∀ q : Nat, q < H.size → ¬ AX q → H1[q]? = H[q]?) → va_S A0 H0 H1 locs1 → H1[q9]? = some ce → ce.vm = .none → s.vm.findClass E = some ce.cls → vx_W p l e R s m args below meth c H1 locs1 (cells + mc) (slots + ms) Q (F0 m pc ls rest) q9)
    (kk : ∀ (r : Int32) (u : S) (t : State) (H1 : Heap) (locs1 : List Loc), t.heap = H1 → s.vm.Alike t.vm → post r u → B u t → H.size ≤ H1.size → (∀ q : Nat, q < H.size → ¬ A1 q → H1[q]? = H[q]?) → va_S A0 H0 H1 locs1 → W p l e R s m args below meth c H1 locs1 (cells + mc) (slots + ms) Q (F0 m (pc + 3) ls (.int r :: rest))) : W p l e R s m args below meth c H locs cells slots Q (F0 m pc ls st0) := by
  intro T hT X
  rcases hr T hT X with ⟨v, st₀, t, T', L, h0, X', hL, e1, e2, ⟨⟨r, u, hv, hp, hb⟩, hF⟩, st⟩ | ⟨q, st₀, t, T', L, E, ce, h0, X', hL, e1, e2, ⟨u, hp, hb, hF⟩, hce, hcv, hcl, st⟩
  · cases hv
    obtain ⟨k1, k2, k3⟩ := vx_keep h0 e1 hS hA hf hL hF
    obtain ⟨t2, a1, b1⟩ := kk r u t T'.heap (locs ++ L) e1.symm (by rw [← e2]; exact X'.warmed.alike) hp hb k1 k2 k3 T' rfl X'
    exact ⟨t2, st t2 a1, b1⟩
  · obtain ⟨k1, k2, k3⟩ := vx_keep h0 e1 hS hAX hf hL hF
    obtain ⟨t2, a1, b1⟩ := kx E ce q u t T'.heap (locs ++ L) e1.symm (by rw [← e2]; exact X'.warmed.alike) hp hb k1 k2 k3 (by rw [e1]; exact hce) hcv hcl T' rfl X'
    exact ⟨t2, st.trans a1, b1⟩
theorem vx_calll {S SX : Type} {post : Int64 → S → Prop} {px : SX → Prop} {B : S → State → Prop} {BX : String → SX → State → Prop} {AX : Nat → Prop} (hr : vx_Run p l e R s m args below meth c H locs cells slots mc ms (F0 m pc ls st0) rest (va_Ql post B A1 a) (vx_X px BX AX) free) (hS : va_S A0 H0 H locs) (hA : ∀ q, q < H.size → A1 q → A0 q) (hf : ∀ q, free q → A0 q) (hAX : ∀ q, q < H.size → AX q → A0 q)
    (kx : ∀ (E : String) (ce : Cell) (q9 : Addr) (u : SX) (t : State) (H1 : Heap) (locs1 : List Loc), t.heap = H1 → s.vm.Alike t.vm → px u → BX E u t → H.size ≤ H1.size → (∀ q : Nat, q < H.size → ¬ AX q → H1[q]? = H[q]?) → va_S A0 H0 H1 locs1 → H1[q9]? = some ce → ce.vm = .none → s.vm.findClass E = some ce.cls → vx_W p l e R s m args below meth c H1 locs1 (cells + mc) (slots + ms) Q (F0 m pc ls rest) q9)
    (kk : ∀ (r : Int64) (u : S) (t : State) (H1 : Heap) (locs1 : List Loc), t.heap = H1 → s.vm.Alike t.vm → post r u → B u t → H.size ≤ H1.size → (∀ q : Nat, q < H.size → ¬ A1 q → H1[q]? = H[q]?) → va_S A0 H0 H1 locs1 → W p l e R s m args below meth c H1 locs1 (cells + mc) (slots + ms) Q (F0 m (pc + 3) ls (.long r :: rest))) : W p l e R s m args below meth c H locs cells slots Q (F0 m pc ls st0) := by
  intro T hT X
  rcases hr T hT X with ⟨v, st₀, t, T', L, h0, X', hL, e1, e2, ⟨⟨r, u, hv, hp, hb⟩, hF⟩, st⟩ | ⟨q, st₀, t, T', L, E, ce, h0, X', hL, e1, e2, ⟨u, hp, hb, hF⟩, hce, hcv, hcl, st⟩
  · cases hv
    obtain ⟨k1, k2, k3⟩ := vx_keep h0 e1 hS hA hf hL hF
    obtain ⟨t2, a1, b1⟩ := kk r u t T'.heap (locs ++ L) e1.symm (by rw [← e2]; exact X'.warmed.alike) hp hb k1 k2 k3 T' rfl X'
    exact ⟨t2, st t2 a1, b1⟩
  · obtain ⟨k1, k2, k3⟩ := vx_keep h0 e1 hS hAX hf hL hF
    obtain ⟨t2, a1, b1⟩ := kx E ce q u t T'.heap (locs ++ L) e1.symm (by rw [← e2]; exact X'.warmed.alike) hp hb k1 k2 k3 (by rw [e1]; exact hce) hcv hcl T' rfl X'
    exact ⟨t2, st.trans a1, b1⟩
theorem vx_callf {S SX : Type} {post : UInt32 → S → Prop} {px : SX → Prop} {B : S → State → Prop} {BX : String → SX → State → Prop} {AX : Nat → Prop} (hr : vx_Run p l e R s m args below meth c H locs cells slots mc ms (F0 m pc ls st0) rest (va_Qf post B A1 a) (vx_X px BX AX) free) (hS : va_S A0 H0 H locs) (hA : ∀ q, q < H.size → A1 q → A0 q) (hf : ∀ q, free q → A0 q) (hAX : ∀ q, q < H.size → AX q → A0 q)
    (kx : ∀ (E : String) (ce : Cell) (q9 : Addr) (u : SX) (t : State) (H1 : Heap) (locs1 : List Loc), t.heap = H1 → s.vm.Alike t.vm → px u → BX E u t → H.size ≤ H1.size → (∀ q : Nat, q < H.size → ¬ AX q → H1[q]? = H[q]?) → va_S A0 H0 H1 locs1 → H1[q9]? = some ce → ce.vm = .none → s.vm.findClass E = some ce.cls → vx_W p l e R s m args below meth c H1 locs1 (cells + mc) (slots + ms) Q (F0 m pc ls rest) q9)
    (kk : ∀ (r : UInt32) (u : S) (t : State) (H1 : Heap) (locs1 : List Loc), t.heap = H1 → s.vm.Alike t.vm → post r u → B u t → H.size ≤ H1.size → (∀ q : Nat, q < H.size → ¬ A1 q → H1[q]? = H[q]?) → va_S A0 H0 H1 locs1 → W p l e R s m args below meth c H1 locs1 (cells + mc) (slots + ms) Q (F0 m (pc + 3) ls (.float r :: rest))) : W p l e R s m args below meth c H locs cells slots Q (F0 m pc ls st0) := by
  intro T hT X
  rcases hr T hT X with ⟨v, st₀, t, T', L, h0, X', hL, e1, e2, ⟨⟨r, u, hv, hp, hb⟩, hF⟩, st⟩ | ⟨q, st₀, t, T', L, E, ce, h0, X', hL, e1, e2, ⟨u, hp, hb, hF⟩, hce, hcv, hcl, st⟩
  · cases hv
    obtain ⟨k1, k2, k3⟩ := vx_keep h0 e1 hS hA hf hL hF
    obtain ⟨t2, a1, b1⟩ := kk r u t T'.heap (locs ++ L) e1.symm (by rw [← e2]; exact X'.warmed.alike) hp hb k1 k2 k3 T' rfl X'
    exact ⟨t2, st t2 a1, b1⟩
  · obtain ⟨k1, k2, k3⟩ := vx_keep h0 e1 hS hAX hf hL hF
    obtain ⟨t2, a1, b1⟩ := kx E ce q u t T'.heap (locs ++ L) e1.symm (by rw [← e2]; exact X'.warmed.alike) hp hb k1 k2 k3 (by rw [e1]; exact hce) hcv hcl T' rfl X'
    exact ⟨t2, st.trans a1, b1⟩
theorem vx_calld {S SX : Type} {post : UInt64 → S → Prop} {px : SX → Prop} {B : S → State → Prop} {BX : String → SX → State → Prop} {AX : Nat → Prop} (hr : vx_Run p l e R s m args below meth c H locs cells slots mc ms (F0 m pc ls st0) rest (va_Qd post B A1 a) (vx_X px BX AX) free) (hS : va_S A0 H0 H locs) (hA : ∀ q, q < H.size → A1 q → A0 q) (hf : ∀ q, free q → A0 q) (hAX : ∀ q, q < H.size → AX q → A0 q)
    (kx : ∀ (E : String) (ce : Cell) (q9 : Addr) (u : SX) (t : State) (H1 : Heap) (locs1 : List Loc), t.heap = H1 → s.vm.Alike t.vm → px u → BX E u t → H.size ≤ H1.size → (∀ q : Nat, q < H.size → ¬ AX q → H1[q]? = H[q]?) → va_S A0 H0 H1 locs1 → H1[q9]? = some ce → ce.vm = .none → s.vm.findClass E = some ce.cls → vx_W p l e R s m args below meth c H1 locs1 (cells + mc) (slots + ms) Q (F0 m pc ls rest) q9)
    (kk : ∀ (r : UInt64) (u : S) (t : State) (H1 : Heap) (locs1 : List Loc), t.heap = H1 → s.vm.Alike t.vm → post r u → B u t → H.size ≤ H1.size → (∀ q : Nat, q < H.size → ¬ A1 q → H1[q]? = H[q]?) → va_S A0 H0 H1 locs1 → W p l e R s m args below meth c H1 locs1 (cells + mc) (slots + ms) Q (F0 m (pc + 3) ls (.double r :: rest))) : W p l e R s m args below meth c H locs cells slots Q (F0 m pc ls st0) := by
  intro T hT X
  rcases hr T hT X with ⟨v, st₀, t, T', L, h0, X', hL, e1, e2, ⟨⟨r, u, hv, hp, hb⟩, hF⟩, st⟩ | ⟨q, st₀, t, T', L, E, ce, h0, X', hL, e1, e2, ⟨u, hp, hb, hF⟩, hce, hcv, hcl, st⟩
  · cases hv
    obtain ⟨k1, k2, k3⟩ := vx_keep h0 e1 hS hA hf hL hF
    obtain ⟨t2, a1, b1⟩ := kk r u t T'.heap (locs ++ L) e1.symm (by rw [← e2]; exact X'.warmed.alike) hp hb k1 k2 k3 T' rfl X'
    exact ⟨t2, st t2 a1, b1⟩
  · obtain ⟨k1, k2, k3⟩ := vx_keep h0 e1 hS hAX hf hL hF
    obtain ⟨t2, a1, b1⟩ := kx E ce q u t T'.heap (locs ++ L) e1.symm (by rw [← e2]; exact X'.warmed.alike) hp hb k1 k2 k3 (by rw [e1]; exact hce) hcv hcl T' rfl X'
    exact ⟨t2, st.trans a1, b1⟩
theorem vx_callv {S SX : Type} {post : S → Prop} {px : SX → Prop} {B : S → State → Prop} {BX : String → SX → State → Prop} {AX : Nat → Prop} (hr : vx_Run p l e R s m args below meth c H locs cells slots mc ms (F0 m pc ls st0) rest (va_Qv post B A1 a) (vx_X px BX AX) free) (hS : va_S A0 H0 H locs) (hA : ∀ q, q < H.size → A1 q → A0 q) (hf : ∀ q, free q → A0 q) (hAX : ∀ q, q < H.size → AX q → A0 q)
    (kx : ∀ (E : String) (ce : Cell) (q9 : Addr) (u : SX) (t : State) (H1 : Heap) (locs1 : List Loc), t.heap = H1 → s.vm.Alike t.vm → px u → BX E u t → H.size ≤ H1.size → (∀ q : Nat, q < H.size → ¬ AX q → H1[q]? = H[q]?) → va_S A0 H0 H1 locs1 → H1[q9]? = some ce → ce.vm = .none → s.vm.findClass E = some ce.cls → vx_W p l e R s m args below meth c H1 locs1 (cells + mc) (slots + ms) Q (F0 m pc ls rest) q9)
    (kk : ∀ (u : S) (t : State) (H1 : Heap) (locs1 : List Loc), t.heap = H1 → s.vm.Alike t.vm → post u → B u t → H.size ≤ H1.size → (∀ q : Nat, q < H.size → ¬ A1 q → H1[q]? = H[q]?) → va_S A0 H0 H1 locs1 → W p l e R s m args below meth c H1 locs1 (cells + mc) (slots + ms) Q (F0 m (pc + 3) ls (rest))) : W p l e R s m args below meth c H locs cells slots Q (F0 m pc ls st0) := by
  intro T hT X
  rcases hr T hT X with ⟨v, st₀, t, T', L, h0, X', hL, e1, e2, ⟨⟨u, hv, hp, hb⟩, hF⟩, st⟩ | ⟨q, st₀, t, T', L, E, ce, h0, X', hL, e1, e2, ⟨u, hp, hb, hF⟩, hce, hcv, hcl, st⟩
  · cases hv
    obtain ⟨k1, k2, k3⟩ := vx_keep h0 e1 hS hA hf hL hF
    obtain ⟨t2, a1, b1⟩ := kk u t T'.heap (locs ++ L) e1.symm (by rw [← e2]; exact X'.warmed.alike) hp hb k1 k2 k3 T' rfl X'
    exact ⟨t2, st t2 a1, b1⟩
  · obtain ⟨k1, k2, k3⟩ := vx_keep h0 e1 hS hAX hf hL hF
    obtain ⟨t2, a1, b1⟩ := kx E ce q u t T'.heap (locs ++ L) e1.symm (by rw [← e2]; exact X'.warmed.alike) hp hb k1 k2 k3 (by rw [e1]; exact hce) hcv hcl T' rfl X'
    exact ⟨t2, st.trans a1, b1⟩
/-- caught by the row x of this method's table; the rows ahead don't take it -/
theorem vx_catch {own name : String} {E : String} {ce : Cell} {q : Addr} (hown : s.vm.findClass own = some m.cls) (pre : List ExceptionTableEntry) (x : ExceptionTableEntry) (suf : List ExceptionTableEntry) (hsplit : c.exceptionTable.toList = pre ++ x :: suf)
    (hpass : ∀ z ∈ pre, covers z pc = false ∨ (z.catchType ≠ 0 ∧ ∃ nm : String, (Cond.classLink own z.catchType nm).before args s = true ∧ va_Nc E nm s)) (hx : covers x pc = true) (h0 : x.catchType ≠ 0)
    (hlink : (Cond.classLink own x.catchType name).before args s = true) (hcast : (Cond.castable E name).before args s = true) (hcell : H[q]? = some ce) (hv : ce.vm = .none) (hcl : s.vm.findClass E = some ce.cls)
    (kk : W p l e R s m args below meth c H locs cells slots Q (F0 m x.handlerPc ls [.ref q])) : vx_W p l e R s m args below meth c H locs cells slots Q (F0 m pc ls rest) q := by
  intro T hT X
  have hpl : e.platform.magicAccessors = ({} : Platform).magicAccessors := by rw [X.admits.platform]
  obtain ⟨c3, c4, hc3, hc4, hasg⟩ := Cond.castable_spec hcast
  cases Option.some.inj (hc3.symm.trans hcl)
  obtain ⟨c5, hc5, hcl5⟩ := Cond.classLink_spec hown hlink e.platform hpl
  cases Option.some.inj (hc4.symm.trans hc5)
  obtain ⟨vm', X', st⟩ := X.thenCaughtThrough q (g := F0 m pc ls rest) rfl (Steps.refl _) (by rw [hT]; exact hcell) (by rw [hv]; rfl) (by obtain ⟨k9, h9, -⟩ := Vm.findClass_spec hcl; exact ⟨k9, h9⟩) pre x suf hsplit
    (fun z hz => by
      rcases hpass z hz with h | ⟨hz0, nm, hl1, hn1⟩
      · exact Or.inl h
      · obtain ⟨c6, hc6, hcl6⟩ := Cond.classLink_spec hown hl1 e.platform hpl
        obtain ⟨a8, b8, h1, h2, h3⟩ := hn1
        cases Option.some.inj (h1.symm.trans hcl)
        cases Option.some.inj (h2.symm.trans hc6)
        exact Or.inr ⟨hz0, _, hcl6, h3⟩) hx (Or.inr ⟨h0, c4, hcl5, hasg⟩)
  obtain ⟨t, a1, b1⟩ := kk (T.setVm vm') hT X'
  exact ⟨t, st.trans a1, b1⟩
end Rows
section Ends
variable {p : Program} {l : Launch} {e : Env} {R : Room} {s : State} {m : MethodId} {args : Array Value} {below : List Frame} {meth : Method} {c : Code} {H : Heap} {locs : List Loc} {cells slots : Nat} {Q : State → Prop}
variable {mc ms : Nat} {free : Addr → Prop} {A0 A1 : Nat → Prop} {H0 : Heap} {a : Array Value} {ls : Array Slot} {st0 rest : List Value}
variable {Qc : Array Value → State → Outcome → State → Prop} {XC : String → State → State → Prop}
/-- what a body that may throw owes at its end -/
def vx_MQ (below : List Frame) (Qc : Array Value → State → Outcome → State → Prop) (XC : String → State → State → Prop) (a : Array Value) (s : State) (mc ms : Nat) (free : Addr → Prop) : State → Prop := fun t =>
  ∃ o, t.status = .running ∧ Ended t below o ∧ vx_Q Qc XC mc ms free a s o t
theorem vx_ret {g : JFrame} {mc ms : Nat} (k : W p l e R s m args below meth c H locs cells slots (MQ below Qc args s mc ms free) g) : W p l e R s m args below meth c H locs cells slots (vx_MQ below Qc XC args s mc ms free) g := by
  intro T hT X
  obtain ⟨t, a1, o, b1, b2, b3, b4⟩ := k T hT X
  exact ⟨t, a1, o, b1, b2, Or.inl ⟨b3, b4⟩⟩
/-- not caught here: it goes on to the caller -/
theorem vx_widen {g : JFrame} {q : Addr} {k n : Nat} (h1 : cells ≤ k) (h2 : slots ≤ n) (kk : vx_W p l e R s m args below meth c H locs k n Q g q) : vx_W p l e R s m args below meth c H locs cells slots Q g q := fun T hT X => kk T hT (stand_widen X h1 h2)
theorem vx_out {pc : Nat} {E : String} {ce : Cell} {q : Addr} {mc ms : Nat} (hout : ∀ x ∈ c.exceptionTable.toList, covers x pc = false) (hlocks : meth.locks = false) (hcell : H[q]? = some ce) (hv : ce.vm = .none) (hcl : s.vm.findClass E = some ce.cls)
    (hx : ∀ t : State, t.heap = H → s.vm.Alike t.vm → XC E s t) (hf : ∀ z ∈ locs, free z.base) (hc : cells ≤ mc) (hs : slots ≤ ms) :
    vx_W p l e R s m args below meth c H locs cells slots (vx_MQ below Qc XC args s mc ms free) (F0 m pc ls rest) q := by
  intro T hT X
  obtain ⟨st1, hrun, hend, hW, hsm⟩ := X.leaveThrown q (g := F0 m pc ls rest) rfl rfl rfl hout hlocks
  have hcell9 : (T.setFrames (.throwing q :: below)).heap[q]? = some ce := by
    show T.heap[q]? = some ce
    rw [hT]; exact hcell
  exact ⟨_, st1, .threw q, hrun, hend, Or.inr ⟨q, rfl, E, ce, locs, hx _ hT hW.alike, hcell9, hv, hcl, hW, hsm.mono hc hs, hf⟩⟩
theorem vx_frame {U : State} {k n : Nat} (h : s.sameButNew ({ U with vm := s.vm } : State) locs k n) : s.heap.size ≤ U.heap.size ∧ ∀ q : Nat, q < s.heap.size → (∀ z ∈ locs, z.base ≠ q) → U.heap[q]? = s.heap[q]? := by
  obtain ⟨-, h2, -, -, -, h6⟩ := h
  refine ⟨h2, fun q hq hz => ?_⟩
  obtain ⟨c9, e1, e2, e3, e4⟩ := h6 q _ (Array.getElem?_eq_getElem hq)
  have hs : c9.slots = (s.heap[q]).slots := Array.ext_getElem? fun i => e4 i fun hm => hz _ hm rfl
  have h9 : c9 = s.heap[q] := by
    rw [hs] at e2
    exact e2
  have e5 : U.heap[q]? = some c9 := e1
  rw [e5, h9, Array.getElem?_eq_getElem hq]
/-- the words of a throw but the four that speak of the heap -/
def vx_no (w : Cond) : Bool := decide (w ≠ .isRef (.static Bundle.tN "UNASSIGNED_STACK" Bundle.steD)) && decide (w ≠ .isRef (.static Bundle.tN "SUPPRESSED_SENTINEL" Bundle.listD)) && decide (w ≠ .laysStatic Bundle.tN "UNASSIGNED_STACK" Bundle.steD) && decide (w ≠ .laysStatic Bundle.tN "SUPPRESSED_SENTINEL" Bundle.listD)
def vx_at0 (own : String) (ic : Nat) (X : String) (names : List String) : List Cond := (Bundle.ownAtoms0 own ic X names).filter vx_no
def vx_atS (own : String) (ic : Nat) (X : String) (names : List String) : List Cond := (Bundle.ownAtoms own ic X names).filter vx_no
/-- a word that the tables alone decide, or a good one -/
def vx_ot (w : Cond) : Bool := w.onTables || goodWord w
theorem vx_ot_at {args a' : Array Value} {s U : State} {w : Cond} (hW : s.WarmedH U.vm) (hvm : s.vm = U.vm) (hg : vx_ot w = true) (h : w.before args s = true) : w.before a' U = true := by
  simp only [vx_ot, Bool.or_eq_true] at hg
  rcases hg with hg | hg
  · exact va_tabs hg hvm h
  · exact word_at hW (good_of_word hg) h
/-- a list's words: the good ones out of the method's own list, the others by premises of their own -/
theorem vx_hat {args : Array Value} {s : State} {L B : List Cond} (h1 : ∀ w ∈ L.filter goodWord, w.before args s = true) (h2 : ∀ w ∈ L.filter (fun w => !goodWord w), w ∈ B) (h3 : ∀ w ∈ B, w.before args s = true) : ∀ w ∈ L, w.before args s = true := by
  intro w hw
  by_cases g : goodWord w = true
  · exact h1 w (List.mem_filter.mpr ⟨hw, g⟩)
  · refine h3 w (h2 w (List.mem_filter.mpr ⟨hw, ?_⟩))
    show (!goodWord w) = true
    cases hgw : goodWord w
    · rfl
    · exact absurd hgw g
theorem vx_c {args : Array Value} {s : State} {w : Cond} {B : List Cond} (h : w.before args s = true) (t : ∀ w ∈ B, w.before args s = true) : ∀ w' ∈ w :: B, w'.before args s = true := fun w' h' => (List.mem_cons.mp h').elim (fun e => by rw [e]; exact h) (t w')
theorem vx_n {args : Array Value} {s : State} : ∀ w ∈ ([] : List Cond), w.before args s = true := fun _ h => nomatch h
theorem vx_own {args : Array Value} {s : State} {L : List Cond} (h1 : ∀ w ∈ L.filter vx_no, w.before args s = true)
    (hU : (Cond.isRef (.static Bundle.tN "UNASSIGNED_STACK" Bundle.steD)).before args s = true) (hN : (Cond.isRef (.static Bundle.tN "SUPPRESSED_SENTINEL" Bundle.listD)).before args s = true)
    (lU : (Cond.laysStatic Bundle.tN "UNASSIGNED_STACK" Bundle.steD).before args s = true) (lN : (Cond.laysStatic Bundle.tN "SUPPRESSED_SENTINEL" Bundle.listD).before args s = true) : ∀ w ∈ L, w.before args s = true := by
  intro w hw
  by_cases e1 : w = .isRef (.static Bundle.tN "UNASSIGNED_STACK" Bundle.steD)
  · rw [e1]; exact hU
  · by_cases e2 : w = .isRef (.static Bundle.tN "SUPPRESSED_SENTINEL" Bundle.listD)
    · rw [e2]; exact hN
    · by_cases e3 : w = .laysStatic Bundle.tN "UNASSIGNED_STACK" Bundle.steD
      · rw [e3]; exact lU
      · by_cases e4 : w = .laysStatic Bundle.tN "SUPPRESSED_SENTINEL" Bundle.listD
        · rw [e4]; exact lN
        · exact h1 w (List.mem_filter.mpr ⟨hw, by unfold vx_no; rw [decide_eq_true e1, decide_eq_true e2, decide_eq_true e3, decide_eq_true e4]; rfl⟩)
/-- where a static field lies, its class's statics cell in H -/
def vx_L (C n d : String) (A : Nat → Prop) (U : State) (H : Heap) : Prop := ∃ (c : ClassId) (k : Class) (i : Nat) (f : Field) (a : Nat) (cell : Cell), U.vm.findClass C = some c ∧ U.fieldFound? C n d = some (c, k, i, f) ∧ f.isStatic = true ∧ k.statics = some a ∧ H[a]? = some cell ∧ cell.vm.isStatics = true ∧ cell.cls = c ∧ f.slot < cell.slots.size ∧ k.staticTypes[f.slot]? = some f.type ∧ ¬ A a
theorem vx_L.moved {C n d : String} {A : Nat → Prop} {u U : State} {H : Heap} (hvm : u.vm.Alike U.vm) (h : vx_L C n d A u H) : vx_L C n d A U H := by
  obtain ⟨c, k, i, f, a, cell, h1, h2, h3, h4, h5, h6, h7, h8, h9, h10⟩ := h
  obtain ⟨k', hi', he⟩ := State.fieldFound?_setVm hvm h2
  exact ⟨c, k', i, f, a, cell, by rw [hvm.findClass]; exact h1, hi', h3, by rw [he]; exact h4, h5, h6, h7, h8, by rw [he]; exact h9, h10⟩
theorem vx_L.kept {C n d : String} {A : Nat → Prop} {U : State} {H H1 : Heap} (h : vx_L C n d A U H) (hq : ∀ a : Nat, a < H.size → ¬ A a → H1[a]? = H[a]?) : vx_L C n d A U H1 := by
  obtain ⟨c, k, i, f, a, cell, h1, h2, h3, h4, h5, h6, h7, h8, h9, h10⟩ := h
  exact ⟨c, k, i, f, a, cell, h1, h2, h3, h4, by rw [hq a (Array.getElem?_eq_some_iff.mp h5).1 h10]; exact h5, h6, h7, h8, h9, h10⟩
theorem vx_L.narrow {C n d : String} {A B : Nat → Prop} {U : State} {H : Heap} (h : vx_L C n d A U H) (hAB : ∀ q, B q → A q) : vx_L C n d B U H := by
  obtain ⟨c, k, i, f, a, cell, h1, h2, h3, h4, h5, h6, h7, h8, h9, h10⟩ := h
  exact ⟨c, k, i, f, a, cell, h1, h2, h3, h4, h5, h6, h7, h8, h9, fun z => h10 (hAB _ z)⟩
theorem vx_L.word {C n d : String} {A : Nat → Prop} {s : State} {args : Array Value} (h : vx_L C n d A s s.heap) : (Cond.laysStatic C n d).before args s = true := by
  obtain ⟨c, k, i, f, a, cell, h1, h2, h3, h4, h5, h6, h7, h8, h9, -⟩ := h
  show (Cond.laysStatic C n d).holds args s none s [] = true
  exact Cond.laysStatic_of h1 h2 h3 h4 h5 h6 h7 h8 h9
/-- .. and what it holds: null or some reference -/
def vx_Zq (C n d : String) (A : Nat → Prop) (U : State) (H : Heap) : Prop := va_Zq C n d A U H ∧ vx_L C n d A U H
theorem vx_Zq.moved {C n d : String} {A : Nat → Prop} {u U : State} {H : Heap} (hvm : u.vm.Alike U.vm) (h : vx_Zq C n d A u H) : vx_Zq C n d A U H := ⟨va_Zq.moved hvm h.1, vx_L.moved hvm h.2⟩
theorem vx_Zq.kept {C n d : String} {A : Nat → Prop} {U : State} {H H1 : Heap} (h : vx_Zq C n d A U H) (hq : ∀ a : Nat, a < H.size → ¬ A a → H1[a]? = H[a]?) : vx_Zq C n d A U H1 := ⟨va_Zq.kept h.1 hq, vx_L.kept h.2 hq⟩
theorem vx_Zq.narrow {C n d : String} {A B : Nat → Prop} {U : State} {H : Heap} (h : vx_Zq C n d A U H) (hAB : ∀ q, B q → A q) : vx_Zq C n d B U H := ⟨va_Zq.narrow h.1 hAB, vx_L.narrow h.2 hAB⟩
theorem vx_Zqof {args : Array Value} {s : State} {C n d : String} {A : Nat → Prop} (hl : (Cond.laysStatic C n d).before args s = true) (hini : (Cond.initialized C).before args s = true) (h : (Cond.isRef (.static C n d)).before args s = true) (hA : ∀ a : Nat, a < s.heap.size → ¬ A a) : vx_Zq C n d A s s.heap := by
  refine ⟨va_Zqof hl hini h hA, ?_⟩
  obtain ⟨c, k, i, f, a, cell, h1, h2, h3, h4, h5, h6, h7, h8, h9⟩ := Cond.laysStatic_spec hl
  exact ⟨c, k, i, f, a, cell, h1, h2, h3, h4, h5, h6, h7, h8, h9, hA a (Array.getElem?_eq_some_iff.mp h5).1⟩
theorem vx_isRef {C n d : String} {v : Value} {A : Nat → Prop} {s : State} {args : Array Value} (h : va_Z C n d v A s s.heap) (hv : v.isRef = true) : (Cond.isRef (.static C n d)).before args s = true := by
  obtain ⟨cf, kf, fi, f, a, cell, h1, h2, h3, h4, h5, h6, h7, -⟩ := h
  have he : (Term.static C n d).eval args s none [] s = some v := by
    simp [Term.eval, State.fieldNamed?, h1, h2, h4, h5, h6, h7]
  simp only [Cond.before, Cond.holds, Cond.value, he]
  cases v <;> simp_all [Value.isRef]
theorem vx_isRefq {C n d : String} {A : Nat → Prop} {s : State} {args : Array Value} (h : va_Zq C n d A s s.heap) : (Cond.isRef (.static C n d)).before args s = true := by
  rcases h with h | ⟨t, h⟩
  · exact vx_isRef h rfl
  · exact vx_isRef h rfl
/-- the same frame, seen from here: as if the method were called anew in this heap -/
theorem vx_rebase {T : State} (X : Stand p l e R s m args below meth c T locs cells slots) {R' : Room} (hf : R'.frames ≤ R.frames) (hl : R'.locals ≤ R.locals) (hc : cells + R'.cells ≤ R.cells) (hs : slots + R'.slots ≤ R.slots) :
    Stand p l e R' ((T.setVm s.vm).setFrames (.invoking m args :: below)) m args below meth c T [] 0 0 := by
  have htop : (T.setVm s.vm).topJava?.isSome := X.here.top
  have hF : ((T.setVm s.vm).setFrames (.invoking m args :: below)).frames = .invoking m args :: below := State.frames_setFrames _ (State.cur_lt_of_top htop)
  obtain ⟨g₀, hg0⟩ := Option.isSome_iff_exists.mp htop
  obtain ⟨r, hr⟩ := State.topJava?_eq_some.mp hg0
  have hl9 : e.platform.stackLimits (T.setVm s.vm).me = e.platform.stackLimits s.me := X.limits
  have hb9 : (T.setVm s.vm).me.stackBytes = s.me.stackBytes := X.bytes
  refine ⟨X.admits, X.cas, X.clock, hF, ?_, X.hears, X.method, X.code, X.here, X.tail, X.warmed, ?_, ?_, ?_⟩
  · have h := X.room
    have hU : ((T.setVm s.vm).setFrames (.invoking m args :: below)).localsInUse = s.localsInUse := by
      rw [State.localsInUse_invoking hF (meth := meth) (c := c) X.method X.code, State.localsInUse_invoking X.frames X.method X.code]
    simp only [State.hasRoom, Bool.and_eq_true, decide_eq_true_eq] at h ⊢
    obtain ⟨⟨⟨⟨h1, h2, h3, h4, h5, h6⟩, h7⟩, h8⟩, h9⟩ := h
    rw [X.frames, List.length_cons] at h2 h3
    have q1 := X.heapSize
    have q2 := X.used
    simp only [hF, hU, List.length_cons, State.stackLimits_setFrames, State.stackBytes_setFrames, hl9, hb9]
    refine ⟨⟨⟨⟨by omega, by omega, by omega, by omega, by omega, h6⟩, ?_⟩, ?_⟩, X.book⟩
    · show T.heap.size + R'.cells ≤ e.platform.maxCells
      omega
    · show T.slotsUsed + R'.slots ≤ e.platform.maxSlots
      omega
  · rw [State.stackLimits_setFrames]; rfl
  · rw [State.stackBytes_setFrames]; rfl
  · refine ⟨?_, Nat.le_refl _, Nat.le_refl _, ?_, ?_, fun a c9 h9 => ⟨c9, h9, rfl, rfl, fun _ _ => rfl⟩⟩
    · obtain ⟨t, ht, -⟩ := State.frames_cons hr
      show T.setVm s.vm = { ((T.setVm s.vm).setFrames (.invoking m args :: below)).setFrames (T.setVm s.vm).frames with heap := T.heap, slotsUsed := T.slotsUsed }
      rw [State.setFrames_setFrames, State.setFrames_self ht]
      rfl
    · show T.slotsUsed = T.slotsUsed + ((T.heap.toList.drop T.heap.size).map (·.slots.size)).sum
      rw [List.drop_eq_nil_of_le (Nat.le_of_eq Array.length_toList)]
      rfl
    · show ((T.heap.toList.drop T.heap.size).map (·.slots.size)).sum ≤ 0
      rw [List.drop_eq_nil_of_le (Nat.le_of_eq Array.length_toList)]
      exact Nat.le_refl _
/-- 'throw new E()': new; dup; invokespecial; athrow -/
theorem vx_throw0 {cc : ByteArray} {pc : Nat} (hexec : p.tables.exec = Jvm.exec) (hb : c.code = cc) (hl : l.stackTraces = false) {own cls : String} {names : List String} {ik ic mc ms : Nat} {A : Nat → Prop}
    (hown : s.vm.findClass own = some m.cls) (hcls : Bundle.fit cls = true) (hnames : ∀ n ∈ names, Bundle.fit n = true)
    (hk : (Cond.classLink own ik cls).before args s = true) (hini : (Cond.initialized cls).before args s = true) (hat : ∀ w ∈ vx_at0 own ic cls names, w.before args s = true)
    (hgood : ∀ w ∈ Cond.classLink own ik cls :: Cond.initialized cls :: vx_at0 own ic cls names, vx_ot w = true)
    (hU : vx_Zq Bundle.tN "UNASSIGNED_STACK" Bundle.steD A s s.heap) (hN : vx_Zq Bundle.tN "SUPPRESSED_SENTINEL" Bundle.listD A s s.heap) (hS : va_S A s.heap H locs) (hsize : ls.size = c.maxLocals)
    (d0 : decode cc pc = .ok (.new ik, 3)) (d3 : decode cc (pc + 3) = .ok (.dup, 1)) (d4 : decode cc (pc + 4) = .ok (.invokespecial ic, 3)) (d7 : decode cc (pc + 7) = .ok (.athrow, 1))
    (hout : ∀ x ∈ c.exceptionTable.toList, covers x (pc + 7) = false)
    (hRframes : names.length + 3 < R.frames) (hRlocals : (rest.map fun v => v.category).sum + (13 * (names.length + 1) + 42) ≤ R.locals) (hRcells : cells + 1 ≤ R.cells) (hRslots : slots + 6 ≤ R.slots) (hlocks : meth.locks = false)
    (hx : ∀ t : State, s.vm.Alike t.vm → H.size ≤ t.heap.size → (∀ q : Nat, q < H.size → t.heap[q]? = H[q]?) → XC cls s t)
    (hf : ∀ z ∈ locs, free z.base) (hc : cells + 1 ≤ mc) (hs : slots + 6 ≤ ms) :
    W p l e R s m args below meth c H locs cells slots (vx_MQ below Qc XC args s mc ms free) (F0 m pc ls rest) := by
  intro T hT X
  have htr : e.platform.stackTraces = false := (show e.platform.stackTraces = l.stackTraces by rw [X.admits.platform]).trans hl
  have Y := vx_rebase X (R' := { frames := R.frames, locals := R.locals, cells := 1, slots := 6 }) (Nat.le_refl _) (Nat.le_refl _) hRcells hRslots
  obtain ⟨s', hA⟩ : ∃ z, z = (T.setVm s.vm).setFrames (.invoking m args :: below) := ⟨_, rfl⟩
  rw [← hA] at Y
  have hvm : s'.vm = s.vm := by rw [hA]; rfl
  have hhp : s'.heap = H := by rw [hA]; exact hT
  have hW0 : s.WarmedH s'.vm := by rw [hvm]; exact State.WarmedH.refl s
  have hat' : ∀ w ∈ vx_at0 own ic cls names, w.before args s' = true := fun w hw => vx_ot_at hW0 hvm.symm (hgood w (List.mem_cons_of_mem _ (List.mem_cons_of_mem _ hw))) (hat w hw)
  have hk' : (Cond.classLink own ik cls).before args s' = true := vx_ot_at hW0 hvm.symm (hgood _ List.mem_cons_self) hk
  have hini' : (Cond.initialized cls).before args s' = true := vx_ot_at hW0 hvm.symm (hgood _ (List.mem_cons_of_mem _ List.mem_cons_self)) hini
  have hU' : vx_Zq Bundle.tN "UNASSIGNED_STACK" Bundle.steD A s' s'.heap := by rw [hhp]; exact vx_Zq.moved hW0.alike (hU.kept hS.2.1)
  have hN' : vx_Zq Bundle.tN "SUPPRESSED_SENTINEL" Bundle.listD A s' s'.heap := by rw [hhp]; exact vx_Zq.moved hW0.alike (hN.kept hS.2.1)
  have h : ∀ w ∈ Bundle.ownAtoms0 own ic cls names, w.before args s' = true := vx_own hat' (vx_isRefq hU'.1) (vx_isRefq hN'.1) hU'.2.word hN'.2.word
  have hown' : s'.vm.findClass own = some m.cls := by rw [hvm]; exact hown
  have hins : (Cond.instantiable cls 6).before args s' = true := h _ (by simp [Bundle.ownAtoms0])
  obtain ⟨vm₁, cX, kX, hfX, hkX, -, -, X₁, st1⟩ := Y.newCold hexec (own := own) (C := cls) (index := ik) (n := 6) hown' hk' hins hini'
    (g := F0 m pc ls rest) rfl (by rw [hb]; exact d0) (Nat.le_refl _) (Nat.le_refl _)
  generalize hT1 : (T.setVm vm₁).pushCell { cls := cX, slots := kX.instanceTypes.map defaultValue, vm := .none } = T1 at X₁ st1
  have hcat : (Value.ref T.heap.size).category = 1 := rfl
  have hcellA : T1.heap[T.heap.size]? = some (freshCell cX kX) := by rw [← hT1]; exact State.heap_pushCell_size _ _
  have d3' : decode c.code (pc + 3) = .ok (.dup, 1) := by rw [hb]; exact d3
  obtain ⟨U, hsteps, hrun, hend, hW, hsame, ce, hce, hO⟩ := X₁.ctorThrow0 hexec htr (own := own) (cls := cls) (names := names) (ic := ic) hown' hcls hnames h (fun x hx => nomatch hx) hfX hkX hcellA (by rw [hhp, hT]; exact Nat.le_refl _)
    (g := { method := m, pc := pc + 4, locals := ls, stack := .ref T.heap.size :: .ref T.heap.size :: rest, locked := none }) rfl hsize rfl rfl (rest := rest) rfl
    (by rw [hb]; exact d4) (by rw [hb]; exact d7) hout hRframes (by simp only [List.map_cons, List.sum_cons, hcat]; omega) hlocks
  obtain ⟨f1, f2⟩ := vx_frame hsame
  rw [hhp] at f1 f2
  have hWs : s.WarmedH U.vm := State.WarmedH.trans hW0 hW
  have hcl : s.vm.findClass cls = some ce.cls := by
    have h9 := hO.cls
    rw [hvm] at h9
    exact h9
  have hall : s.sameButNew ({ U with vm := s.vm } : State) locs mc ms := by
    subst hA
    obtain ⟨e1, e2⟩ := hsame
    rw [State.setFrames_setFrames] at e1
    have h2 : (T.setVm s.vm).sameButNew ({ U with vm := s.vm } : State) [] (0 + 1) (0 + 6) := ⟨e1, e2⟩
    have h3 := X.same.trans h2
    rw [List.append_nil] at h3
    exact h3.mono hc hs
  refine ⟨U, ?_, .threw T.heap.size, hrun, hend, Or.inr ⟨T.heap.size, rfl, cls, ce, locs, hx U hWs.alike f1 (fun q hq => f2 q hq (fun z hz => nomatch hz)), hce, hO.vm, hcl, hWs, hall, hf⟩⟩
  refine st1 _ ?_
  show Steps p.tables e below (T1.setTop { method := m, pc := pc + 3, locals := ls, stack := .ref T.heap.size :: rest, locked := none }) _
  jvm_step X₁.here [X₁.here.top, hexec, d3', Value.category]
  exact hsteps
/-- 'throw new E("text")': new; dup; ldc; invokespecial; athrow -/
theorem vx_throwS {cc : ByteArray} {pc : Nat} (hexec : p.tables.exec = Jvm.exec) (hb : c.code = cc) (hl : l.stackTraces = false) {own cls text : String} {names : List String} {ik is ic mc ms sa : Nat} {A : Nat → Prop}
    (hown : s.vm.findClass own = some m.cls) (hcls : Bundle.fit cls = true) (hnames : ∀ n ∈ names, Bundle.fit n = true)
    (hk : (Cond.classLink own ik cls).before args s = true) (hini : (Cond.initialized cls).before args s = true) (hstr : vk_R own is text sa s) (hat : ∀ w ∈ vx_atS own ic cls names, w.before args s = true)
    (hgood : ∀ w ∈ Cond.classLink own ik cls :: Cond.initialized cls :: vx_atS own ic cls names, vx_ot w = true)
    (hU : vx_Zq Bundle.tN "UNASSIGNED_STACK" Bundle.steD A s s.heap) (hN : vx_Zq Bundle.tN "SUPPRESSED_SENTINEL" Bundle.listD A s s.heap) (hS : va_S A s.heap H locs) (hsize : ls.size = c.maxLocals)
    (d0 : decode cc pc = .ok (.new ik, 3)) (d3 : decode cc (pc + 3) = .ok (.dup, 1)) (d4 : decode cc (pc + 4) = .ok (.ldc is, 2)) (d6 : decode cc (pc + 6) = .ok (.invokespecial ic, 3)) (d9 : decode cc (pc + 9) = .ok (.athrow, 1))
    (hout : ∀ x ∈ c.exceptionTable.toList, covers x (pc + 9) = false)
    (hRframes : names.length + 3 < R.frames) (hRlocals : (rest.map fun v => v.category).sum + (13 * (names.length + 1) + 43) ≤ R.locals) (hRcells : cells + 1 ≤ R.cells) (hRslots : slots + 6 ≤ R.slots) (hlocks : meth.locks = false)
    (hx : ∀ t : State, s.vm.Alike t.vm → H.size ≤ t.heap.size → (∀ q : Nat, q < H.size → t.heap[q]? = H[q]?) → XC cls s t)
    (hf : ∀ z ∈ locs, free z.base) (hc : cells + 1 ≤ mc) (hs : slots + 6 ≤ ms) :
    W p l e R s m args below meth c H locs cells slots (vx_MQ below Qc XC args s mc ms free) (F0 m pc ls rest) := by
  intro T hT X
  have htr : e.platform.stackTraces = false := (show e.platform.stackTraces = l.stackTraces by rw [X.admits.platform]).trans hl
  have Y := vx_rebase X (R' := { frames := R.frames, locals := R.locals, cells := 1, slots := 6 }) (Nat.le_refl _) (Nat.le_refl _) hRcells hRslots
  obtain ⟨s', hA⟩ : ∃ z, z = (T.setVm s.vm).setFrames (.invoking m args :: below) := ⟨_, rfl⟩
  rw [← hA] at Y
  have hvm : s'.vm = s.vm := by rw [hA]; rfl
  have hhp : s'.heap = H := by rw [hA]; exact hT
  have hW0 : s.WarmedH s'.vm := by rw [hvm]; exact State.WarmedH.refl s
  have hat' : ∀ w ∈ vx_atS own ic cls names, w.before args s' = true := fun w hw => vx_ot_at hW0 hvm.symm (hgood w (List.mem_cons_of_mem _ (List.mem_cons_of_mem _ hw))) (hat w hw)
  have hk' : (Cond.classLink own ik cls).before args s' = true := vx_ot_at hW0 hvm.symm (hgood _ List.mem_cons_self) hk
  have hini' : (Cond.initialized cls).before args s' = true := vx_ot_at hW0 hvm.symm (hgood _ (List.mem_cons_of_mem _ List.mem_cons_self)) hini
  have hU' : vx_Zq Bundle.tN "UNASSIGNED_STACK" Bundle.steD A s' s'.heap := by rw [hhp]; exact vx_Zq.moved hW0.alike (hU.kept hS.2.1)
  have hN' : vx_Zq Bundle.tN "SUPPRESSED_SENTINEL" Bundle.listD A s' s'.heap := by rw [hhp]; exact vx_Zq.moved hW0.alike (hN.kept hS.2.1)
  have h : ∀ w ∈ Bundle.ownAtoms own ic cls names, w.before args s' = true := vx_own hat' (vx_isRefq hU'.1) (vx_isRefq hN'.1) hU'.2.word hN'.2.word
  have hown' : s'.vm.findClass own = some m.cls := by rw [hvm]; exact hown
  have hins : (Cond.instantiable cls 6).before args s' = true := h _ (by simp [Bundle.ownAtoms])
  obtain ⟨vm₁, cX, kX, hfX, hkX, -, -, X₁, st1⟩ := Y.newCold hexec (own := own) (C := cls) (index := ik) (n := 6) hown' hk' hins hini'
    (g := F0 m pc ls rest) rfl (by rw [hb]; exact d0) (Nat.le_refl _) (Nat.le_refl _)
  generalize hT1 : (T.setVm vm₁).pushCell { cls := cX, slots := kX.instanceTypes.map defaultValue, vm := .none } = T1 at X₁ st1
  have hcat : (Value.ref T.heap.size).category = 1 := rfl
  have hcellA : T1.heap[T.heap.size]? = some (freshCell cX kX) := by rw [← hT1]; exact State.heap_pushCell_size _ _
  have d3' : decode c.code (pc + 3) = .ok (.dup, 1) := by rw [hb]; exact d3
  have d4' : decode c.code (pc + 4) = .ok (.ldc is, 2) := by rw [hb]; exact d4
  have hstr' : vk_R own is text sa s' := vk_R.warm hW0 hstr
  obtain ⟨U, hsteps, hrun, hend, hW, hsame, ce, hce, hO⟩ := X₁.ctorThrowS hexec htr (own := own) (cls := cls) (names := names) (ic := ic) hown' hcls hnames h (fun x hx => nomatch hx) hfX hkX hcellA (by rw [hhp, hT]; exact Nat.le_refl _) (msg := .ref sa) rfl
    (g := { method := m, pc := pc + 6, locals := ls, stack := .ref sa :: .ref T.heap.size :: .ref T.heap.size :: rest, locked := none }) rfl hsize rfl rfl (rest := rest) rfl
    (by rw [hb]; exact d6) (by rw [hb]; exact d9) hout hRframes (by simp only [List.map_cons, List.sum_cons, hcat]; omega) hlocks
  obtain ⟨f1, f2⟩ := vx_frame hsame
  rw [hhp] at f1 f2
  have hWs : s.WarmedH U.vm := State.WarmedH.trans hW0 hW
  have hcl : s.vm.findClass cls = some ce.cls := by
    have h9 := hO.cls
    rw [hvm] at h9
    exact h9
  have hall : s.sameButNew ({ U with vm := s.vm } : State) locs mc ms := by
    subst hA
    obtain ⟨e1, e2⟩ := hsame
    rw [State.setFrames_setFrames] at e1
    have h2 : (T.setVm s.vm).sameButNew ({ U with vm := s.vm } : State) [] (0 + 1) (0 + 6) := ⟨e1, e2⟩
    have h3 := X.same.trans h2
    rw [List.append_nil] at h3
    exact h3.mono hc hs
  refine ⟨U, ?_, .threw T.heap.size, hrun, hend, Or.inr ⟨T.heap.size, rfl, cls, ce, locs, hx U hWs.alike f1 (fun q hq => f2 q hq (fun z hz => nomatch hz)), hce, hO.vm, hcl, hWs, hall, hf⟩⟩
  refine st1 _ ?_
  show Steps p.tables e below (T1.setTop { method := m, pc := pc + 3, locals := ls, stack := .ref T.heap.size :: rest, locked := none }) _
  jvm_step X₁.here [X₁.here.top, hexec, d3', Value.category]
  exact X₁.ldcString hexec (own := own) (text := text) (index := is) (a := sa) hown' hstr'.1 hstr'.2
    (g := { method := m, pc := pc + 4, locals := ls, stack := .ref T.heap.size :: .ref T.heap.size :: rest, locked := none }) rfl d4' _ hsteps
/-- 'throw new E("text")', the text by a wide index -/
theorem vx_throwSW {cc : ByteArray} {pc : Nat} (hexec : p.tables.exec = Jvm.exec) (hb : c.code = cc) (hl : l.stackTraces = false) {own cls text : String} {names : List String} {ik is ic mc ms sa : Nat} {A : Nat → Prop}
    (hown : s.vm.findClass own = some m.cls) (hcls : Bundle.fit cls = true) (hnames : ∀ n ∈ names, Bundle.fit n = true)
    (hk : (Cond.classLink own ik cls).before args s = true) (hini : (Cond.initialized cls).before args s = true) (hstr : vk_R own is text sa s) (hat : ∀ w ∈ vx_atS own ic cls names, w.before args s = true)
    (hgood : ∀ w ∈ Cond.classLink own ik cls :: Cond.initialized cls :: vx_atS own ic cls names, vx_ot w = true)
    (hU : vx_Zq Bundle.tN "UNASSIGNED_STACK" Bundle.steD A s s.heap) (hN : vx_Zq Bundle.tN "SUPPRESSED_SENTINEL" Bundle.listD A s s.heap) (hS : va_S A s.heap H locs) (hsize : ls.size = c.maxLocals)
    (d0 : decode cc pc = .ok (.new ik, 3)) (d3 : decode cc (pc + 3) = .ok (.dup, 1)) (d4 : decode cc (pc + 4) = .ok (.ldc_w is, 3)) (d7 : decode cc (pc + 7) = .ok (.invokespecial ic, 3)) (d10 : decode cc (pc + 10) = .ok (.athrow, 1))
    (hout : ∀ x ∈ c.exceptionTable.toList, covers x (pc + 10) = false)
    (hRframes : names.length + 3 < R.frames) (hRlocals : (rest.map fun v => v.category).sum + (13 * (names.length + 1) + 43) ≤ R.locals) (hRcells : cells + 1 ≤ R.cells) (hRslots : slots + 6 ≤ R.slots) (hlocks : meth.locks = false)
    (hx : ∀ t : State, s.vm.Alike t.vm → H.size ≤ t.heap.size → (∀ q : Nat, q < H.size → t.heap[q]? = H[q]?) → XC cls s t)
    (hf : ∀ z ∈ locs, free z.base) (hc : cells + 1 ≤ mc) (hs : slots + 6 ≤ ms) :
    W p l e R s m args below meth c H locs cells slots (vx_MQ below Qc XC args s mc ms free) (F0 m pc ls rest) := by
  intro T hT X
  have htr : e.platform.stackTraces = false := (show e.platform.stackTraces = l.stackTraces by rw [X.admits.platform]).trans hl
  have Y := vx_rebase X (R' := { frames := R.frames, locals := R.locals, cells := 1, slots := 6 }) (Nat.le_refl _) (Nat.le_refl _) hRcells hRslots
  obtain ⟨s', hA⟩ : ∃ z, z = (T.setVm s.vm).setFrames (.invoking m args :: below) := ⟨_, rfl⟩
  rw [← hA] at Y
  have hvm : s'.vm = s.vm := by rw [hA]; rfl
  have hhp : s'.heap = H := by rw [hA]; exact hT
  have hW0 : s.WarmedH s'.vm := by rw [hvm]; exact State.WarmedH.refl s
  have hat' : ∀ w ∈ vx_atS own ic cls names, w.before args s' = true := fun w hw => vx_ot_at hW0 hvm.symm (hgood w (List.mem_cons_of_mem _ (List.mem_cons_of_mem _ hw))) (hat w hw)
  have hk' : (Cond.classLink own ik cls).before args s' = true := vx_ot_at hW0 hvm.symm (hgood _ List.mem_cons_self) hk
  have hini' : (Cond.initialized cls).before args s' = true := vx_ot_at hW0 hvm.symm (hgood _ (List.mem_cons_of_mem _ List.mem_cons_self)) hini
  have hU' : vx_Zq Bundle.tN "UNASSIGNED_STACK" Bundle.steD A s' s'.heap := by rw [hhp]; exact vx_Zq.moved hW0.alike (hU.kept hS.2.1)
  have hN' : vx_Zq Bundle.tN "SUPPRESSED_SENTINEL" Bundle.listD A s' s'.heap := by rw [hhp]; exact vx_Zq.moved hW0.alike (hN.kept hS.2.1)
  have h : ∀ w ∈ Bundle.ownAtoms own ic cls names, w.before args s' = true := vx_own hat' (vx_isRefq hU'.1) (vx_isRefq hN'.1) hU'.2.word hN'.2.word
  have hown' : s'.vm.findClass own = some m.cls := by rw [hvm]; exact hown
  have hins : (Cond.instantiable cls 6).before args s' = true := h _ (by simp [Bundle.ownAtoms])
  obtain ⟨vm₁, cX, kX, hfX, hkX, -, -, X₁, st1⟩ := Y.newCold hexec (own := own) (C := cls) (index := ik) (n := 6) hown' hk' hins hini'
    (g := F0 m pc ls rest) rfl (by rw [hb]; exact d0) (Nat.le_refl _) (Nat.le_refl _)
  generalize hT1 : (T.setVm vm₁).pushCell { cls := cX, slots := kX.instanceTypes.map defaultValue, vm := .none } = T1 at X₁ st1
  have hcat : (Value.ref T.heap.size).category = 1 := rfl
  have hcellA : T1.heap[T.heap.size]? = some (freshCell cX kX) := by rw [← hT1]; exact State.heap_pushCell_size _ _
  have d3' : decode c.code (pc + 3) = .ok (.dup, 1) := by rw [hb]; exact d3
  have d4' : decode c.code (pc + 4) = .ok (.ldc_w is, 3) := by rw [hb]; exact d4
  have hstr' : vk_R own is text sa s' := vk_R.warm hW0 hstr
  obtain ⟨U, hsteps, hrun, hend, hW, hsame, ce, hce, hO⟩ := X₁.ctorThrowS hexec htr (own := own) (cls := cls) (names := names) (ic := ic) hown' hcls hnames h (fun x hx => nomatch hx) hfX hkX hcellA (by rw [hhp, hT]; exact Nat.le_refl _) (msg := .ref sa) rfl
    (g := { method := m, pc := pc + 7, locals := ls, stack := .ref sa :: .ref T.heap.size :: .ref T.heap.size :: rest, locked := none }) rfl hsize rfl rfl (rest := rest) rfl
    (by rw [hb]; exact d7) (by rw [hb]; exact d10) hout hRframes (by simp only [List.map_cons, List.sum_cons, hcat]; omega) hlocks
  obtain ⟨f1, f2⟩ := vx_frame hsame
  rw [hhp] at f1 f2
  have hWs : s.WarmedH U.vm := State.WarmedH.trans hW0 hW
  have hcl : s.vm.findClass cls = some ce.cls := by
    have h9 := hO.cls
    rw [hvm] at h9
    exact h9
  have hall : s.sameButNew ({ U with vm := s.vm } : State) locs mc ms := by
    subst hA
    obtain ⟨e1, e2⟩ := hsame
    rw [State.setFrames_setFrames] at e1
    have h2 : (T.setVm s.vm).sameButNew ({ U with vm := s.vm } : State) [] (0 + 1) (0 + 6) := ⟨e1, e2⟩
    have h3 := X.same.trans h2
    rw [List.append_nil] at h3
    exact h3.mono hc hs
  refine ⟨U, ?_, .threw T.heap.size, hrun, hend, Or.inr ⟨T.heap.size, rfl, cls, ce, locs, hx U hWs.alike f1 (fun q hq => f2 q hq (fun z hz => nomatch hz)), hce, hO.vm, hcl, hWs, hall, hf⟩⟩
  refine st1 _ ?_
  show Steps p.tables e below (T1.setTop { method := m, pc := pc + 3, locals := ls, stack := .ref T.heap.size :: rest, locked := none }) _
  jvm_step X₁.here [X₁.here.top, hexec, d3', Value.category]
  exact X₁.ldcStringW hexec (own := own) (text := text) (index := is) (a := sa) hown' hstr'.1 hstr'.2
    (g := { method := m, pc := pc + 4, locals := ls, stack := .ref T.heap.size :: .ref T.heap.size :: rest, locked := none }) rfl d4' _ hsteps
end Ends
section Bodies
variable {l : Launch}
theorem vx_ofW {y : MethodName} {ws ws' : List Cond} {rm : Room} {Pc : Array Value → State → Prop} {Qc : Array Value → State → Outcome → State → Prop} {XC : String → State → State → Prop} {mc ms : Nat} {free : Addr → Prop} {cc : ByteArray} {maxL : Nat} {ret : Option FieldType}
    (hy : plainName y.cls = true) (hw : ws = Cond.code y cc maxL ret :: ws')
    (body : ∀ p e s m args below meth c s₁, BodyLoose p l y (headSpec ws rm) cc maxL ret e s m args below meth c s₁ → c.maxLocals = maxL → (∀ x ∈ c.exceptionTable.toList, False) → Pc args s →
      W p l e (headSpec ws rm).room s m args below meth c s.heap [] 0 0 (vx_MQ below Qc XC args s mc ms free) (entryFrame m args maxL)) : vx_Met l y ws rm Pc Qc XC mc ms free := by
  refine MetFree.of_bodyS (code := cc) (maxLocals := maxL) (ret := ret) hy ?_ ?_
  · intro args s m h hn
    obtain ⟨meth, c, h1, h2, h3, h4, h5, h6, -, -⟩ := Cond.code_spec hn (atoms_spec (ws := ws) h _ (by rw [hw]; exact List.mem_cons_self))
    exact ⟨meth, c, h1, h2, h3, h4, h5, h6⟩
  · intro p e s m args below meth c s₁ B hml hP _
    have hh0 : s₁.heap = s.heap := by rw [B.state]; rfl
    have ht : ∀ x ∈ c.exceptionTable.toList, False := by
      obtain ⟨meth9, c9, h1, h2, -, -, -, -, h7, -⟩ := Cond.code_spec B.named (atoms_spec (ws := ws) B.pre _ (by rw [hw]; exact List.mem_cons_self))
      cases Option.some.inj (h1.symm.trans B.method)
      cases Option.some.inj (h2.symm.trans (Stand.of_body B).code)
      intro x hx
      rw [Array.isEmpty_iff.mp h7] at hx
      cases hx
    obtain ⟨t, a1, o, b1, b2, b3⟩ := body p e s m args below meth c s₁ B hml ht hP s₁ hh0 (Stand.of_body B)
    exact ⟨t, o, a1, b1, b2, b3⟩
/-- the table of a body with handlers -/
theorem vx_table {p : Program} {x y : MethodName} {S : Spec} {cc bytes : ByteArray} {maxL maxL' : Nat} {ret ret' : Option FieldType} {e : Env} {s s₁ : State} {m : MethodId} {args : Array Value} {below : List Frame} {meth : Method} {c : Code} {hh : List (Nat × Nat × Nat × Nat)}
    (B : BodyLoose p l y S cc maxL ret e s m args below meth c s₁) (h : (Cond.codeWith y bytes maxL' ret' hh).before args s = true) : c.exceptionTable.toList = tableOf hh := by
  obtain ⟨m9, meth9, c9, hn9, h1, h2, -, -, h6, -⟩ := Cond.codeWith_spec h
  cases Option.some.inj (hn9.symm.trans B.named)
  cases Option.some.inj (h1.symm.trans B.method)
  cases Option.some.inj (h2.symm.trans (Stand.of_body B).code)
  rw [← h6, table_eq]
end Bodies
end VXA
/-! ===== END ===== -/
/-! ===== BEGIN a static call of a method with an exception table ===== -/
section VXS
variable {p : Program} {l : Launch} {e : Env} {R : Room} {s : State} {m : MethodId} {args : Array Value} {below : List Frame} {meth : Method} {c : Code} {T : State} {H : Heap} {locs : List Loc} {cells slots : Nat}
abbrev vx_CSW (R : Room) (s : State) (args : Array Value) (own : String) (index : Nat) (y : MethodName) (bytes : ByteArray) (maxL : Nat) (ret : Option FieldType) (hh : List (Nat × Nat × Nat × Nat)) (ws : List Cond) (rm : Room) (mc ms n : Nat) : Prop :=
  (rm.cells = mc ∧ rm.slots = ms ∧ rm.frames + 1 ≤ R.frames ∧ 8 + (maxL + 11) + rm.locals ≤ R.locals ∧ (∀ w ∈ ws, ∀ (a' : Array Value) (U : State), s.WarmedH U.vm → w.before a' U = true) ∧ Cond.codeWith y bytes maxL ret hh ∈ ws) ∧
  (Cond.codeWith y bytes maxL ret hh).before args s = true ∧ (Cond.initialized y.cls).before args s = true ∧ (y.cls ≠ "java/lang/invoke/MethodHandle" ∧ y.cls ≠ "java/lang/invoke/VarHandle") ∧
  (∀ sig, parseMethodDescriptor y.desc = some sig → n = sig.parameters.length) ∧ (Cond.methodLink own index y).before args s = true ∧ (Cond.static y).before args s = true
theorem vx_cwSW {own : String} {index maxL mc ms : Nat} {y : MethodName} {bytes : ByteArray} {ret : Option FieldType} {hh : List (Nat × Nat × Nat × Nat)} {Ts ws ws' : List Cond} {rm : Room} (n : Nat) (ht : ∀ w ∈ Ts, w.before args s = true) (hT : GoodIn Ts (va_wsS own index y ws)) (hw : ws = Cond.codeWith y bytes maxL ret hh :: ws') (hrc : rm.cells = mc) (hrs : rm.slots = ms)
    (hd : y.cls ≠ "java/lang/invoke/MethodHandle" ∧ y.cls ≠ "java/lang/invoke/VarHandle" ∧ (parseMethodDescriptor y.desc).map (fun d => d.parameters.length) = some n) (hR : rm.frames + 1 ≤ R.frames ∧ 8 + (maxL + 11) + rm.locals ≤ R.locals) :
    vx_CSW R s args own index y bytes maxL ret hh ws rm mc ms n := by
  have ok : ∀ w ∈ va_wsS own index y ws, w.before args s = true := fun w h => ht w (hT w h).1
  have hG : GoodIn Ts ws := fun w h => hT w (by unfold va_wsS; exact List.mem_append_right _ h)
  have hc : Cond.codeWith y bytes maxL ret hh ∈ ws := by rw [hw]; exact List.mem_cons_self
  refine ⟨⟨hrc, hrs, hR.1, hR.2, pay_in ht hG, hc⟩, ht _ (hG _ hc).1, ok _ (by simp [va_wsS]), ⟨hd.1, hd.2.1⟩, fun sig h => ?_, ok _ (by simp [va_wsS]), ok _ (by simp [va_wsS])⟩
  have h2 := hd.2.2
  rw [h] at h2
  exact (Option.some.inj h2).symm
theorem vx_callSW (X : Stand p l e R s m args below meth c T locs cells slots) (hexec : p.tables.exec = Jvm.exec) {own : String} {index : Nat} {y : MethodName} {bytes : ByteArray} {maxL : Nat} {ret : Option FieldType} {hh : List (Nat × Nat × Nat × Nat)}
    (hown : s.vm.findClass own = some m.cls) (hlink : (Cond.methodLink own index y).before args s = true) (hstat : (Cond.static y).before args s = true) (hinit : (Cond.initialized y.cls).before args s = true)
    (hcode : (Cond.codeWith y bytes maxL ret hh).before args s = true) (hy : y.cls ≠ "java/lang/invoke/MethodHandle" ∧ y.cls ≠ "java/lang/invoke/VarHandle")
    {W9 : Nat} {Pre : Pt → Array Value → Prop} {Post : Pt → Array Value → Option Value → Pt → Prop} (hK : Back l R p e below s args y 3 W9 Pre Post)
    {g : JFrame} (hg : g.method = m) (hsize : g.locals.size = c.maxLocals) {argsL rest : List Value} (hlen : ∀ sig, parseMethodDescriptor y.desc = some sig → argsL.length = sig.parameters.length)
    (hstack : g.stack = argsL.reverse ++ rest) (hW : 2 * g.monitorRoom + (rest.map fun v => v.category).sum ≤ W9) (hdg : decode c.code g.pc = .ok (.invokestatic index, 3))
    (hpre : ∀ vm₁, s.WarmedH vm₁ → Pre ⟨T.setVm vm₁, locs, cells, slots⟩ argsL.toArray) :
    ∃ (v : Option Value) (vm₁ : Vm) (B : Pt), s.WarmedH vm₁ ∧ Stand p l e R s m args below meth c B.U B.locs B.cells B.slots ∧ Post ⟨T.setVm vm₁, locs, cells, slots⟩ argsL.toArray v B ∧
      ∀ target, Steps p.tables e below (B.U.setTop { g with pc := g.pc + 3, stack := v.toList ++ rest }) target → Steps p.tables e below (T.setTop g) target := by
  obtain ⟨mk, methM, cM, hnamed, hmethM, -, -, -, -, -, -, hsigM⟩ := Cond.codeWith_spec hcode
  have hstatic : methM.isStatic = true := Cond.static_spec hnamed hmethM hstat
  obtain ⟨kP, hkP, -⟩ := className_of_methodNamed hnamed
  have hinitP : kP.init = .initialized := Cond.initialized_spec (findClass_of_methodNamed hnamed) hkP hinit
  obtain ⟨vm₁, X₁, hstep₁⟩ := X.invokestatic hexec hown hlink hnamed hmethM hstatic hkP hinitP hy (g := g) hg (argsL := argsL) (rest := rest) (hlen _ hsigM) hstack hdg
  obtain ⟨v, B, X', hpost, hsteps⟩ := hK m meth c ⟨T.setVm vm₁, locs, cells, slots⟩ { g with stack := rest } (.invokestatic index) mk argsL.toArray X₁ hg hsize hdg hW (X₁.named hnamed) (hpre vm₁ X₁.warmed)
  exact ⟨v, vm₁, B, X₁.warmed, X', hpost, fun target h => hstep₁ _ fun acts => by rw [doInvoke_state]; exact hsteps.trans h⟩
theorem vx_runSW {y : MethodName} {bytes cc : ByteArray} {maxL nL mc ms n index : Nat} {ret : Option FieldType} {hh : List (Nat × Nat × Nat × Nat)} {ws : List Cond} {rm : Room} {Pc : Array Value → State → Prop} {Qc : Array Value → State → Outcome → State → Prop} {free : Addr → Prop} {Ts : List Cond} {own : String} {As rest : List Value} {g : JFrame}
    (S : CallFix p m c cc nL s args Ts own) (hM : Met l y ws rm Pc Qc mc ms free) (cw : vx_CSW R s args own index y bytes maxL ret hh ws rm mc ms n) (hp : PreS s H Pc As)
    (hg : g.method = m) (hn : As.length = n) (hsize : g.locals.size = nL) (hstack : g.stack = As.reverse ++ rest) (hW : 2 * g.monitorRoom + (rest.map fun v => v.category).sum ≤ 8) (hdg : decode cc g.pc = .ok (.invokestatic index, 3)) (hf : cells + mc ≤ R.cells ∧ slots + ms ≤ R.slots) :
    va_Run p l e R s m args below meth c H locs cells slots mc ms g rest (Qc As.toArray) (free) := by
  obtain ⟨⟨hrc, hrs, hfr, hlo, hws, hcw⟩, hcode, hini, hy, hlen, hl, hstt⟩ := cw
  have hK : Back l R p e below s args y 3 8 (PreOf R mc ms Pc) (PostOf Qc mc ms free) := va_backW (hh := hh) (bytes := bytes) (maxL := maxL) (ret := ret) hM hp.1 hrc hrs hfr hlo hws hcw (fun a' U hW => word_at hW (Or.inl (by first | rfl | simp [Cond.onTables, Cond.keeps, Cond.steady])) hini)
  obtain ⟨hx, hb, hml, ho, -⟩ := S
  intro T hT X
  obtain ⟨v, vm₁, ⟨U', l2, c2, s2⟩, hW₁, X', ⟨g', mk, t, L, e1, e2, hq, h1, hL, h2, h3⟩, st⟩ := vx_callSW X hx (hh := hh) (bytes := bytes) (maxL := maxL) (ret := ret) ho hl hstt hini hcode hy hK hg (hsize.trans hml.symm) (argsL := As) (rest := rest) (fun sig h => hn.trans (hlen sig h)) hstack hW (by rw [hb]; exact hdg)
    (fun vm₁ hW₁ => ⟨hf.1, hf.2, hp.2 (T.setVm vm₁) hT hW₁⟩)
  dsimp only [Pt.U, Pt.locs, Pt.cells, Pt.slots] at X' e1 e2 h1 h2 h3 st
  subst h1; subst h2; subst h3
  exact ⟨v, (T.setVm vm₁).calling g' mk As.toArray, t, U', L, hT, X', hL, e1, e2, hq, st⟩
/-- not caught here, past rows that name other classes: it goes on to the caller -/
theorem vx_outP {p : Program} {l : Launch} {e : Env} {R : Room} {s : State} {m : MethodId} {args : Array Value} {below : List Frame} {meth : Method} {c : Code} {H : Heap} {locs : List Loc} {cells slots : Nat} {free : Addr → Prop} {ls : Array Slot} {rest : List Value} {Qc : Array Value → State → Outcome → State → Prop} {XC : String → State → State → Prop}
    {pc : Nat} {own E : String} {ce : Cell} {q : Addr} {mc ms : Nat} (hown : s.vm.findClass own = some m.cls) (hlocks : meth.locks = false)
    (hpass : ∀ z ∈ c.exceptionTable.toList, covers z pc = false ∨ (z.catchType ≠ 0 ∧ ∃ nm : String, (Cond.classLink own z.catchType nm).before args s = true ∧ va_Nc E nm s)) (hcell : H[q]? = some ce) (hv : ce.vm = .none) (hcl : s.vm.findClass E = some ce.cls)
    (hx : ∀ t : State, t.heap = H → s.vm.Alike t.vm → XC E s t) (hf : ∀ z ∈ locs, free z.base) (hc : cells ≤ mc) (hs : slots ≤ ms) :
    vx_W p l e R s m args below meth c H locs cells slots (vx_MQ below Qc XC args s mc ms free) (F0 m pc ls rest) q := by
  intro T hT X
  have hpl : e.platform.magicAccessors = ({} : Platform).magicAccessors := by rw [X.admits.platform]
  obtain ⟨vm', hW', X', st⟩ := X.outThrough hlocks q (g := F0 m pc ls rest) rfl rfl rfl (cell := ce) (by rw [hT]; exact hcell) (by rw [hv]; rfl)
    (by obtain ⟨k9, h9, -⟩ := Vm.findClass_spec hcl; exact ⟨k9, h9⟩) (fun z hz => by
      rcases hpass z hz with h | ⟨hz0, nm, hl1, hn1⟩
      · exact Or.inl h
      · obtain ⟨c6, hc6, hcl6⟩ := Cond.classLink_spec hown hl1 e.platform hpl
        obtain ⟨a8, b8, h1, h2, h3⟩ := hn1
        cases Option.some.inj (h1.symm.trans hcl)
        cases Option.some.inj (h2.symm.trans hc6)
        exact Or.inr ⟨hz0, _, hcl6, h3⟩)
  obtain ⟨g₀, hfr⟩ := X'.frames_eq
  have hcell9 : ((T.setVm vm').setFrames (.throwing q :: below)).heap[q]? = some ce := by
    show T.heap[q]? = some ce
    rw [hT]; exact hcell
  have hend : Ended ((T.setVm vm').setFrames (.throwing q :: below)) below (.threw q) := State.frames_setFrames _ (State.cur_lt_of_frames hfr)
  refine ⟨(T.setVm vm').setFrames (.throwing q :: below), ?_, .threw q, X'.here.running, hend, Or.inr ⟨q, rfl, E, ce, locs, hx _ hT (X'.ends _).1.alike, hcell9, hv, hcl, (X'.ends _).1, (X'.ends _).2.mono hc hs, hf⟩⟩
  rw [X.pushThrowing_eq]
  exact st
/-- a thing of a world lies in the heap -/
theorem vx_lt {D : va_G} {cl : List vw_C} {ws : va_W} {H1 : Heap} (h : va_P D cl ws H1) {k : Nat} {q : Nat × va_E} (hk : ws[k]? = some q) : q.1 < H1.size := (h k q hk).lt
end VXS
/-! ===== END ===== -/
/-! ===== BEGIN methods with a table of their own: called by a name, returning or throwing ===== -/
section VXH
/-! vx_backW, vx_callVX, vx_callSX, vx_callVW, vx_runVW, vx_runVX, vx_runSX, vx_ofWH follow the same proofs as their sisters above (Free/Laws.lean, Shelf42/LK1.lean); vx_outP calls Shelf42/NT130.lean (outThrough). -/
section
variable {l : Launch} {R : Room} {p : Program} {e : Env} {below : List Frame} {s : State} {sargs : Array Value} {y : MethodName} {len W9 : Nat}
theorem vx_backW {ws : List Cond} {rm : Room} {Pc : Array Value → State → Prop} {Qc : Array Value → State → Outcome → State → Prop} {XC : String → State → State → Prop} {mc ms : Nat} {free : Addr → Prop} {bytes : ByteArray} {maxL : Nat} {ret : Option FieldType} {hh : List (Nat × Nat × Nat × Nat)}
    (hM : vx_Met l y ws rm Pc Qc XC mc ms free) (hblind : FrameBlind Pc) (hrc : rm.cells = mc) (hrs : rm.slots = ms)
    (hframes : rm.frames + 1 ≤ R.frames) (hlocals : W9 + (maxL + 11) + rm.locals ≤ R.locals)
    (hws : ∀ w ∈ ws, ∀ a' U, s.WarmedH U.vm → w.before a' U = true) (hcode : Cond.codeWith y bytes maxL ret hh ∈ ws) (hinit : ∀ a' U, s.WarmedH U.vm → (Cond.initialized y.cls).before a' U = true) :
    vx_Back l R p e below s sargs y len W9 (PreOf R mc ms Pc) (PostOf Qc mc ms free) (vx_Post XC mc ms free) := by
  intro m meth c A g ig mk a X hg hsize hdg hW hn hp
  have h1 : (headSpec ws rm).pre.before a A.U = true := atoms_intro fun w hw => hws w hw _ _ X.warmed
  have h2 : (Cond.codeWith y bytes maxL ret hh).before a A.U = true := hws _ hcode _ _ X.warmed
  have h3 : (Cond.initialized y.cls).before a A.U = true := hinit _ _ X.warmed
  have h4 : A.cells + (headSpec ws rm).room.cells ≤ R.cells := by rw [show (headSpec ws rm).room.cells = mc from hrc]; exact hp.1
  have h5 : A.slots + (headSpec ws rm).room.slots ≤ R.slots := by rw [show (headSpec ws rm).room.slots = ms from hrs]; exact hp.2.1
  have hPc : Pc a (A.U.calling g mk a) := hblind _ _ _ _ hp.2.2
  obtain ⟨U, Ls, c0, s0⟩ := A
  dsimp only [Pt.U, Pt.locs, Pt.cells, Pt.slots] at h1 h2 h3 h4 h5 X hn hPc ⊢
  obtain ⟨m9, methY, cY, hn9, hmY, hcY, -, hlY, -⟩ := Cond.codeWith_spec h2
  cases Option.some.inj (hn9.symm.trans hn)
  obtain ⟨kY, hkY, -⟩ := className_of_methodNamed hn
  have hinitY : kY.init = .initialized := Cond.initialized_spec (findClass_of_methodNamed hn) hkY h3
  have h : At U g.method c below := by rw [hg]; exact X.here
  have hlocals9 : W9 + (maxL + 11) + (headSpec ws rm).room.locals ≤ R.locals := hlocals
  have happ : (headSpec ws rm).appliesLoose y e.platform (U.calling g mk a) = true :=
    Spec.appliesLoose_calling (g := g) h hdg hn hkY hinitY
      (X.room_calling (g := g) (R' := (headSpec ws rm).room) hsize hmY hcY hframes (by rw [hlY]; omega) h4 h5) h1
  obtain ⟨mid, hmid⟩ := h.above
  have hfr : (U.setTop g).frames = (.java g :: mid) ++ below := by rw [State.frames_setTop' g h.top, hmid]; rfl
  obtain ⟨o, s₂, hsteps, -, hend, hq⟩ := Steps.callFree hM p X.admits X.cas X.clock (acts := []) hfr happ hPc trivial
  have hq' : vx_Q Qc XC mc ms free a (U.calling g mk a) o s₂ := hq
  rw [State.frames_setTop' g h.top] at hend
  obtain ⟨g₀, hg0⟩ := Option.isSome_iff_exists.mp h.top
  obtain ⟨r, hr⟩ := State.topJava?_eq_some.mp hg0
  have hr' : (({ U with heap := s₂.heap, slotsUsed := s₂.slotsUsed } : State).setVm s₂.vm).frames = .java g₀ :: r := hr
  rcases hq' with ⟨hqc, L, hfe, hL⟩ | ⟨q, rfl, E, ce, L, hx, hce, hcv, hcl, hW₂, hsm, hL⟩
  · obtain ⟨⟨v, rfl⟩, hW₂, e2, q2, q3, q4, q5, q6⟩ := id hfe
    have e3 : s₂ = ({ (U.calling g mk a).setFrames s₂.frames with heap := s₂.heap, slotsUsed := s₂.slotsUsed } : State).setVm s₂.vm := by
      have : s₂ = ({ s₂ with vm := (U.calling g mk a).vm } : State).setVm s₂.vm := rfl
      rw [e2] at this
      exact this
    obtain ⟨c₂, i₂, len₂, hc₂, hd₂, hf₂⟩ := hend
    have hW' : U.WarmedH s₂.vm := hW₂
    have hcc : c₂ = c := by
      have h1 : s₂.code? g.method = U.code? g.method := by
        rw [State.code?_eq, State.code?_eq, hW'.alike.method?]
      exact Option.some.inj (hc₂.symm.trans (h1.trans h.code))
    subst hcc
    have hlen : len₂ = len := by rw [hdg] at hd₂; cases hd₂; rfl
    subst hlen
    have hs₂ : s₂ = (({ U with heap := s₂.heap, slotsUsed := s₂.slotsUsed } : State).setVm s₂.vm).setTop { g with pc := g.pc + len₂, stack := v.toList ++ g.stack } := by
      refine e3.trans ?_
      rw [hf₂, State.calling_eq h.top, State.setFrames_setFrames, State.setTop_of_frames _ hr', hr]
      rfl
    have hsame : U.sameButNew ({ U with heap := s₂.heap, slotsUsed := s₂.slotsUsed } : State) L mc ms := by
      refine ⟨?_, q2, q3, q4, q5, q6⟩
      obtain ⟨t, ht, -⟩ := State.frames_cons hr
      show ({ U with heap := s₂.heap, slotsUsed := s₂.slotsUsed } : State) = { U.setFrames U.frames with heap := s₂.heap, slotsUsed := s₂.slotsUsed }
      rw [State.setFrames_self ht]
    subst hg
    refine Or.inl ⟨v, ⟨(({ U with heap := s₂.heap, slotsUsed := s₂.slotsUsed } : State).setVm s₂.vm), Ls ++ L, c0 + mc, s0 + ms⟩,
      ⟨X.admits, X.cas, X.clock, X.frames, X.room, X.hears, X.method, X.code, (X.here.setHeapUsed s₂.heap s₂.slotsUsed).setVm hW'.alike, X.tail, State.WarmedH.trans X.warmed hW', X.limits, X.bytes, X.same.trans (hsame.setVm s.vm)⟩,
      ⟨g, mk, s₂, L, rfl, rfl, hqc, rfl, hL, rfl, rfl⟩, ?_⟩
    show Steps p.tables e below _ ((({ U with heap := s₂.heap, slotsUsed := s₂.slotsUsed } : State).setVm s₂.vm).setTop { g with pc := g.pc + len₂, stack := v.toList ++ g.stack })
    rw [← hs₂]
    exact hsteps
  · obtain ⟨e2, q2, q3, q4, q5, q6⟩ := id hsm
    have e3 : s₂ = ({ (U.calling g mk a).setFrames s₂.frames with heap := s₂.heap, slotsUsed := s₂.slotsUsed } : State).setVm s₂.vm := by
      have : s₂ = ({ s₂ with vm := (U.calling g mk a).vm } : State).setVm s₂.vm := rfl
      rw [e2] at this
      exact this
    have hf₂ : s₂.frames = .throwing q :: .java g :: U.frames.tail := hend
    have hW' : U.WarmedH s₂.vm := hW₂
    have hs₂ : s₂ = ((({ U with heap := s₂.heap, slotsUsed := s₂.slotsUsed } : State).setVm s₂.vm).setTop g).pushFrame (.throwing q) := by
      refine e3.trans ?_
      rw [hf₂, State.calling_eq h.top, State.setFrames_setFrames, State.pushFrame, State.frames_setTop _ hr', State.setTop_of_frames _ hr', State.setFrames_setFrames, hr]
      rfl
    have hsame : U.sameButNew ({ U with heap := s₂.heap, slotsUsed := s₂.slotsUsed } : State) L mc ms := by
      refine ⟨?_, q2, q3, q4, q5, q6⟩
      obtain ⟨t, ht, -⟩ := State.frames_cons hr
      show ({ U with heap := s₂.heap, slotsUsed := s₂.slotsUsed } : State) = { U.setFrames U.frames with heap := s₂.heap, slotsUsed := s₂.slotsUsed }
      rw [State.setFrames_self ht]
    subst hg
    refine Or.inr ⟨q, ⟨(({ U with heap := s₂.heap, slotsUsed := s₂.slotsUsed } : State).setVm s₂.vm), Ls ++ L, c0 + mc, s0 + ms⟩,
      ⟨X.admits, X.cas, X.clock, X.frames, X.room, X.hears, X.method, X.code, (X.here.setHeapUsed s₂.heap s₂.slotsUsed).setVm hW'.alike, X.tail, State.WarmedH.trans X.warmed hW', X.limits, X.bytes, X.same.trans (hsame.setVm s.vm)⟩,
      ⟨g, mk, s₂, L, E, ce, rfl, rfl, hx, hce, hcv, hcl, rfl, hL, rfl, rfl⟩, ?_⟩
    show Steps p.tables e below _ (((({ U with heap := s₂.heap, slotsUsed := s₂.slotsUsed } : State).setVm s₂.vm).setTop g).pushFrame (.throwing q))
    rw [← hs₂]
    exact hsteps
end
variable {p : Program} {l : Launch} {e : Env} {R : Room} {s : State} {m : MethodId} {args : Array Value} {below : List Frame} {meth : Method} {c : Code} {T : State} {H : Heap} {locs : List Loc} {cells slots : Nat}
theorem vx_callVX (X : Stand p l e R s m args below meth c T locs cells slots) (hexec : p.tables.exec = Jvm.exec) {own C : String} {index : Nat} {y : MethodName} {bytes : ByteArray} {maxL : Nat} {ret : Option FieldType} {hh : List (Nat × Nat × Nat × Nat)}
    (hown : s.vm.findClass own = some m.cls) (hlink : (Cond.methodLink own index y).before args s = true) (hinst : (Cond.instanceMethod y).before args s = true) (hsel : (Cond.selects C y y).before args s = true)
    (hcode : (Cond.codeWith y bytes maxL ret hh).before args s = true) (hy : y.cls ≠ "java/lang/invoke/MethodHandle" ∧ y.cls ≠ "java/lang/invoke/VarHandle")
    {W9 : Nat} {Pre : Pt → Array Value → Prop} {Post : Pt → Array Value → Option Value → Pt → Prop} {PostX : Pt → Array Value → Addr → Pt → Prop} (hK : vx_Back l R p e below s args y 3 W9 Pre Post PostX)
    {b : Addr} {cellB : Cell} (hcell : T.heap[b]? = some cellB) (hobj : cellB.vm.isStatics = false) (hcls : s.vm.findClass C = some cellB.cls)
    {g : JFrame} (hg : g.method = m) (hsize : g.locals.size = c.maxLocals) {argsL rest : List Value} (hlen : ∀ sig, parseMethodDescriptor y.desc = some sig → argsL.length = sig.parameters.length)
    (hstack : g.stack = argsL.reverse ++ .ref b :: rest) (hW : 2 * g.monitorRoom + (rest.map fun v => v.category).sum ≤ W9) (hdg : decode c.code g.pc = .ok (.invokevirtual index, 3))
    (hpre : ∀ vm₁, s.WarmedH vm₁ → Pre ⟨T.setVm vm₁, locs, cells, slots⟩ (Value.ref b :: argsL).toArray) :
    (∃ (v : Option Value) (vm₁ : Vm) (B : Pt), s.WarmedH vm₁ ∧ Stand p l e R s m args below meth c B.U B.locs B.cells B.slots ∧ Post ⟨T.setVm vm₁, locs, cells, slots⟩ (Value.ref b :: argsL).toArray v B ∧
      ∀ target, Steps p.tables e below (B.U.setTop { g with pc := g.pc + 3, stack := v.toList ++ rest }) target → Steps p.tables e below (T.setTop g) target) ∨
    (∃ (q : Addr) (vm₁ : Vm) (B : Pt), s.WarmedH vm₁ ∧ Stand p l e R s m args below meth c B.U B.locs B.cells B.slots ∧ PostX ⟨T.setVm vm₁, locs, cells, slots⟩ (Value.ref b :: argsL).toArray q B ∧
      Steps p.tables e below (T.setTop g) ((B.U.setTop { g with stack := rest }).pushFrame (.throwing q))) := by
  obtain ⟨mk, methM, hnamed, hmethM, hstM, habM⟩ := Cond.instanceMethod_spec hinst
  obtain ⟨m8, methM', cM, hn8, hmethM', -, -, -, -, -, -, hsigM⟩ := Cond.codeWith_spec hcode
  cases Option.some.inj (hn8.symm.trans hnamed)
  cases hmethM.symm.trans hmethM'
  obtain ⟨c2, r2, m2, q1, q2, q3, q4, kP, hkP, hkPi⟩ := Cond.selects_spec hsel
  cases hcls.symm.trans q1
  cases (State.methodFound?_of_named hnamed hy).symm.trans q2
  cases hnamed.symm.trans q3
  have hselP : selectMethod e.platform s.vm cellB.cls mk = .method mk := by rw [Launch.admits_selectMethod X.admits]; exact q4
  obtain ⟨vm₁, X₁, hstep₁⟩ := X.invokevirtual hexec hown hlink hnamed hmethM hstM hkP hkPi hy (a := b) (cell := cellB) hcell
    (fun z h => by rw [h] at hobj; cases hobj) hselP hmethM habM hkP hkPi (g := g) hg (argsL := argsL) (rest := rest) (hlen _ hsigM) hstack hdg
  rcases hK m meth c ⟨T.setVm vm₁, locs, cells, slots⟩ { g with stack := rest } (.invokevirtual index) mk (Value.ref b :: argsL).toArray X₁ hg hsize hdg hW (X₁.named hnamed) (hpre vm₁ X₁.warmed) with ⟨v, B, X', hpost, hsteps⟩ | ⟨q, B, X', hpost, hsteps⟩
  · exact Or.inl ⟨v, vm₁, B, X₁.warmed, X', hpost, fun target h => hstep₁ _ fun acts => by rw [doInvoke_state]; exact hsteps.trans h⟩
  · exact Or.inr ⟨q, vm₁, B, X₁.warmed, X', hpost, hstep₁ _ fun acts => by rw [doInvoke_state]; exact hsteps⟩
theorem vx_callSX (X : Stand p l e R s m args below meth c T locs cells slots) (hexec : p.tables.exec = Jvm.exec) {own : String} {index : Nat} {y : MethodName} {bytes : ByteArray} {maxL : Nat} {ret : Option FieldType} {hh : List (Nat × Nat × Nat × Nat)}
    (hown : s.vm.findClass own = some m.cls) (hlink : (Cond.methodLink own index y).before args s = true) (hstat : (Cond.static y).before args s = true) (hinit : (Cond.initialized y.cls).before args s = true)
    (hcode : (Cond.codeWith y bytes maxL ret hh).before args s = true) (hy : y.cls ≠ "java/lang/invoke/MethodHandle" ∧ y.cls ≠ "java/lang/invoke/VarHandle")
    {W9 : Nat} {Pre : Pt → Array Value → Prop} {Post : Pt → Array Value → Option Value → Pt → Prop} {PostX : Pt → Array Value → Addr → Pt → Prop} (hK : vx_Back l R p e below s args y 3 W9 Pre Post PostX)
    {g : JFrame} (hg : g.method = m) (hsize : g.locals.size = c.maxLocals) {argsL rest : List Value} (hlen : ∀ sig, parseMethodDescriptor y.desc = some sig → argsL.length = sig.parameters.length)
    (hstack : g.stack = argsL.reverse ++ rest) (hW : 2 * g.monitorRoom + (rest.map fun v => v.category).sum ≤ W9) (hdg : decode c.code g.pc = .ok (.invokestatic index, 3))
    (hpre : ∀ vm₁, s.WarmedH vm₁ → Pre ⟨T.setVm vm₁, locs, cells, slots⟩ argsL.toArray) :
    (∃ (v : Option Value) (vm₁ : Vm) (B : Pt), s.WarmedH vm₁ ∧ Stand p l e R s m args below meth c B.U B.locs B.cells B.slots ∧ Post ⟨T.setVm vm₁, locs, cells, slots⟩ argsL.toArray v B ∧
      ∀ target, Steps p.tables e below (B.U.setTop { g with pc := g.pc + 3, stack := v.toList ++ rest }) target → Steps p.tables e below (T.setTop g) target) ∨
    (∃ (q : Addr) (vm₁ : Vm) (B : Pt), s.WarmedH vm₁ ∧ Stand p l e R s m args below meth c B.U B.locs B.cells B.slots ∧ PostX ⟨T.setVm vm₁, locs, cells, slots⟩ argsL.toArray q B ∧
      Steps p.tables e below (T.setTop g) ((B.U.setTop { g with stack := rest }).pushFrame (.throwing q))) := by
  obtain ⟨mk, methM, cM, hnamed, hmethM, -, -, -, -, -, -, hsigM⟩ := Cond.codeWith_spec hcode
  have hstatic : methM.isStatic = true := Cond.static_spec hnamed hmethM hstat
  obtain ⟨kP, hkP, -⟩ := className_of_methodNamed hnamed
  have hinitP : kP.init = .initialized := Cond.initialized_spec (findClass_of_methodNamed hnamed) hkP hinit
  obtain ⟨vm₁, X₁, hstep₁⟩ := X.invokestatic hexec hown hlink hnamed hmethM hstatic hkP hinitP hy (g := g) hg (argsL := argsL) (rest := rest) (hlen _ hsigM) hstack hdg
  rcases hK m meth c ⟨T.setVm vm₁, locs, cells, slots⟩ { g with stack := rest } (.invokestatic index) mk argsL.toArray X₁ hg hsize hdg hW (X₁.named hnamed) (hpre vm₁ X₁.warmed) with ⟨v, B, X', hpost, hsteps⟩ | ⟨q, B, X', hpost, hsteps⟩
  · exact Or.inl ⟨v, vm₁, B, X₁.warmed, X', hpost, fun target h => hstep₁ _ fun acts => by rw [doInvoke_state]; exact hsteps.trans h⟩
  · exact Or.inr ⟨q, vm₁, B, X₁.warmed, X', hpost, hstep₁ _ fun acts => by rw [doInvoke_state]; exact hsteps⟩
theorem vx_callVW (X : Stand p l e R s m args below meth c T locs cells slots) (hexec : p.tables.exec = Jvm.exec) {own C : String} {index : Nat} {y : MethodName} {bytes : ByteArray} {maxL : Nat} {ret : Option FieldType} {hh : List (Nat × Nat × Nat × Nat)}
    (hown : s.vm.findClass own = some m.cls) (hlink : (Cond.methodLink own index y).before args s = true) (hinst : (Cond.instanceMethod y).before args s = true) (hsel : (Cond.selects C y y).before args s = true)
    (hcode : (Cond.codeWith y bytes maxL ret hh).before args s = true) (hy : y.cls ≠ "java/lang/invoke/MethodHandle" ∧ y.cls ≠ "java/lang/invoke/VarHandle")
    {W9 : Nat} {Pre : Pt → Array Value → Prop} {Post : Pt → Array Value → Option Value → Pt → Prop} (hK : Back l R p e below s args y 3 W9 Pre Post)
    {b : Addr} {cellB : Cell} (hcell : T.heap[b]? = some cellB) (hobj : cellB.vm.isStatics = false) (hcls : s.vm.findClass C = some cellB.cls)
    {g : JFrame} (hg : g.method = m) (hsize : g.locals.size = c.maxLocals) {argsL rest : List Value} (hlen : ∀ sig, parseMethodDescriptor y.desc = some sig → argsL.length = sig.parameters.length)
    (hstack : g.stack = argsL.reverse ++ .ref b :: rest) (hW : 2 * g.monitorRoom + (rest.map fun v => v.category).sum ≤ W9) (hdg : decode c.code g.pc = .ok (.invokevirtual index, 3))
    (hpre : ∀ vm₁, s.WarmedH vm₁ → Pre ⟨T.setVm vm₁, locs, cells, slots⟩ (Value.ref b :: argsL).toArray) :
    ∃ (v : Option Value) (vm₁ : Vm) (B : Pt), s.WarmedH vm₁ ∧ Stand p l e R s m args below meth c B.U B.locs B.cells B.slots ∧ Post ⟨T.setVm vm₁, locs, cells, slots⟩ (Value.ref b :: argsL).toArray v B ∧
      ∀ target, Steps p.tables e below (B.U.setTop { g with pc := g.pc + 3, stack := v.toList ++ rest }) target → Steps p.tables e below (T.setTop g) target := by
  obtain ⟨mk, methM, hnamed, hmethM, hstM, habM⟩ := Cond.instanceMethod_spec hinst
  obtain ⟨m8, methM', cM, hn8, hmethM', -, -, -, -, -, -, hsigM⟩ := Cond.codeWith_spec hcode
  cases Option.some.inj (hn8.symm.trans hnamed)
  cases hmethM.symm.trans hmethM'
  obtain ⟨c2, r2, m2, q1, q2, q3, q4, kP, hkP, hkPi⟩ := Cond.selects_spec hsel
  cases hcls.symm.trans q1
  cases (State.methodFound?_of_named hnamed hy).symm.trans q2
  cases hnamed.symm.trans q3
  have hselP : selectMethod e.platform s.vm cellB.cls mk = .method mk := by rw [Launch.admits_selectMethod X.admits]; exact q4
  obtain ⟨vm₁, X₁, hstep₁⟩ := X.invokevirtual hexec hown hlink hnamed hmethM hstM hkP hkPi hy (a := b) (cell := cellB) hcell
    (fun z h => by rw [h] at hobj; cases hobj) hselP hmethM habM hkP hkPi (g := g) hg (argsL := argsL) (rest := rest) (hlen _ hsigM) hstack hdg
  obtain ⟨v, B, X', hpost, hsteps⟩ := hK m meth c ⟨T.setVm vm₁, locs, cells, slots⟩ { g with stack := rest } (.invokevirtual index) mk (Value.ref b :: argsL).toArray X₁ hg hsize hdg hW (X₁.named hnamed) (hpre vm₁ X₁.warmed)
  exact ⟨v, vm₁, B, X₁.warmed, X', hpost, fun target h => hstep₁ _ fun acts => by rw [doInvoke_state]; exact hsteps.trans h⟩
abbrev vx_CVW (R : Room) (s : State) (args : Array Value) (own C : String) (index : Nat) (y : MethodName) (bytes : ByteArray) (maxL : Nat) (ret : Option FieldType) (hh : List (Nat × Nat × Nat × Nat)) (ws : List Cond) (rm : Room) (mc ms n : Nat) : Prop :=
  (rm.cells = mc ∧ rm.slots = ms ∧ rm.frames + 1 ≤ R.frames ∧ 8 + (maxL + 11) + rm.locals ≤ R.locals ∧ (∀ w ∈ ws, ∀ (a' : Array Value) (U : State), s.WarmedH U.vm → w.before a' U = true) ∧ Cond.codeWith y bytes maxL ret hh ∈ ws) ∧
  (Cond.codeWith y bytes maxL ret hh).before args s = true ∧ (Cond.initialized y.cls).before args s = true ∧ (y.cls ≠ "java/lang/invoke/MethodHandle" ∧ y.cls ≠ "java/lang/invoke/VarHandle") ∧
  (∀ sig, parseMethodDescriptor y.desc = some sig → n = sig.parameters.length) ∧ (Cond.methodLink own index y).before args s = true ∧ (Cond.instanceMethod y).before args s = true ∧ (Cond.selects C y y).before args s = true
theorem vx_cwVW {own C : String} {index maxL mc ms : Nat} {y : MethodName} {bytes : ByteArray} {ret : Option FieldType} {hh : List (Nat × Nat × Nat × Nat)} {Ts ws ws' : List Cond} {rm : Room} (n : Nat) (ht : ∀ w ∈ Ts, w.before args s = true) (hT : GoodIn Ts (wsV own index C y ws)) (hw : ws = Cond.codeWith y bytes maxL ret hh :: ws') (hrc : rm.cells = mc) (hrs : rm.slots = ms)
    (hd : y.cls = C ∧ y.cls ≠ "java/lang/invoke/MethodHandle" ∧ y.cls ≠ "java/lang/invoke/VarHandle" ∧ (parseMethodDescriptor y.desc).map (fun d => d.parameters.length) = some n) (hR : rm.frames + 1 ≤ R.frames ∧ 8 + (maxL + 11) + rm.locals ≤ R.locals) :
    vx_CVW R s args own C index y bytes maxL ret hh ws rm mc ms n := by
  obtain ⟨hC, hd⟩ := hd
  subst hC
  have ok : ∀ w ∈ wsV own index y.cls y ws, w.before args s = true := fun w h => ht w (hT w h).1
  have hG : GoodIn Ts ws := fun w h => hT w (by unfold wsV; exact List.mem_append_right _ h)
  have hc : Cond.codeWith y bytes maxL ret hh ∈ ws := by rw [hw]; exact List.mem_cons_self
  refine ⟨⟨hrc, hrs, hR.1, hR.2, pay_in ht hG, hc⟩, ht _ (hG _ hc).1, ok _ (by simp [wsV]), ⟨hd.1, hd.2.1⟩, fun sig h => ?_, ok _ (by simp [wsV]), ok _ (by simp [wsV]), ok _ (by simp [wsV])⟩
  have h2 := hd.2.2
  rw [h] at h2
  exact (Option.some.inj h2).symm
theorem vx_runVW {y : MethodName} {bytes cc : ByteArray} {maxL nL mc ms n index : Nat} {ret : Option FieldType} {hh : List (Nat × Nat × Nat × Nat)} {ws : List Cond} {rm : Room} {Pc : Array Value → State → Prop} {Qc : Array Value → State → Outcome → State → Prop} {free : Addr → Prop} {Ts : List Cond} {own C : String} {b : Addr} {As rest : List Value} {g : JFrame}
    (S : CallFix p m c cc nL s args Ts own) (hM : Met l y ws rm Pc Qc mc ms free) (cw : vx_CVW R s args own C index y bytes maxL ret hh ws rm mc ms n) (hp : PreV s H C b Pc As)
    (hg : g.method = m) (hn : As.length = n) (hsize : g.locals.size = nL) (hstack : g.stack = As.reverse ++ .ref b :: rest) (hW : 2 * g.monitorRoom + (rest.map fun v => v.category).sum ≤ 8) (hdg : decode cc g.pc = .ok (.invokevirtual index, 3)) (hf : cells + mc ≤ R.cells ∧ slots + ms ≤ R.slots) :
    va_Run p l e R s m args below meth c H locs cells slots mc ms g rest (Qc (Value.ref b :: As).toArray) free := by
  obtain ⟨⟨hrc, hrs, hfr, hlo, hws, hcw⟩, hcode, hini, hy, hlen, hl, hin, hse⟩ := cw
  have hK : Back l R p e below s args y 3 8 (PreOf R mc ms Pc) (PostOf Qc mc ms free) := va_backW (hh := hh) (bytes := bytes) (maxL := maxL) (ret := ret) hM hp.1 hrc hrs hfr hlo hws hcw (fun a' U hW => word_at hW (Or.inl (by first | rfl | simp [Cond.onTables, Cond.keeps, Cond.steady])) hini)
  obtain ⟨hx, hb, hml, ho, -⟩ := S
  obtain ⟨-, ⟨cellB, hcB, hoB, hclB⟩, hPc⟩ := hp
  intro T hT X
  obtain ⟨v, vm₁, ⟨U', l2, c2, s2⟩, hW₁, X', ⟨g', mk, t, L, e1, e2, hq, h1, hL, h2, h3⟩, st⟩ := vx_callVW X hx (C := C) (hh := hh) (bytes := bytes) (maxL := maxL) (ret := ret) ho hl hin hse hcode hy hK (by rw [hT]; exact hcB) hoB hclB hg (hsize.trans hml.symm) (argsL := As) (rest := rest) (fun sig h => hn.trans (hlen sig h)) hstack hW (by rw [hb]; exact hdg)
    (fun vm₁ hW₁ => ⟨hf.1, hf.2, hPc (T.setVm vm₁) hT hW₁⟩)
  dsimp only [Pt.U, Pt.locs, Pt.cells, Pt.slots] at X' e1 e2 h1 h2 h3 st
  subst h1; subst h2; subst h3
  exact ⟨v, (T.setVm vm₁).calling g' mk (Value.ref b :: As).toArray, t, U', L, hT, X', hL, e1, e2, hq, st⟩
section
variable {y : MethodName} {bytes cc : ByteArray} {maxL nL mc ms n index : Nat} {ret : Option FieldType} {ws : List Cond} {rm : Room} {Pc : Array Value → State → Prop} {Qc : Array Value → State → Outcome → State → Prop} {XC : String → State → State → Prop} {free : Addr → Prop} {Ts : List Cond} {own C : String} {b : Addr} {As rest : List Value} {g : JFrame}
theorem vx_runVX {hh : List (Nat × Nat × Nat × Nat)} (S : CallFix p m c cc nL s args Ts own) (hM : vx_Met l y ws rm Pc Qc XC mc ms free) (cw : vx_CVW R s args own C index y bytes maxL ret hh ws rm mc ms n) (hp : PreV s H C b Pc As)
    (hg : g.method = m) (hn : As.length = n) (hsize : g.locals.size = nL) (hstack : g.stack = As.reverse ++ .ref b :: rest) (hW : 2 * g.monitorRoom + (rest.map fun v => v.category).sum ≤ 8) (hdg : decode cc g.pc = .ok (.invokevirtual index, 3)) (hf : cells + mc ≤ R.cells ∧ slots + ms ≤ R.slots) :
    vx_Run p l e R s m args below meth c H locs cells slots mc ms g rest (Qc (Value.ref b :: As).toArray) XC free := by
  obtain ⟨⟨hrc, hrs, hfr, hlo, hws, hcw⟩, hcode, hini, hy, hlen, hl, hin, hse⟩ := cw
  have hK : vx_Back l R p e below s args y 3 8 (PreOf R mc ms Pc) (PostOf Qc mc ms free) (vx_Post XC mc ms free) := vx_backW (hh := hh) (bytes := bytes) (maxL := maxL) (ret := ret) hM hp.1 hrc hrs hfr hlo hws hcw (fun a' U hW => word_at hW (Or.inl (by first | rfl | simp [Cond.onTables, Cond.keeps, Cond.steady])) hini)
  obtain ⟨hx, hb, hml, ho, -⟩ := S
  obtain ⟨-, ⟨cellB, hcB, hoB, hclB⟩, hPc⟩ := hp
  intro T hT X
  rcases vx_callVX X hx (C := C) (hh := hh) (bytes := bytes) (maxL := maxL) (ret := ret) ho hl hin hse hcode hy hK (by rw [hT]; exact hcB) hoB hclB hg (hsize.trans hml.symm) (argsL := As) (rest := rest) (fun sig h => hn.trans (hlen sig h)) hstack hW (by rw [hb]; exact hdg)
    (fun vm₁ hW₁ => ⟨hf.1, hf.2, hPc (T.setVm vm₁) hT hW₁⟩) with ⟨v, vm₁, ⟨U', l2, c2, s2⟩, hW₁, X', ⟨g', mk, t, L, e1, e2, hq, h1, hL, h2, h3⟩, st⟩ | ⟨q, vm₁, ⟨U', l2, c2, s2⟩, hW₁, X', ⟨g', mk, t, L, E, ce, e1, e2, hq, hce, hcv, hcl, h1, hL, h2, h3⟩, st⟩
  · dsimp only [Pt.U, Pt.locs, Pt.cells, Pt.slots] at X' e1 e2 h1 h2 h3 st
    subst h1; subst h2; subst h3
    exact Or.inl ⟨v, (T.setVm vm₁).calling g' mk (Value.ref b :: As).toArray, t, U', L, hT, X', hL, e1, e2, hq, st⟩
  · dsimp only [Pt.U, Pt.locs, Pt.cells, Pt.slots] at X' e1 e2 h1 h2 h3 st hcl
    subst h1; subst h2; subst h3
    exact Or.inr ⟨q, (T.setVm vm₁).calling g' mk (Value.ref b :: As).toArray, t, U', L, E, ce, hT, X', hL, e1, e2, hq, hce, hcv, vx_cls hW₁ hcl, st⟩
theorem vx_runSX {hh : List (Nat × Nat × Nat × Nat)} (S : CallFix p m c cc nL s args Ts own) (hM : vx_Met l y ws rm Pc Qc XC mc ms free) (cw : vx_CSW R s args own index y bytes maxL ret hh ws rm mc ms n) (hp : PreS s H Pc As)
    (hg : g.method = m) (hn : As.length = n) (hsize : g.locals.size = nL) (hstack : g.stack = As.reverse ++ rest) (hW : 2 * g.monitorRoom + (rest.map fun v => v.category).sum ≤ 8) (hdg : decode cc g.pc = .ok (.invokestatic index, 3)) (hf : cells + mc ≤ R.cells ∧ slots + ms ≤ R.slots) :
    vx_Run p l e R s m args below meth c H locs cells slots mc ms g rest (Qc As.toArray) XC free := by
  obtain ⟨⟨hrc, hrs, hfr, hlo, hws, hcw⟩, hcode, hini, hy, hlen, hl, hstt⟩ := cw
  have hK : vx_Back l R p e below s args y 3 8 (PreOf R mc ms Pc) (PostOf Qc mc ms free) (vx_Post XC mc ms free) := vx_backW (hh := hh) (bytes := bytes) (maxL := maxL) (ret := ret) hM hp.1 hrc hrs hfr hlo hws hcw (fun a' U hW => word_at hW (Or.inl (by first | rfl | simp [Cond.onTables, Cond.keeps, Cond.steady])) hini)
  obtain ⟨hx, hb, hml, ho, -⟩ := S
  intro T hT X
  rcases vx_callSX X hx (hh := hh) (bytes := bytes) (maxL := maxL) (ret := ret) ho hl hstt hini hcode hy hK hg (hsize.trans hml.symm) (argsL := As) (rest := rest) (fun sig h => hn.trans (hlen sig h)) hstack hW (by rw [hb]; exact hdg)
    (fun vm₁ hW₁ => ⟨hf.1, hf.2, hp.2 (T.setVm vm₁) hT hW₁⟩) with ⟨v, vm₁, ⟨U', l2, c2, s2⟩, hW₁, X', ⟨g', mk, t, L, e1, e2, hq, h1, hL, h2, h3⟩, st⟩ | ⟨q, vm₁, ⟨U', l2, c2, s2⟩, hW₁, X', ⟨g', mk, t, L, E, ce, e1, e2, hq, hce, hcv, hcl, h1, hL, h2, h3⟩, st⟩
  · dsimp only [Pt.U, Pt.locs, Pt.cells, Pt.slots] at X' e1 e2 h1 h2 h3 st
    subst h1; subst h2; subst h3
    exact Or.inl ⟨v, (T.setVm vm₁).calling g' mk As.toArray, t, U', L, hT, X', hL, e1, e2, hq, st⟩
  · dsimp only [Pt.U, Pt.locs, Pt.cells, Pt.slots] at X' e1 e2 h1 h2 h3 st hcl
    subst h1; subst h2; subst h3
    exact Or.inr ⟨q, (T.setVm vm₁).calling g' mk As.toArray, t, U', L, E, ce, hT, X', hL, e1, e2, hq, hce, hcv, vx_cls hW₁ hcl, st⟩
end
end VXH
theorem vx_ofWH {l : Launch} {y : MethodName} {ws ws' : List Cond} {rm : Room} {Pc : Array Value → State → Prop} {Qc : Array Value → State → Outcome → State → Prop} {XC : String → State → State → Prop} {mc ms : Nat} {free : Addr → Prop} {cc : ByteArray} {maxL : Nat} {ret : Option FieldType} {hh : List (Nat × Nat × Nat × Nat)}
    (hy : plainName y.cls = true) (hw : ws = Cond.codeWith y cc maxL ret hh :: ws')
    (body : ∀ p e s m args below meth c s₁, BodyLoose p l y (headSpec ws rm) cc maxL ret e s m args below meth c s₁ → c.maxLocals = maxL → Pc args s →
      W p l e (headSpec ws rm).room s m args below meth c s.heap [] 0 0 (vx_MQ below Qc XC args s mc ms free) (entryFrame m args maxL)) : vx_Met l y ws rm Pc Qc XC mc ms free := by
  refine MetFree.of_bodyS (code := cc) (maxLocals := maxL) (ret := ret) hy ?_ ?_
  · intro args s m h hn
    obtain ⟨m9, meth, c, hn9, h1, h2, h3, h4, -, h5, h6, -⟩ := Cond.codeWith_spec (atoms_spec (ws := ws) h _ (by rw [hw]; exact List.mem_cons_self))
    cases hn.symm.trans hn9
    exact ⟨meth, c, h1, h2, h3, h4, h5, h6⟩
  · intro p e s m args below meth c s₁ B hml hP _
    have hh0 : s₁.heap = s.heap := by rw [B.state]; rfl
    obtain ⟨t, a1, o, b1, b2, b3⟩ := body p e s m args below meth c s₁ B hml hP s₁ hh0 (Stand.of_body B)
    exact ⟨t, o, a1, b1, b2, b3⟩
/-! ===== END ===== -/

/-! ===== BEGIN printed: names, fields, word lists, decode rows ===== -/
def RX0 : String := "ShutterBench$Exposure"
def TX0 : u_T := fun k => match k with
  | 0 => ("ShutterBench$Exposure", "leftAt", "[I", true)
  | 1 => ("ShutterBench$Exposure", "coveredAt", "[I", true)
  | 2 => ("ShutterBench$Exposure", "light", "[I", true)
  | 3 => ("ShutterBench$Exposure", "allLight", "I", false)
  | 4 => ("ShutterBench$Exposure", "leastLight", "I", false)
  | 5 => ("ShutterBench$Exposure", "mostLight", "I", false)
  | 6 => ("ShutterBench$Exposure", "allErrors", "I", false)
  | 7 => ("ShutterBench$Exposure", "worstError", "I", false)
  | 8 => ("ShutterBench$Exposure", "worstColumn", "I", false)
  | _ => ("ShutterBench$Exposure", "darkColumns", "I", false)
def tyX0 : Nat → FieldType := fun k => match k with
  | 0 => .array .int
  | 1 => .array .int
  | 2 => .array .int
  | 3 => .int
  | 4 => .int
  | 5 => .int
  | 6 => .int
  | 7 => .int
  | 8 => .int
  | _ => .int
abbrev wsX00 : List Cond := u_ws RX0 TX0 10
theorem nmX0 : ∀ a, a < 10 → ∀ b, b < 10 → a ≠ b → (TX0 a).2.1 ≠ (TX0 b).2.1 := by decide +kernel
theorem tyX0_ok : ∀ k, k < 10 → parseFieldDescriptor (TX0 k).2.2.1 = some (tyX0 k) := by decide +kernel
abbrev cX0_init : ByteArray := prog_2_method_1_code
def yX0_init : MethodName := ⟨RX0, "<init>", "()V"⟩
abbrev cX0_spread : ByteArray := prog_2_method_2_code
def yX0_spread : MethodName := ⟨RX0, "spread", "()I"⟩
abbrev cX0_expose : ByteArray := prog_2_method_3_code
def yX0_expose : MethodName := ⟨RX0, "expose", "(LShutterBench$Shutter;I)V"⟩
abbrev cX0_runCurtains : ByteArray := prog_2_method_4_code
def yX0_runCurtains : MethodName := ⟨RX0, "runCurtains", "(LShutterBench$Shutter;I)V"⟩
abbrev cX0_openColumns : ByteArray := prog_2_method_5_code
def yX0_openColumns : MethodName := ⟨RX0, "openColumns", "(LShutterBench$Shutter;)V"⟩
abbrev cX0_sumUp : ByteArray := prog_2_method_6_code
def yX0_sumUp : MethodName := ⟨RX0, "sumUp", "(I)V"⟩
def RX1 : String := "ShutterBench$Shutter"
def TX1 : u_T := fun k => match k with
  | 0 => ("ShutterBench$Shutter", "springs", "[I", true)
  | 1 => ("ShutterBench$Shutter", "sinceCleaned", "[I", true)
  | 2 => ("ShutterBench$Shutter", "firstDrags", "[I", true)
  | 3 => ("ShutterBench$Shutter", "secondDrags", "[I", true)
  | 4 => ("ShutterBench$Shutter", "corrections", "[I", true)
  | 5 => ("ShutterBench$Shutter", "settings", "[I", true)
  | 6 => ("ShutterBench$Shutter", "shotsWith", "[I", true)
  | 7 => ("ShutterBench$Shutter", "shots", "I", false)
  | 8 => ("ShutterBench$Shutter", "lastLight", "I", false)
  | _ => ("ShutterBench$Shutter", "greatestSpread", "I", false)
def tyX1 : Nat → FieldType := fun k => match k with
  | 0 => .array .int
  | 1 => .array .int
  | 2 => .array .int
  | 3 => .array .int
  | 4 => .array .int
  | 5 => .array .int
  | 6 => .array .int
  | 7 => .int
  | 8 => .int
  | _ => .int
abbrev wsX10 : List Cond := u_ws RX1 TX1 10
theorem nmX1 : ∀ a, a < 10 → ∀ b, b < 10 → a ≠ b → (TX1 a).2.1 ≠ (TX1 b).2.1 := by decide +kernel
theorem tyX1_ok : ∀ k, k < 10 → parseFieldDescriptor (TX1 k).2.2.1 = some (tyX1 k) := by decide +kernel
abbrev cX1_init : ByteArray := prog_3_method_1_code
def yX1_init : MethodName := ⟨RX1, "<init>", "()V"⟩
abbrev cX1_become : ByteArray := prog_3_method_2_code
def yX1_become : MethodName := ⟨RX1, "become", "(LShutterBench$Shutter;)V"⟩
abbrev cX1_dragsOf : ByteArray := prog_3_method_3_code
def yX1_dragsOf : MethodName := ⟨RX1, "dragsOf", "(I)[I"⟩
abbrev cX1_ticksWithoutDrag : ByteArray := prog_3_method_4_code
def yX1_ticksWithoutDrag : MethodName := ⟨RX1, "ticksWithoutDrag", "(I)I"⟩
abbrev cX1_ticksForAll : ByteArray := prog_3_method_5_code
def yX1_ticksForAll : MethodName := ⟨RX1, "ticksForAll", "(I)I"⟩
abbrev cX1_slowestColumn : ByteArray := prog_3_method_6_code
def yX1_slowestColumn : MethodName := ⟨RX1, "slowestColumn", "(I)I"⟩
abbrev cX1_startOfSecond : ByteArray := prog_3_method_7_code
def yX1_startOfSecond : MethodName := ⟨RX1, "startOfSecond", "(I)I"⟩
abbrev cX1_bounceColumns : ByteArray := prog_3_method_8_code
def yX1_bounceColumns : MethodName := ⟨RX1, "bounceColumns", "()I"⟩
abbrev cX1_tally : ByteArray := prog_3_method_9_code
def yX1_tally : MethodName := ⟨RX1, "tally", "(ILShutterBench$Exposure;)V"⟩
def RX2 : String := "ShutterBench"
def TX2 : u_T := fun k => match k with
  | 0 => ("ShutterBench", "now", "LShutterBench$Shutter;", true)
  | 1 => ("ShutterBench", "probe", "LShutterBench$Shutter;", true)
  | 2 => ("ShutterBench", "exposure", "LShutterBench$Exposure;", true)
  | 3 => ("ShutterBench", "saved", "[LShutterBench$Shutter;", true)
  | 4 => ("ShutterBench", "savedStates", "I", false)
  | 5 => ("ShutterBench", "nextSaved", "I", false)
  | 6 => ("ShutterBench", "buffer", "[I", true)
  | _ => ("ShutterBench", "length", "I", false)
def tyX2 : Nat → FieldType := fun k => match k with
  | 0 => .object "ShutterBench$Shutter"
  | 1 => .object "ShutterBench$Shutter"
  | 2 => .object "ShutterBench$Exposure"
  | 3 => .array (.object "ShutterBench$Shutter")
  | 4 => .int
  | 5 => .int
  | 6 => .array .int
  | _ => .int
abbrev wsX20 : List Cond := u_ws RX2 TX2 8
theorem nmX2 : ∀ a, a < 8 → ∀ b, b < 8 → a ≠ b → (TX2 a).2.1 ≠ (TX2 b).2.1 := by decide +kernel
theorem tyX2_ok : ∀ k, k < 8 → parseFieldDescriptor (TX2 k).2.2.1 = some (tyX2 k) := by decide +kernel
abbrev cX2_init : ByteArray := prog_1_method_1_code
def yX2_init : MethodName := ⟨RX2, "<init>", "()V"⟩
abbrev cX2_wind : ByteArray := prog_1_method_2_code
def yX2_wind : MethodName := ⟨RX2, "wind", "(II)I"⟩
abbrev cX2_drag : ByteArray := prog_1_method_3_code
def yX2_drag : MethodName := ⟨RX2, "drag", "(IIII)I"⟩
abbrev cX2_clean : ByteArray := prog_1_method_4_code
def yX2_clean : MethodName := ⟨RX2, "clean", "(I)I"⟩
abbrev cX2_correct : ByteArray := prog_1_method_5_code
def yX2_correct : MethodName := ⟨RX2, "correct", "(II)I"⟩
abbrev cX2_set : ByteArray := prog_1_method_6_code
def yX2_set : MethodName := ⟨RX2, "set", "(II)I"⟩
abbrev cX2_shoot : ByteArray := prog_1_method_7_code
def yX2_shoot : MethodName := ⟨RX2, "shoot", "(II)I"⟩
abbrev cX2_undo : ByteArray := prog_1_method_12_code
def yX2_undo : MethodName := ⟨RX2, "undo", "()I"⟩
abbrev cX2_curtain : ByteArray := prog_1_method_13_code
def yX2_curtain : MethodName := ⟨RX2, "curtain", "(II)I"⟩
abbrev cX2_column : ByteArray := prog_1_method_14_code
def yX2_column : MethodName := ⟨RX2, "column", "(III)I"⟩
abbrev cX2_speed : ByteArray := prog_1_method_15_code
def yX2_speed : MethodName := ⟨RX2, "speed", "(II)I"⟩
abbrev cX2_count : ByteArray := prog_1_method_16_code
def yX2_count : MethodName := ⟨RX2, "count", "(I)I"⟩
abbrev cX2_setting : ByteArray := prog_1_method_17_code
def yX2_setting : MethodName := ⟨RX2, "setting", "(I)I"⟩
abbrev cX2_ifShot : ByteArray := prog_1_method_20_code
def yX2_ifShot : MethodName := ⟨RX2, "ifShot", "(III)I"⟩
abbrev cX2_goodFor : ByteArray := prog_1_method_21_code
def yX2_goodFor : MethodName := ⟨RX2, "goodFor", "(II)I"⟩
abbrev cX2_evenness : ByteArray := prog_1_method_22_code
def yX2_evenness : MethodName := ⟨RX2, "evenness", "(I)D"⟩
abbrev cX2_fire : ByteArray := prog_1_method_29_code
def yX2_fire : MethodName := ⟨RX2, "fire", "(LShutterBench$Shutter;II)V"⟩
abbrev cX2_savedAt : ByteArray := prog_1_method_30_code
def yX2_savedAt : MethodName := ⟨RX2, "savedAt", "(I)LShutterBench$Shutter;"⟩
abbrev cX2_saveState : ByteArray := prog_1_method_31_code
def yX2_saveState : MethodName := ⟨RX2, "saveState", "()V"⟩
abbrev cX2_needCurtain : ByteArray := prog_1_method_40_code
def yX2_needCurtain : MethodName := ⟨RX2, "needCurtain", "(I)V"⟩
abbrev cX2_needSpeed : ByteArray := prog_1_method_41_code
def yX2_needSpeed : MethodName := ⟨RX2, "needSpeed", "(I)V"⟩
abbrev cX2_needSetting : ByteArray := prog_1_method_42_code
def yX2_needSetting : MethodName := ⟨RX2, "needSetting", "(I)V"⟩
abbrev cX2_needIndex : ByteArray := prog_1_method_43_code
def yX2_needIndex : MethodName := ⟨RX2, "needIndex", "(II)V"⟩
abbrev cX2_needRange : ByteArray := prog_1_method_44_code
def yX2_needRange : MethodName := ⟨RX2, "needRange", "(III)V"⟩
abbrev cX2_leastValue : ByteArray := prog_1_method_45_code
def yX2_leastValue : MethodName := ⟨RX2, "leastValue", "(I)I"⟩
abbrev cX2_mostValue : ByteArray := prog_1_method_46_code
def yX2_mostValue : MethodName := ⟨RX2, "mostValue", "(I)I"⟩
abbrev cX2_wantedLight : ByteArray := prog_1_method_47_code
def yX2_wantedLight : MethodName := ⟨RX2, "wantedLight", "(I)I"⟩
abbrev cX2_at : ByteArray := prog_1_method_48_code
def yX2_at : MethodName := ⟨RX2, "at", "([II)I"⟩
abbrev cX2_put : ByteArray := prog_1_method_49_code
def yX2_put : MethodName := ⟨RX2, "put", "([III)V"⟩
abbrev cX2_copyRow : ByteArray := prog_1_method_50_code
def yX2_copyRow : MethodName := ⟨RX2, "copyRow", "([I[I)V"⟩
def RX3 : String := "ShutterBenchModel"
def TX3 : u_T := fun k => match k with
  | _ => ("", "", "", false)
def tyX3 : Nat → FieldType := fun k => match k with
  | _ => .int
abbrev wsX30 : List Cond := u_ws RX3 TX3 0
theorem nmX3 : ∀ a, a < 0 → ∀ b, b < 0 → a ≠ b → (TX3 a).2.1 ≠ (TX3 b).2.1 := by decide +kernel
theorem tyX3_ok : ∀ k, k < 0 → parseFieldDescriptor (TX3 k).2.2.1 = some (tyX3 k) := by decide +kernel
def RJ9 : String := "java/lang/Math"
def TJ9 : u_T := fun k => match k with
  | _ => ("", "", "", false)
def tyJ9 : Nat → FieldType := fun k => match k with
  | _ => .int
abbrev wsJ90 : List Cond := u_ws RJ9 TJ9 0
theorem nmJ9 : ∀ a, a < 0 → ∀ b, b < 0 → a ≠ b → (TJ9 a).2.1 ≠ (TJ9 b).2.1 := by decide +kernel
theorem tyJ9_ok : ∀ k, k < 0 → parseFieldDescriptor (TJ9 k).2.2.1 = some (tyJ9 k) := by decide +kernel
abbrev cJ9_abs_0f7a4 : ByteArray := prog_10_method_59_code
def yJ9_abs_0f7a4 : MethodName := ⟨RJ9, "abs", "(I)I"⟩
abbrev cJ9_max_7cf53 : ByteArray := prog_10_method_65_code
def yJ9_max_7cf53 : MethodName := ⟨RJ9, "max", "(II)I"⟩
abbrev cJ9_min_7cf53 : ByteArray := prog_10_method_69_code
def yJ9_min_7cf53 : MethodName := ⟨RJ9, "min", "(II)I"⟩
def RJ0 : String := "java/lang/String"
def TJ0 : u_T := fun k => match k with
  | _ => ("", "", "", false)
def tyJ0 : Nat → FieldType := fun k => match k with
  | _ => .int
abbrev wsJ00 : List Cond := u_ws RJ0 TJ0 0
theorem nmJ0 : ∀ a, a < 0 → ∀ b, b < 0 → a ≠ b → (TJ0 a).2.1 ≠ (TJ0 b).2.1 := by decide +kernel
theorem tyJ0_ok : ∀ k, k < 0 → parseFieldDescriptor (TJ0 k).2.2.1 = some (tyJ0 k) := by decide +kernel
def RL : String := "ShutterBenchLaw"
abbrev cL_low : ByteArray := method_2_code
def yL_low : MethodName := ⟨RL, "low", "(II)I"⟩
abbrev cL_cell : ByteArray := method_3_code
def yL_cell : MethodName := ⟨RL, "cell", "([II)I"⟩
abbrev cL_size : ByteArray := method_4_code
def yL_size : MethodName := ⟨RL, "size", "(I)I"⟩
abbrev cL_undo : ByteArray := method_5_code
def yL_undo : MethodName := ⟨RL, "undo", "(LShutterBench;)I"⟩
abbrev cL_light : ByteArray := method_6_code
def yL_light : MethodName := ⟨RL, "light", "(LShutterBench;I)Z"⟩
abbrev cL_act : ByteArray := method_7_code
def yL_act : MethodName := ⟨RL, "act", "(LShutterBench;[II)I"⟩
abbrev cL_law : ByteArray := code
def yL_law : MethodName := ⟨RL, "law", "([I)Z"⟩
def wsL_law0_r1 : List Cond := [Cond.classLink RL 10 RX2, Cond.instantiable RX2 8, Cond.initialized RX2, Cond.methodLink RL 74 yX2_init, Cond.instanceMethod yX2_init, Cond.code yX2_init cX2_init 2 none, Cond.methodLink RX2 1 objectInit, Cond.instanceMethod objectInit, Cond.code objectInit ⟨#[0xb1]⟩ 1 none, Cond.classLink RX2 7 RX1, Cond.instantiable RX1 10, Cond.initialized RX1, Cond.fieldLink RX2 10 "ShutterBench" "now" "LShutterBench$Shutter;", Cond.fieldLink RX2 16 "ShutterBench" "probe" "LShutterBench$Shutter;", Cond.classLink RX2 19 RX0, Cond.instantiable RX0 10, Cond.initialized RX0, Cond.fieldLink RX2 22 "ShutterBench" "exposure" "LShutterBench$Exposure;", Cond.fieldLink RX2 26 "ShutterBench" "saved" "[LShutterBench$Shutter;", Cond.fieldLink RX2 30 "ShutterBench" "savedStates" "I", Cond.fieldLink RX2 34 "ShutterBench" "nextSaved" "I", Cond.arrayClass .int, Cond.fieldLink RX2 37 "ShutterBench" "buffer" "[I", Cond.fieldLink RX2 41 "ShutterBench" "length" "I"]
def wsL_law0_r2 : List Cond := [Cond.methodLink RX2 9 yX1_init, Cond.instanceMethod yX1_init, Cond.code yX1_init cX1_init 1 none, Cond.methodLink RX1 3 objectInit, Cond.fieldLink RX1 9 "ShutterBench$Shutter" "springs" "[I", Cond.fieldLink RX1 15 "ShutterBench$Shutter" "sinceCleaned" "[I", Cond.fieldLink RX1 18 "ShutterBench$Shutter" "firstDrags" "[I", Cond.fieldLink RX1 21 "ShutterBench$Shutter" "secondDrags" "[I", Cond.fieldLink RX1 24 "ShutterBench$Shutter" "corrections" "[I", Cond.fieldLink RX1 27 "ShutterBench$Shutter" "settings" "[I", Cond.fieldLink RX1 30 "ShutterBench$Shutter" "shotsWith" "[I", Cond.fieldLink RX1 33 "ShutterBench$Shutter" "shots" "I", Cond.fieldLink RX1 37 "ShutterBench$Shutter" "lastLight" "I", Cond.fieldLink RX1 40 "ShutterBench$Shutter" "greatestSpread" "I", Cond.methodLink RX2 21 yX0_init, Cond.instanceMethod yX0_init, Cond.code yX0_init cX0_init 1 none, Cond.methodLink RX0 3 objectInit, Cond.fieldLink RX0 9 "ShutterBench$Exposure" "leftAt" "[I", Cond.fieldLink RX0 15 "ShutterBench$Exposure" "coveredAt" "[I", Cond.fieldLink RX0 18 "ShutterBench$Exposure" "light" "[I", Cond.methodLink RL 18 yX2_count, Cond.instanceMethod yX2_count, Cond.selects RX2 yX2_count yX2_count]
def wsL_law0_r3 : List Cond := [Cond.code yX2_count cX2_count 2 (some .int), Cond.fieldLink RX2 182 "ShutterBench$Shutter" "shots" "I", Cond.fieldLink RX2 185 "ShutterBench$Shutter" "lastLight" "I", Cond.fieldLink RX2 191 "ShutterBench$Shutter" "greatestSpread" "I", Cond.methodLink RX2 48 yX2_needRange, Cond.static yX2_needRange, Cond.code yX2_needRange cX2_needRange 3 none, Cond.classLink RX2 115 "java/lang/IllegalArgumentException", Cond.initialized "java/lang/IllegalArgumentException", Cond.methodLink RX2 188 yX1_bounceColumns, Cond.instanceMethod yX1_bounceColumns, Cond.selects RX1 yX1_bounceColumns yX1_bounceColumns, Cond.code yX1_bounceColumns cX1_bounceColumns 2 (some .int), Cond.methodLink RX1 68 Lib.Math.min.name, Cond.static Lib.Math.min.name, Cond.initialized "java/lang/Math", Cond.code Lib.Math.min.name Lib.Math.min.code 2 (some .int), Cond.static yX2_at, Cond.code yX2_at cX2_at 2 (some .int), Cond.methodLink RL 45 yL_cell, Cond.static yL_cell, Cond.initialized RL, Cond.code yL_cell cL_cell 2 (some .int), Cond.constant RL 8 (40503)]
def wsL_law0_r4 : List Cond := [Cond.methodLink RL 49 yL_low, Cond.static yL_low, Cond.code yL_low cL_low 2 (some .int), Cond.constant RL 7 (2147483647), Cond.methodLink RL 75 yX2_ifShot, Cond.instanceMethod yX2_ifShot, Cond.selects RX2 yX2_ifShot yX2_ifShot, Cond.code yX2_ifShot cX2_ifShot 4 (some .int), Cond.fieldLink RX2 55 "ShutterBench$Shutter" "springs" "[I", Cond.fieldLink RX2 170 "ShutterBench$Exposure" "worstError" "I", Cond.methodLink RX2 73 yX2_needSpeed, Cond.static yX2_needSpeed, Cond.code yX2_needSpeed cX2_needSpeed 1 none, Cond.methodLink RX2 139 yX2_needIndex, Cond.static yX2_needIndex, Cond.code yX2_needIndex cX2_needIndex 2 none, Cond.classLink RX2 287 "java/lang/IndexOutOfBoundsException", Cond.initialized "java/lang/IndexOutOfBoundsException", Cond.methodLink RX2 129 yX1_become, Cond.instanceMethod yX1_become, Cond.selects RX1 yX1_become yX1_become, Cond.code yX1_become cX1_become 2 none, Cond.static yX2_copyRow, Cond.code yX2_copyRow cX2_copyRow 3 none]
def wsL_law0_r5 : List Cond := [Cond.methodLink RX2 92 yX2_fire, Cond.instanceMethod yX2_fire, Cond.selects RX2 yX2_fire yX2_fire, Cond.code yX2_fire cX2_fire 5 none, Cond.methodLink RX2 143 yX0_expose, Cond.instanceMethod yX0_expose, Cond.selects RX0 yX0_expose yX0_expose, Cond.code yX0_expose cX0_expose 3 none, Cond.methodLink RX0 28 yX0_runCurtains, Cond.instanceMethod yX0_runCurtains, Cond.selects RX0 yX0_runCurtains yX0_runCurtains, Cond.code yX0_runCurtains cX0_runCurtains 8 none, Cond.fieldLink RX0 52 "ShutterBench$Shutter" "firstDrags" "[I", Cond.fieldLink RX0 59 "ShutterBench$Shutter" "secondDrags" "[I", Cond.methodLink RX0 62 Lib.Math.max.name, Cond.static Lib.Math.max.name, Cond.code Lib.Math.max.name Lib.Math.max.code 2 (some .int), Cond.methodLink RX0 44 yX1_ticksWithoutDrag, Cond.instanceMethod yX1_ticksWithoutDrag, Cond.selects RX1 yX1_ticksWithoutDrag yX1_ticksWithoutDrag, Cond.code yX1_ticksWithoutDrag cX1_ticksWithoutDrag 4 (some .int), Cond.methodLink RX0 49 yX1_startOfSecond, Cond.instanceMethod yX1_startOfSecond, Cond.selects RX1 yX1_startOfSecond yX1_startOfSecond]
def wsL_law0_r6 : List Cond := [Cond.code yX1_startOfSecond cX1_startOfSecond 2 (some .int), Cond.methodLink RX1 62 Lib.Math.max.name, Cond.static yX2_wantedLight, Cond.code yX2_wantedLight cX2_wantedLight 1 (some .int), Cond.methodLink RX0 32 yX0_openColumns, Cond.instanceMethod yX0_openColumns, Cond.selects RX0 yX0_openColumns yX0_openColumns, Cond.code yX0_openColumns cX0_openColumns 9 none, Cond.fieldLink RX0 68 "ShutterBench$Shutter" "settings" "[I", Cond.methodLink RX0 75 Lib.Math.min.name, Cond.methodLink RX0 71 yX1_bounceColumns, Cond.methodLink RX0 40 yX0_sumUp, Cond.instanceMethod yX0_sumUp, Cond.selects RX0 yX0_sumUp yX0_sumUp, Cond.code yX0_sumUp cX0_sumUp 4 none, Cond.fieldLink RX0 78 "ShutterBench$Exposure" "allLight" "I", Cond.fieldLink RX0 25 "ShutterBench$Exposure" "leastLight" "I", Cond.fieldLink RX0 21 "ShutterBench$Exposure" "mostLight" "I", Cond.fieldLink RX0 81 "ShutterBench$Exposure" "allErrors" "I", Cond.fieldLink RX0 84 "ShutterBench$Exposure" "worstError" "I", Cond.fieldLink RX0 87 "ShutterBench$Exposure" "worstColumn" "I", Cond.fieldLink RX0 90 "ShutterBench$Exposure" "darkColumns" "I", Cond.methodLink RX0 93 Lib.Math.abs.name, Cond.static Lib.Math.abs.name]
def wsL_law0_r7 : List Cond := [Cond.code Lib.Math.abs.name Lib.Math.abs.code 1 (some .int), Cond.methodLink RX2 197 yX1_tally, Cond.instanceMethod yX1_tally, Cond.selects RX1 yX1_tally yX1_tally, Cond.code yX1_tally cX1_tally 6 none, Cond.fieldLink RX1 75 "ShutterBench$Exposure" "allLight" "I", Cond.static yX2_put, Cond.code yX2_put cX2_put 3 none, Cond.methodLink RX1 80 yX0_spread, Cond.instanceMethod yX0_spread, Cond.selects RX0 yX0_spread yX0_spread, Cond.code yX0_spread cX0_spread 1 (some .int), Cond.methodLink RX2 96 yX0_spread, Cond.methodLink RX2 58 yX2_at, Cond.methodLink RL 22 yX2_curtain, Cond.instanceMethod yX2_curtain, Cond.selects RX2 yX2_curtain yX2_curtain, Cond.code yX2_curtain cX2_curtain 3 (some .int), Cond.fieldLink RX2 70 "ShutterBench$Shutter" "sinceCleaned" "[I", Cond.methodLink RX2 44 yX2_needCurtain, Cond.static yX2_needCurtain, Cond.code yX2_needCurtain cX2_needCurtain 1 none, Cond.methodLink RX2 133 yX1_ticksForAll, Cond.instanceMethod yX1_ticksForAll]
def wsL_law0_r8 : List Cond := [Cond.selects RX1 yX1_ticksForAll yX1_ticksForAll, Cond.code yX1_ticksForAll cX1_ticksForAll 5 (some .int), Cond.methodLink RX1 51 yX1_dragsOf, Cond.instanceMethod yX1_dragsOf, Cond.selects RX1 yX1_dragsOf yX1_dragsOf, Cond.code yX1_dragsOf cX1_dragsOf 2 (some (.array .int)), Cond.methodLink RX1 55 yX1_ticksWithoutDrag, Cond.methodLink RX2 136 yX1_slowestColumn, Cond.instanceMethod yX1_slowestColumn, Cond.selects RX1 yX1_slowestColumn yX1_slowestColumn, Cond.code yX1_slowestColumn cX1_slowestColumn 5 (some .int), Cond.methodLink RL 78 yX2_goodFor, Cond.instanceMethod yX2_goodFor, Cond.selects RX2 yX2_goodFor yX2_goodFor, Cond.code yX2_goodFor cX2_goodFor 4 (some .int), Cond.methodLink RL 33 yX2_speed, Cond.instanceMethod yX2_speed, Cond.selects RX2 yX2_speed yX2_speed, Cond.code yX2_speed cX2_speed 3 (some .int), Cond.fieldLink RX2 76 "ShutterBench$Shutter" "corrections" "[I", Cond.fieldLink RX2 167 "ShutterBench$Exposure" "allLight" "I", Cond.fieldLink RX2 173 "ShutterBench$Exposure" "worstColumn" "I", Cond.fieldLink RX2 176 "ShutterBench$Exposure" "darkColumns" "I", Cond.fieldLink RX2 179 "ShutterBench$Shutter" "shotsWith" "[I"]
def wsL_law0_r9 : List Cond := [Cond.methodLink RX2 156 yX2_wantedLight, Cond.methodLink RX2 164 yX1_startOfSecond, Cond.methodLink RL 81 yL_act, Cond.static yL_act, Cond.code yL_act cL_act 7 (some .int), Cond.methodLink RL 52 yX2_wind, Cond.instanceMethod yX2_wind, Cond.selects RX2 yX2_wind yX2_wind, Cond.code yX2_wind cX2_wind 4 (some .int), Cond.methodLink RX2 52 yX2_saveState, Cond.instanceMethod yX2_saveState, Cond.selects RX2 yX2_saveState yX2_saveState, Cond.code yX2_saveState cX2_saveState 2 none, Cond.methodLink RX2 268 Lib.Math.min.name, Cond.methodLink RX2 125 yX2_savedAt, Cond.instanceMethod yX2_savedAt, Cond.selects RX2 yX2_savedAt yX2_savedAt, Cond.code yX2_savedAt cX2_savedAt 2 (some (.object "ShutterBench$Shutter")), Cond.methodLink RX2 62 yX2_put, Cond.methodLink RL 55 yX2_drag, Cond.instanceMethod yX2_drag, Cond.selects RX2 yX2_drag yX2_drag, Cond.code yX2_drag cX2_drag 8 (some .int), Cond.methodLink RX2 66 yX1_dragsOf]
def wsL_law0_r10 : List Cond := [Cond.methodLink RL 59 yX2_clean, Cond.instanceMethod yX2_clean, Cond.selects RX2 yX2_clean yX2_clean, Cond.code yX2_clean cX2_clean 3 (some .int), Cond.methodLink RL 62 yX2_correct, Cond.instanceMethod yX2_correct, Cond.selects RX2 yX2_correct yX2_correct, Cond.code yX2_correct cX2_correct 4 (some .int), Cond.methodLink RL 65 yX2_set, Cond.instanceMethod yX2_set, Cond.selects RX2 yX2_set yX2_set, Cond.code yX2_set cX2_set 4 (some .int), Cond.fieldLink RX2 89 "ShutterBench$Shutter" "settings" "[I", Cond.methodLink RX2 79 yX2_needSetting, Cond.static yX2_needSetting, Cond.code yX2_needSetting cX2_needSetting 1 none, Cond.methodLink RX2 82 yX2_leastValue, Cond.static yX2_leastValue, Cond.code yX2_leastValue cX2_leastValue 1 (some .int), Cond.methodLink RX2 86 yX2_mostValue, Cond.static yX2_mostValue, Cond.code yX2_mostValue cX2_mostValue 1 (some .int), Cond.methodLink RL 68 yX2_shoot, Cond.instanceMethod yX2_shoot]
def wsL_law0_r11 : List Cond := [Cond.selects RX2 yX2_shoot yX2_shoot, Cond.code yX2_shoot cX2_shoot 3 (some .int), Cond.methodLink RL 71 yL_undo, Cond.static yL_undo, Cond.codeWith yL_undo cL_undo 2 (some .int) [(0, 4, 5, 15)], Cond.classLink RL 15 "java/lang/IllegalStateException", Cond.methodLink RL 9 yX2_undo, Cond.instanceMethod yX2_undo, Cond.selects RX2 yX2_undo yX2_undo, Cond.code yX2_undo cX2_undo 2 (some .int), Cond.classLink RX2 100 "java/lang/IllegalStateException", Cond.initialized "java/lang/IllegalStateException", Cond.methodLink RL 85 yL_light, Cond.static yL_light, Cond.code yL_light cL_light 13 (some .boolean), Cond.constant RL 17 (100000), Cond.methodLink RL 26 yX2_setting, Cond.instanceMethod yX2_setting, Cond.selects RX2 yX2_setting yX2_setting, Cond.code yX2_setting cX2_setting 2 (some .int), Cond.methodLink RL 29 yX2_column, Cond.instanceMethod yX2_column, Cond.selects RX2 yX2_column yX2_column, Cond.code yX2_column cX2_column 4 (some .int)]
def wsL_law0_r12 : List Cond := [Cond.fieldLink RX2 147 "ShutterBench$Exposure" "leftAt" "[I", Cond.fieldLink RX2 150 "ShutterBench$Exposure" "coveredAt" "[I", Cond.fieldLink RX2 153 "ShutterBench$Exposure" "light" "[I", Cond.methodLink RX2 159 Lib.Math.abs.name, Cond.methodLink RL 36 yL_size, Cond.static yL_size, Cond.code yL_size cL_size 1 (some .int), Cond.methodLink RL 41 yX2_evenness, Cond.instanceMethod yX2_evenness, Cond.selects RX2 yX2_evenness yX2_evenness, Cond.code yX2_evenness cX2_evenness 2 (some .double), Cond.fieldLink RX2 201 "ShutterBench$Exposure" "mostLight" "I", Cond.fieldLink RX2 204 "ShutterBench$Exposure" "leastLight" "I"]
def wsL_law0 : List Cond := (wsL_law0_r1 ++ (wsL_law0_r2 ++ (wsL_law0_r3 ++ (wsL_law0_r4 ++ (wsL_law0_r5 ++ (wsL_law0_r6 ++ (wsL_law0_r7 ++ (wsL_law0_r8 ++ (wsL_law0_r9 ++ (wsL_law0_r10 ++ (wsL_law0_r11 ++ wsL_law0_r12))))))))))) ++ wsX20 ++ wsX10 ++ wsX00 ++ ([] : List Cond)
def wsL_law : List Cond := wsL_law0 ++ (vx_atS RX2 119 "java/lang/IllegalArgumentException" ["java/lang/RuntimeException", "java/lang/Exception"]).filter goodWord ++ (vx_atS RX2 291 "java/lang/IndexOutOfBoundsException" ["java/lang/RuntimeException", "java/lang/Exception"]).filter goodWord ++ (vx_atS RX2 104 "java/lang/IllegalStateException" ["java/lang/RuntimeException", "java/lang/Exception"]).filter goodWord
theorem inlX0 : ∀ w ∈ wsX00, w ∈ wsL_law := fun _ h => List.mem_append_left _ (List.mem_append_left _ (List.mem_append_left _ (List.mem_append_left _ (List.mem_append_right _ h))))
theorem inlX1 : ∀ w ∈ wsX10, w ∈ wsL_law := fun _ h => List.mem_append_left _ (List.mem_append_left _ (List.mem_append_left _ (List.mem_append_left _ (List.mem_append_left _ (List.mem_append_right _ h)))))
theorem inlX2 : ∀ w ∈ wsX20, w ∈ wsL_law := fun _ h => List.mem_append_left _ (List.mem_append_left _ (List.mem_append_left _ (List.mem_append_left _ (List.mem_append_left _ (List.mem_append_left _ (List.mem_append_right _ h))))))
abbrev vwCl : List vw_C := [(RX0, TX0, 10), (RX1, TX1, 10), (RX2, TX2, 8)]
end
section
/-! every method's words: its own code's, then all that the law's walk has -/
abbrev BIG : List Cond := wsL_law
theorem big_good : BIG.all goodWord = true := by decide +kernel
theorem gB {w0 w1 : Cond} (h1 : w1 ∈ BIG) : GoodIn (w0 :: BIG) (w1 :: BIG) := fun w h => by
  have h2 : w ∈ BIG := by
    rcases List.mem_cons.mp h with e | h
    · rw [e]; exact h1
    · exact h
  exact ⟨List.mem_cons_of_mem _ h2, good_of_word (List.all_eq_true.mp big_good w h2)⟩
theorem gBs {w0 : Cond} {ws : List Cond} (h : ∀ w ∈ ws, w ∈ BIG) : GoodIn (w0 :: BIG) ws := fun w h1 => ⟨List.mem_cons_of_mem _ (h w h1), good_of_word (List.all_eq_true.mp big_good w (h w h1))⟩
theorem gBS {w0 w1 : Cond} {own : String} {idx : Nat} {y : MethodName} (h1 : Cond.methodLink own idx y ∈ BIG) (h2 : Cond.static y ∈ BIG) (h3 : Cond.initialized y.cls ∈ BIG) (h4 : w1 ∈ BIG) : GoodIn (w0 :: BIG) (va_wsS own idx y (w1 :: BIG)) := by
  refine goodIn_app (gBs (fun w h => ?_)) (gB h4)
  rcases List.mem_cons.mp h with rfl | h
  · exact h1
  rcases List.mem_cons.mp h with rfl | h
  · exact h2
  rcases List.mem_cons.mp h with rfl | h
  · exact h3
  · cases h
theorem gBV {w0 w1 : Cond} {own C : String} {idx : Nat} {y : MethodName} (h1 : Cond.methodLink own idx y ∈ BIG) (h2 : Cond.instanceMethod y ∈ BIG) (h3 : Cond.selects C y y ∈ BIG) (h4 : Cond.initialized C ∈ BIG) (h5 : w1 ∈ BIG) : GoodIn (w0 :: BIG) (wsV own idx C y (w1 :: BIG)) := by
  refine goodIn_app (gBs (fun w h => ?_)) (gB h5)
  rcases List.mem_cons.mp h with rfl | h
  · exact h1
  rcases List.mem_cons.mp h with rfl | h
  · exact h2
  rcases List.mem_cons.mp h with rfl | h
  · exact h3
  rcases List.mem_cons.mp h with rfl | h
  · exact h4
  · cases h
theorem kw0 : Cond.classLink RL 10 RX2 ∈ wsL_law := List.mem_of_getElem? (i := 0) (by decide +kernel)
theorem kw1 : Cond.instantiable RX2 8 ∈ wsL_law := List.mem_of_getElem? (i := 1) (by decide +kernel)
theorem kw2 : Cond.initialized RX2 ∈ wsL_law := List.mem_of_getElem? (i := 2) (by decide +kernel)
theorem kw3 : Cond.methodLink RL 74 yX2_init ∈ wsL_law := List.mem_of_getElem? (i := 3) (by decide +kernel)
theorem kw4 : Cond.instanceMethod yX2_init ∈ wsL_law := List.mem_of_getElem? (i := 4) (by decide +kernel)
theorem kw5 : Cond.code yX2_init cX2_init 2 none ∈ wsL_law := List.mem_of_getElem? (i := 5) (by decide +kernel)
theorem kw6 : Cond.methodLink RX2 1 objectInit ∈ wsL_law := List.mem_of_getElem? (i := 6) (by decide +kernel)
theorem kw7 : Cond.instanceMethod objectInit ∈ wsL_law := List.mem_of_getElem? (i := 7) (by decide +kernel)
theorem kw8 : Cond.code objectInit ⟨#[0xb1]⟩ 1 none ∈ wsL_law := List.mem_of_getElem? (i := 8) (by decide +kernel)
theorem kw9 : Cond.classLink RX2 7 RX1 ∈ wsL_law := List.mem_of_getElem? (i := 9) (by decide +kernel)
theorem kw10 : Cond.instantiable RX1 10 ∈ wsL_law := List.mem_of_getElem? (i := 10) (by decide +kernel)
theorem kw11 : Cond.initialized RX1 ∈ wsL_law := List.mem_of_getElem? (i := 11) (by decide +kernel)
theorem kw12 : Cond.fieldLink RX2 10 "ShutterBench" "now" "LShutterBench$Shutter;" ∈ wsL_law := List.mem_of_getElem? (i := 12) (by decide +kernel)
theorem kw13 : Cond.fieldLink RX2 16 "ShutterBench" "probe" "LShutterBench$Shutter;" ∈ wsL_law := List.mem_of_getElem? (i := 13) (by decide +kernel)
theorem kw14 : Cond.classLink RX2 19 RX0 ∈ wsL_law := List.mem_of_getElem? (i := 14) (by decide +kernel)
theorem kw15 : Cond.instantiable RX0 10 ∈ wsL_law := List.mem_of_getElem? (i := 15) (by decide +kernel)
theorem kw16 : Cond.initialized RX0 ∈ wsL_law := List.mem_of_getElem? (i := 16) (by decide +kernel)
theorem kw17 : Cond.fieldLink RX2 22 "ShutterBench" "exposure" "LShutterBench$Exposure;" ∈ wsL_law := List.mem_of_getElem? (i := 17) (by decide +kernel)
theorem kw18 : Cond.fieldLink RX2 26 "ShutterBench" "saved" "[LShutterBench$Shutter;" ∈ wsL_law := List.mem_of_getElem? (i := 18) (by decide +kernel)
theorem kw19 : Cond.fieldLink RX2 30 "ShutterBench" "savedStates" "I" ∈ wsL_law := List.mem_of_getElem? (i := 19) (by decide +kernel)
theorem kw20 : Cond.fieldLink RX2 34 "ShutterBench" "nextSaved" "I" ∈ wsL_law := List.mem_of_getElem? (i := 20) (by decide +kernel)
theorem kw21 : Cond.arrayClass .int ∈ wsL_law := List.mem_of_getElem? (i := 21) (by decide +kernel)
theorem kw22 : Cond.fieldLink RX2 37 "ShutterBench" "buffer" "[I" ∈ wsL_law := List.mem_of_getElem? (i := 22) (by decide +kernel)
theorem kw23 : Cond.fieldLink RX2 41 "ShutterBench" "length" "I" ∈ wsL_law := List.mem_of_getElem? (i := 23) (by decide +kernel)
theorem kw24 : Cond.methodLink RX2 9 yX1_init ∈ wsL_law := List.mem_of_getElem? (i := 24) (by decide +kernel)
theorem kw25 : Cond.instanceMethod yX1_init ∈ wsL_law := List.mem_of_getElem? (i := 25) (by decide +kernel)
theorem kw26 : Cond.code yX1_init cX1_init 1 none ∈ wsL_law := List.mem_of_getElem? (i := 26) (by decide +kernel)
theorem kw27 : Cond.methodLink RX1 3 objectInit ∈ wsL_law := List.mem_of_getElem? (i := 27) (by decide +kernel)
theorem kw28 : Cond.fieldLink RX1 9 "ShutterBench$Shutter" "springs" "[I" ∈ wsL_law := List.mem_of_getElem? (i := 28) (by decide +kernel)
theorem kw29 : Cond.fieldLink RX1 15 "ShutterBench$Shutter" "sinceCleaned" "[I" ∈ wsL_law := List.mem_of_getElem? (i := 29) (by decide +kernel)
theorem kw30 : Cond.fieldLink RX1 18 "ShutterBench$Shutter" "firstDrags" "[I" ∈ wsL_law := List.mem_of_getElem? (i := 30) (by decide +kernel)
theorem kw31 : Cond.fieldLink RX1 21 "ShutterBench$Shutter" "secondDrags" "[I" ∈ wsL_law := List.mem_of_getElem? (i := 31) (by decide +kernel)
theorem kw32 : Cond.fieldLink RX1 24 "ShutterBench$Shutter" "corrections" "[I" ∈ wsL_law := List.mem_of_getElem? (i := 32) (by decide +kernel)
theorem kw33 : Cond.fieldLink RX1 27 "ShutterBench$Shutter" "settings" "[I" ∈ wsL_law := List.mem_of_getElem? (i := 33) (by decide +kernel)
theorem kw34 : Cond.fieldLink RX1 30 "ShutterBench$Shutter" "shotsWith" "[I" ∈ wsL_law := List.mem_of_getElem? (i := 34) (by decide +kernel)
theorem kw35 : Cond.fieldLink RX1 33 "ShutterBench$Shutter" "shots" "I" ∈ wsL_law := List.mem_of_getElem? (i := 35) (by decide +kernel)
theorem kw36 : Cond.fieldLink RX1 37 "ShutterBench$Shutter" "lastLight" "I" ∈ wsL_law := List.mem_of_getElem? (i := 36) (by decide +kernel)
theorem kw37 : Cond.fieldLink RX1 40 "ShutterBench$Shutter" "greatestSpread" "I" ∈ wsL_law := List.mem_of_getElem? (i := 37) (by decide +kernel)
theorem kw38 : Cond.methodLink RX2 21 yX0_init ∈ wsL_law := List.mem_of_getElem? (i := 38) (by decide +kernel)
theorem kw39 : Cond.instanceMethod yX0_init ∈ wsL_law := List.mem_of_getElem? (i := 39) (by decide +kernel)
theorem kw40 : Cond.code yX0_init cX0_init 1 none ∈ wsL_law := List.mem_of_getElem? (i := 40) (by decide +kernel)
theorem kw41 : Cond.methodLink RX0 3 objectInit ∈ wsL_law := List.mem_of_getElem? (i := 41) (by decide +kernel)
theorem kw42 : Cond.fieldLink RX0 9 "ShutterBench$Exposure" "leftAt" "[I" ∈ wsL_law := List.mem_of_getElem? (i := 42) (by decide +kernel)
theorem kw43 : Cond.fieldLink RX0 15 "ShutterBench$Exposure" "coveredAt" "[I" ∈ wsL_law := List.mem_of_getElem? (i := 43) (by decide +kernel)
theorem kw44 : Cond.fieldLink RX0 18 "ShutterBench$Exposure" "light" "[I" ∈ wsL_law := List.mem_of_getElem? (i := 44) (by decide +kernel)
theorem kw45 : Cond.methodLink RL 18 yX2_count ∈ wsL_law := List.mem_of_getElem? (i := 45) (by decide +kernel)
theorem kw46 : Cond.instanceMethod yX2_count ∈ wsL_law := List.mem_of_getElem? (i := 46) (by decide +kernel)
theorem kw47 : Cond.selects RX2 yX2_count yX2_count ∈ wsL_law := List.mem_of_getElem? (i := 47) (by decide +kernel)
theorem kw48 : Cond.code yX2_count cX2_count 2 (some .int) ∈ wsL_law := List.mem_of_getElem? (i := 48) (by decide +kernel)
theorem kw49 : Cond.fieldLink RX2 182 "ShutterBench$Shutter" "shots" "I" ∈ wsL_law := List.mem_of_getElem? (i := 49) (by decide +kernel)
theorem kw50 : Cond.fieldLink RX2 185 "ShutterBench$Shutter" "lastLight" "I" ∈ wsL_law := List.mem_of_getElem? (i := 50) (by decide +kernel)
theorem kw51 : Cond.fieldLink RX2 191 "ShutterBench$Shutter" "greatestSpread" "I" ∈ wsL_law := List.mem_of_getElem? (i := 51) (by decide +kernel)
theorem kw52 : Cond.methodLink RX2 48 yX2_needRange ∈ wsL_law := List.mem_of_getElem? (i := 52) (by decide +kernel)
theorem kw53 : Cond.static yX2_needRange ∈ wsL_law := List.mem_of_getElem? (i := 53) (by decide +kernel)
theorem kw54 : Cond.code yX2_needRange cX2_needRange 3 none ∈ wsL_law := List.mem_of_getElem? (i := 54) (by decide +kernel)
theorem kw55 : Cond.classLink RX2 115 "java/lang/IllegalArgumentException" ∈ wsL_law := List.mem_of_getElem? (i := 55) (by decide +kernel)
theorem kw56 : Cond.initialized "java/lang/IllegalArgumentException" ∈ wsL_law := List.mem_of_getElem? (i := 56) (by decide +kernel)
theorem kw57 : Cond.methodLink RX2 188 yX1_bounceColumns ∈ wsL_law := List.mem_of_getElem? (i := 57) (by decide +kernel)
theorem kw58 : Cond.instanceMethod yX1_bounceColumns ∈ wsL_law := List.mem_of_getElem? (i := 58) (by decide +kernel)
theorem kw59 : Cond.selects RX1 yX1_bounceColumns yX1_bounceColumns ∈ wsL_law := List.mem_of_getElem? (i := 59) (by decide +kernel)
theorem kw60 : Cond.code yX1_bounceColumns cX1_bounceColumns 2 (some .int) ∈ wsL_law := List.mem_of_getElem? (i := 60) (by decide +kernel)
theorem kw61 : Cond.methodLink RX1 68 Lib.Math.min.name ∈ wsL_law := List.mem_of_getElem? (i := 61) (by decide +kernel)
theorem kw62 : Cond.static Lib.Math.min.name ∈ wsL_law := List.mem_of_getElem? (i := 62) (by decide +kernel)
theorem kw63 : Cond.initialized "java/lang/Math" ∈ wsL_law := List.mem_of_getElem? (i := 63) (by decide +kernel)
theorem kw64 : Cond.code Lib.Math.min.name Lib.Math.min.code 2 (some .int) ∈ wsL_law := List.mem_of_getElem? (i := 64) (by decide +kernel)
theorem kw65 : Cond.static yX2_at ∈ wsL_law := List.mem_of_getElem? (i := 65) (by decide +kernel)
theorem kw66 : Cond.code yX2_at cX2_at 2 (some .int) ∈ wsL_law := List.mem_of_getElem? (i := 66) (by decide +kernel)
theorem kw67 : Cond.methodLink RL 45 yL_cell ∈ wsL_law := List.mem_of_getElem? (i := 67) (by decide +kernel)
theorem kw68 : Cond.static yL_cell ∈ wsL_law := List.mem_of_getElem? (i := 68) (by decide +kernel)
theorem kw69 : Cond.initialized RL ∈ wsL_law := List.mem_of_getElem? (i := 69) (by decide +kernel)
theorem kw70 : Cond.code yL_cell cL_cell 2 (some .int) ∈ wsL_law := List.mem_of_getElem? (i := 70) (by decide +kernel)
theorem kw71 : Cond.constant RL 8 (40503) ∈ wsL_law := List.mem_of_getElem? (i := 71) (by decide +kernel)
theorem kw72 : Cond.methodLink RL 49 yL_low ∈ wsL_law := List.mem_of_getElem? (i := 72) (by decide +kernel)
theorem kw73 : Cond.static yL_low ∈ wsL_law := List.mem_of_getElem? (i := 73) (by decide +kernel)
theorem kw74 : Cond.code yL_low cL_low 2 (some .int) ∈ wsL_law := List.mem_of_getElem? (i := 74) (by decide +kernel)
theorem kw75 : Cond.constant RL 7 (2147483647) ∈ wsL_law := List.mem_of_getElem? (i := 75) (by decide +kernel)
theorem kw76 : Cond.methodLink RL 75 yX2_ifShot ∈ wsL_law := List.mem_of_getElem? (i := 76) (by decide +kernel)
theorem kw77 : Cond.instanceMethod yX2_ifShot ∈ wsL_law := List.mem_of_getElem? (i := 77) (by decide +kernel)
theorem kw78 : Cond.selects RX2 yX2_ifShot yX2_ifShot ∈ wsL_law := List.mem_of_getElem? (i := 78) (by decide +kernel)
theorem kw79 : Cond.code yX2_ifShot cX2_ifShot 4 (some .int) ∈ wsL_law := List.mem_of_getElem? (i := 79) (by decide +kernel)
theorem kw80 : Cond.fieldLink RX2 55 "ShutterBench$Shutter" "springs" "[I" ∈ wsL_law := List.mem_of_getElem? (i := 80) (by decide +kernel)
theorem kw81 : Cond.fieldLink RX2 170 "ShutterBench$Exposure" "worstError" "I" ∈ wsL_law := List.mem_of_getElem? (i := 81) (by decide +kernel)
theorem kw82 : Cond.methodLink RX2 73 yX2_needSpeed ∈ wsL_law := List.mem_of_getElem? (i := 82) (by decide +kernel)
theorem kw83 : Cond.static yX2_needSpeed ∈ wsL_law := List.mem_of_getElem? (i := 83) (by decide +kernel)
theorem kw84 : Cond.code yX2_needSpeed cX2_needSpeed 1 none ∈ wsL_law := List.mem_of_getElem? (i := 84) (by decide +kernel)
theorem kw85 : Cond.methodLink RX2 139 yX2_needIndex ∈ wsL_law := List.mem_of_getElem? (i := 85) (by decide +kernel)
theorem kw86 : Cond.static yX2_needIndex ∈ wsL_law := List.mem_of_getElem? (i := 86) (by decide +kernel)
theorem kw87 : Cond.code yX2_needIndex cX2_needIndex 2 none ∈ wsL_law := List.mem_of_getElem? (i := 87) (by decide +kernel)
theorem kw88 : Cond.classLink RX2 287 "java/lang/IndexOutOfBoundsException" ∈ wsL_law := List.mem_of_getElem? (i := 88) (by decide +kernel)
theorem kw89 : Cond.initialized "java/lang/IndexOutOfBoundsException" ∈ wsL_law := List.mem_of_getElem? (i := 89) (by decide +kernel)
theorem kw90 : Cond.methodLink RX2 129 yX1_become ∈ wsL_law := List.mem_of_getElem? (i := 90) (by decide +kernel)
theorem kw91 : Cond.instanceMethod yX1_become ∈ wsL_law := List.mem_of_getElem? (i := 91) (by decide +kernel)
theorem kw92 : Cond.selects RX1 yX1_become yX1_become ∈ wsL_law := List.mem_of_getElem? (i := 92) (by decide +kernel)
theorem kw93 : Cond.code yX1_become cX1_become 2 none ∈ wsL_law := List.mem_of_getElem? (i := 93) (by decide +kernel)
theorem kw94 : Cond.static yX2_copyRow ∈ wsL_law := List.mem_of_getElem? (i := 94) (by decide +kernel)
theorem kw95 : Cond.code yX2_copyRow cX2_copyRow 3 none ∈ wsL_law := List.mem_of_getElem? (i := 95) (by decide +kernel)
theorem kw96 : Cond.methodLink RX2 92 yX2_fire ∈ wsL_law := List.mem_of_getElem? (i := 96) (by decide +kernel)
theorem kw97 : Cond.instanceMethod yX2_fire ∈ wsL_law := List.mem_of_getElem? (i := 97) (by decide +kernel)
theorem kw98 : Cond.selects RX2 yX2_fire yX2_fire ∈ wsL_law := List.mem_of_getElem? (i := 98) (by decide +kernel)
theorem kw99 : Cond.code yX2_fire cX2_fire 5 none ∈ wsL_law := List.mem_of_getElem? (i := 99) (by decide +kernel)
theorem kw100 : Cond.methodLink RX2 143 yX0_expose ∈ wsL_law := List.mem_of_getElem? (i := 100) (by decide +kernel)
theorem kw101 : Cond.instanceMethod yX0_expose ∈ wsL_law := List.mem_of_getElem? (i := 101) (by decide +kernel)
theorem kw102 : Cond.selects RX0 yX0_expose yX0_expose ∈ wsL_law := List.mem_of_getElem? (i := 102) (by decide +kernel)
theorem kw103 : Cond.code yX0_expose cX0_expose 3 none ∈ wsL_law := List.mem_of_getElem? (i := 103) (by decide +kernel)
theorem kw104 : Cond.methodLink RX0 28 yX0_runCurtains ∈ wsL_law := List.mem_of_getElem? (i := 104) (by decide +kernel)
theorem kw105 : Cond.instanceMethod yX0_runCurtains ∈ wsL_law := List.mem_of_getElem? (i := 105) (by decide +kernel)
theorem kw106 : Cond.selects RX0 yX0_runCurtains yX0_runCurtains ∈ wsL_law := List.mem_of_getElem? (i := 106) (by decide +kernel)
theorem kw107 : Cond.code yX0_runCurtains cX0_runCurtains 8 none ∈ wsL_law := List.mem_of_getElem? (i := 107) (by decide +kernel)
theorem kw108 : Cond.fieldLink RX0 52 "ShutterBench$Shutter" "firstDrags" "[I" ∈ wsL_law := List.mem_of_getElem? (i := 108) (by decide +kernel)
theorem kw109 : Cond.fieldLink RX0 59 "ShutterBench$Shutter" "secondDrags" "[I" ∈ wsL_law := List.mem_of_getElem? (i := 109) (by decide +kernel)
theorem kw110 : Cond.methodLink RX0 62 Lib.Math.max.name ∈ wsL_law := List.mem_of_getElem? (i := 110) (by decide +kernel)
theorem kw111 : Cond.static Lib.Math.max.name ∈ wsL_law := List.mem_of_getElem? (i := 111) (by decide +kernel)
theorem kw112 : Cond.code Lib.Math.max.name Lib.Math.max.code 2 (some .int) ∈ wsL_law := List.mem_of_getElem? (i := 112) (by decide +kernel)
theorem kw113 : Cond.methodLink RX0 44 yX1_ticksWithoutDrag ∈ wsL_law := List.mem_of_getElem? (i := 113) (by decide +kernel)
theorem kw114 : Cond.instanceMethod yX1_ticksWithoutDrag ∈ wsL_law := List.mem_of_getElem? (i := 114) (by decide +kernel)
theorem kw115 : Cond.selects RX1 yX1_ticksWithoutDrag yX1_ticksWithoutDrag ∈ wsL_law := List.mem_of_getElem? (i := 115) (by decide +kernel)
theorem kw116 : Cond.code yX1_ticksWithoutDrag cX1_ticksWithoutDrag 4 (some .int) ∈ wsL_law := List.mem_of_getElem? (i := 116) (by decide +kernel)
theorem kw117 : Cond.methodLink RX0 49 yX1_startOfSecond ∈ wsL_law := List.mem_of_getElem? (i := 117) (by decide +kernel)
theorem kw118 : Cond.instanceMethod yX1_startOfSecond ∈ wsL_law := List.mem_of_getElem? (i := 118) (by decide +kernel)
theorem kw119 : Cond.selects RX1 yX1_startOfSecond yX1_startOfSecond ∈ wsL_law := List.mem_of_getElem? (i := 119) (by decide +kernel)
theorem kw120 : Cond.code yX1_startOfSecond cX1_startOfSecond 2 (some .int) ∈ wsL_law := List.mem_of_getElem? (i := 120) (by decide +kernel)
theorem kw121 : Cond.methodLink RX1 62 Lib.Math.max.name ∈ wsL_law := List.mem_of_getElem? (i := 121) (by decide +kernel)
theorem kw122 : Cond.static yX2_wantedLight ∈ wsL_law := List.mem_of_getElem? (i := 122) (by decide +kernel)
theorem kw123 : Cond.code yX2_wantedLight cX2_wantedLight 1 (some .int) ∈ wsL_law := List.mem_of_getElem? (i := 123) (by decide +kernel)
theorem kw124 : Cond.methodLink RX0 32 yX0_openColumns ∈ wsL_law := List.mem_of_getElem? (i := 124) (by decide +kernel)
theorem kw125 : Cond.instanceMethod yX0_openColumns ∈ wsL_law := List.mem_of_getElem? (i := 125) (by decide +kernel)
theorem kw126 : Cond.selects RX0 yX0_openColumns yX0_openColumns ∈ wsL_law := List.mem_of_getElem? (i := 126) (by decide +kernel)
theorem kw127 : Cond.code yX0_openColumns cX0_openColumns 9 none ∈ wsL_law := List.mem_of_getElem? (i := 127) (by decide +kernel)
theorem kw128 : Cond.fieldLink RX0 68 "ShutterBench$Shutter" "settings" "[I" ∈ wsL_law := List.mem_of_getElem? (i := 128) (by decide +kernel)
theorem kw129 : Cond.methodLink RX0 75 Lib.Math.min.name ∈ wsL_law := List.mem_of_getElem? (i := 129) (by decide +kernel)
theorem kw130 : Cond.methodLink RX0 71 yX1_bounceColumns ∈ wsL_law := List.mem_of_getElem? (i := 130) (by decide +kernel)
theorem kw131 : Cond.methodLink RX0 40 yX0_sumUp ∈ wsL_law := List.mem_of_getElem? (i := 131) (by decide +kernel)
theorem kw132 : Cond.instanceMethod yX0_sumUp ∈ wsL_law := List.mem_of_getElem? (i := 132) (by decide +kernel)
theorem kw133 : Cond.selects RX0 yX0_sumUp yX0_sumUp ∈ wsL_law := List.mem_of_getElem? (i := 133) (by decide +kernel)
theorem kw134 : Cond.code yX0_sumUp cX0_sumUp 4 none ∈ wsL_law := List.mem_of_getElem? (i := 134) (by decide +kernel)
theorem kw135 : Cond.fieldLink RX0 78 "ShutterBench$Exposure" "allLight" "I" ∈ wsL_law := List.mem_of_getElem? (i := 135) (by decide +kernel)
theorem kw136 : Cond.fieldLink RX0 25 "ShutterBench$Exposure" "leastLight" "I" ∈ wsL_law := List.mem_of_getElem? (i := 136) (by decide +kernel)
theorem kw137 : Cond.fieldLink RX0 21 "ShutterBench$Exposure" "mostLight" "I" ∈ wsL_law := List.mem_of_getElem? (i := 137) (by decide +kernel)
theorem kw138 : Cond.fieldLink RX0 81 "ShutterBench$Exposure" "allErrors" "I" ∈ wsL_law := List.mem_of_getElem? (i := 138) (by decide +kernel)
theorem kw139 : Cond.fieldLink RX0 84 "ShutterBench$Exposure" "worstError" "I" ∈ wsL_law := List.mem_of_getElem? (i := 139) (by decide +kernel)
theorem kw140 : Cond.fieldLink RX0 87 "ShutterBench$Exposure" "worstColumn" "I" ∈ wsL_law := List.mem_of_getElem? (i := 140) (by decide +kernel)
theorem kw141 : Cond.fieldLink RX0 90 "ShutterBench$Exposure" "darkColumns" "I" ∈ wsL_law := List.mem_of_getElem? (i := 141) (by decide +kernel)
theorem kw142 : Cond.methodLink RX0 93 Lib.Math.abs.name ∈ wsL_law := List.mem_of_getElem? (i := 142) (by decide +kernel)
theorem kw143 : Cond.static Lib.Math.abs.name ∈ wsL_law := List.mem_of_getElem? (i := 143) (by decide +kernel)
theorem kw144 : Cond.code Lib.Math.abs.name Lib.Math.abs.code 1 (some .int) ∈ wsL_law := List.mem_of_getElem? (i := 144) (by decide +kernel)
theorem kw145 : Cond.methodLink RX2 197 yX1_tally ∈ wsL_law := List.mem_of_getElem? (i := 145) (by decide +kernel)
theorem kw146 : Cond.instanceMethod yX1_tally ∈ wsL_law := List.mem_of_getElem? (i := 146) (by decide +kernel)
theorem kw147 : Cond.selects RX1 yX1_tally yX1_tally ∈ wsL_law := List.mem_of_getElem? (i := 147) (by decide +kernel)
theorem kw148 : Cond.code yX1_tally cX1_tally 6 none ∈ wsL_law := List.mem_of_getElem? (i := 148) (by decide +kernel)
theorem kw149 : Cond.fieldLink RX1 75 "ShutterBench$Exposure" "allLight" "I" ∈ wsL_law := List.mem_of_getElem? (i := 149) (by decide +kernel)
theorem kw150 : Cond.static yX2_put ∈ wsL_law := List.mem_of_getElem? (i := 150) (by decide +kernel)
theorem kw151 : Cond.code yX2_put cX2_put 3 none ∈ wsL_law := List.mem_of_getElem? (i := 151) (by decide +kernel)
theorem kw152 : Cond.methodLink RX1 80 yX0_spread ∈ wsL_law := List.mem_of_getElem? (i := 152) (by decide +kernel)
theorem kw153 : Cond.instanceMethod yX0_spread ∈ wsL_law := List.mem_of_getElem? (i := 153) (by decide +kernel)
theorem kw154 : Cond.selects RX0 yX0_spread yX0_spread ∈ wsL_law := List.mem_of_getElem? (i := 154) (by decide +kernel)
theorem kw155 : Cond.code yX0_spread cX0_spread 1 (some .int) ∈ wsL_law := List.mem_of_getElem? (i := 155) (by decide +kernel)
theorem kw156 : Cond.methodLink RX2 96 yX0_spread ∈ wsL_law := List.mem_of_getElem? (i := 156) (by decide +kernel)
theorem kw157 : Cond.methodLink RX2 58 yX2_at ∈ wsL_law := List.mem_of_getElem? (i := 157) (by decide +kernel)
theorem kw158 : Cond.methodLink RL 22 yX2_curtain ∈ wsL_law := List.mem_of_getElem? (i := 158) (by decide +kernel)
theorem kw159 : Cond.instanceMethod yX2_curtain ∈ wsL_law := List.mem_of_getElem? (i := 159) (by decide +kernel)
theorem kw160 : Cond.selects RX2 yX2_curtain yX2_curtain ∈ wsL_law := List.mem_of_getElem? (i := 160) (by decide +kernel)
theorem kw161 : Cond.code yX2_curtain cX2_curtain 3 (some .int) ∈ wsL_law := List.mem_of_getElem? (i := 161) (by decide +kernel)
theorem kw162 : Cond.fieldLink RX2 70 "ShutterBench$Shutter" "sinceCleaned" "[I" ∈ wsL_law := List.mem_of_getElem? (i := 162) (by decide +kernel)
theorem kw163 : Cond.methodLink RX2 44 yX2_needCurtain ∈ wsL_law := List.mem_of_getElem? (i := 163) (by decide +kernel)
theorem kw164 : Cond.static yX2_needCurtain ∈ wsL_law := List.mem_of_getElem? (i := 164) (by decide +kernel)
theorem kw165 : Cond.code yX2_needCurtain cX2_needCurtain 1 none ∈ wsL_law := List.mem_of_getElem? (i := 165) (by decide +kernel)
theorem kw166 : Cond.methodLink RX2 133 yX1_ticksForAll ∈ wsL_law := List.mem_of_getElem? (i := 166) (by decide +kernel)
theorem kw167 : Cond.instanceMethod yX1_ticksForAll ∈ wsL_law := List.mem_of_getElem? (i := 167) (by decide +kernel)
theorem kw168 : Cond.selects RX1 yX1_ticksForAll yX1_ticksForAll ∈ wsL_law := List.mem_of_getElem? (i := 168) (by decide +kernel)
theorem kw169 : Cond.code yX1_ticksForAll cX1_ticksForAll 5 (some .int) ∈ wsL_law := List.mem_of_getElem? (i := 169) (by decide +kernel)
theorem kw170 : Cond.methodLink RX1 51 yX1_dragsOf ∈ wsL_law := List.mem_of_getElem? (i := 170) (by decide +kernel)
theorem kw171 : Cond.instanceMethod yX1_dragsOf ∈ wsL_law := List.mem_of_getElem? (i := 171) (by decide +kernel)
theorem kw172 : Cond.selects RX1 yX1_dragsOf yX1_dragsOf ∈ wsL_law := List.mem_of_getElem? (i := 172) (by decide +kernel)
theorem kw173 : Cond.code yX1_dragsOf cX1_dragsOf 2 (some (.array .int)) ∈ wsL_law := List.mem_of_getElem? (i := 173) (by decide +kernel)
theorem kw174 : Cond.methodLink RX1 55 yX1_ticksWithoutDrag ∈ wsL_law := List.mem_of_getElem? (i := 174) (by decide +kernel)
theorem kw175 : Cond.methodLink RX2 136 yX1_slowestColumn ∈ wsL_law := List.mem_of_getElem? (i := 175) (by decide +kernel)
theorem kw176 : Cond.instanceMethod yX1_slowestColumn ∈ wsL_law := List.mem_of_getElem? (i := 176) (by decide +kernel)
theorem kw177 : Cond.selects RX1 yX1_slowestColumn yX1_slowestColumn ∈ wsL_law := List.mem_of_getElem? (i := 177) (by decide +kernel)
theorem kw178 : Cond.code yX1_slowestColumn cX1_slowestColumn 5 (some .int) ∈ wsL_law := List.mem_of_getElem? (i := 178) (by decide +kernel)
theorem kw179 : Cond.methodLink RL 78 yX2_goodFor ∈ wsL_law := List.mem_of_getElem? (i := 179) (by decide +kernel)
theorem kw180 : Cond.instanceMethod yX2_goodFor ∈ wsL_law := List.mem_of_getElem? (i := 180) (by decide +kernel)
theorem kw181 : Cond.selects RX2 yX2_goodFor yX2_goodFor ∈ wsL_law := List.mem_of_getElem? (i := 181) (by decide +kernel)
theorem kw182 : Cond.code yX2_goodFor cX2_goodFor 4 (some .int) ∈ wsL_law := List.mem_of_getElem? (i := 182) (by decide +kernel)
theorem kw183 : Cond.methodLink RL 33 yX2_speed ∈ wsL_law := List.mem_of_getElem? (i := 183) (by decide +kernel)
theorem kw184 : Cond.instanceMethod yX2_speed ∈ wsL_law := List.mem_of_getElem? (i := 184) (by decide +kernel)
theorem kw185 : Cond.selects RX2 yX2_speed yX2_speed ∈ wsL_law := List.mem_of_getElem? (i := 185) (by decide +kernel)
theorem kw186 : Cond.code yX2_speed cX2_speed 3 (some .int) ∈ wsL_law := List.mem_of_getElem? (i := 186) (by decide +kernel)
theorem kw187 : Cond.fieldLink RX2 76 "ShutterBench$Shutter" "corrections" "[I" ∈ wsL_law := List.mem_of_getElem? (i := 187) (by decide +kernel)
theorem kw188 : Cond.fieldLink RX2 167 "ShutterBench$Exposure" "allLight" "I" ∈ wsL_law := List.mem_of_getElem? (i := 188) (by decide +kernel)
theorem kw189 : Cond.fieldLink RX2 173 "ShutterBench$Exposure" "worstColumn" "I" ∈ wsL_law := List.mem_of_getElem? (i := 189) (by decide +kernel)
theorem kw190 : Cond.fieldLink RX2 176 "ShutterBench$Exposure" "darkColumns" "I" ∈ wsL_law := List.mem_of_getElem? (i := 190) (by decide +kernel)
theorem kw191 : Cond.fieldLink RX2 179 "ShutterBench$Shutter" "shotsWith" "[I" ∈ wsL_law := List.mem_of_getElem? (i := 191) (by decide +kernel)
theorem kw192 : Cond.methodLink RX2 156 yX2_wantedLight ∈ wsL_law := List.mem_of_getElem? (i := 192) (by decide +kernel)
theorem kw193 : Cond.methodLink RX2 164 yX1_startOfSecond ∈ wsL_law := List.mem_of_getElem? (i := 193) (by decide +kernel)
theorem kw194 : Cond.methodLink RL 81 yL_act ∈ wsL_law := List.mem_of_getElem? (i := 194) (by decide +kernel)
theorem kw195 : Cond.static yL_act ∈ wsL_law := List.mem_of_getElem? (i := 195) (by decide +kernel)
theorem kw196 : Cond.code yL_act cL_act 7 (some .int) ∈ wsL_law := List.mem_of_getElem? (i := 196) (by decide +kernel)
theorem kw197 : Cond.methodLink RL 52 yX2_wind ∈ wsL_law := List.mem_of_getElem? (i := 197) (by decide +kernel)
theorem kw198 : Cond.instanceMethod yX2_wind ∈ wsL_law := List.mem_of_getElem? (i := 198) (by decide +kernel)
theorem kw199 : Cond.selects RX2 yX2_wind yX2_wind ∈ wsL_law := List.mem_of_getElem? (i := 199) (by decide +kernel)
theorem kw200 : Cond.code yX2_wind cX2_wind 4 (some .int) ∈ wsL_law := List.mem_of_getElem? (i := 200) (by decide +kernel)
theorem kw201 : Cond.methodLink RX2 52 yX2_saveState ∈ wsL_law := List.mem_of_getElem? (i := 201) (by decide +kernel)
theorem kw202 : Cond.instanceMethod yX2_saveState ∈ wsL_law := List.mem_of_getElem? (i := 202) (by decide +kernel)
theorem kw203 : Cond.selects RX2 yX2_saveState yX2_saveState ∈ wsL_law := List.mem_of_getElem? (i := 203) (by decide +kernel)
theorem kw204 : Cond.code yX2_saveState cX2_saveState 2 none ∈ wsL_law := List.mem_of_getElem? (i := 204) (by decide +kernel)
theorem kw205 : Cond.methodLink RX2 268 Lib.Math.min.name ∈ wsL_law := List.mem_of_getElem? (i := 205) (by decide +kernel)
theorem kw206 : Cond.methodLink RX2 125 yX2_savedAt ∈ wsL_law := List.mem_of_getElem? (i := 206) (by decide +kernel)
theorem kw207 : Cond.instanceMethod yX2_savedAt ∈ wsL_law := List.mem_of_getElem? (i := 207) (by decide +kernel)
theorem kw208 : Cond.selects RX2 yX2_savedAt yX2_savedAt ∈ wsL_law := List.mem_of_getElem? (i := 208) (by decide +kernel)
theorem kw209 : Cond.code yX2_savedAt cX2_savedAt 2 (some (.object "ShutterBench$Shutter")) ∈ wsL_law := List.mem_of_getElem? (i := 209) (by decide +kernel)
theorem kw210 : Cond.methodLink RX2 62 yX2_put ∈ wsL_law := List.mem_of_getElem? (i := 210) (by decide +kernel)
theorem kw211 : Cond.methodLink RL 55 yX2_drag ∈ wsL_law := List.mem_of_getElem? (i := 211) (by decide +kernel)
theorem kw212 : Cond.instanceMethod yX2_drag ∈ wsL_law := List.mem_of_getElem? (i := 212) (by decide +kernel)
theorem kw213 : Cond.selects RX2 yX2_drag yX2_drag ∈ wsL_law := List.mem_of_getElem? (i := 213) (by decide +kernel)
theorem kw214 : Cond.code yX2_drag cX2_drag 8 (some .int) ∈ wsL_law := List.mem_of_getElem? (i := 214) (by decide +kernel)
theorem kw215 : Cond.methodLink RX2 66 yX1_dragsOf ∈ wsL_law := List.mem_of_getElem? (i := 215) (by decide +kernel)
theorem kw216 : Cond.methodLink RL 59 yX2_clean ∈ wsL_law := List.mem_of_getElem? (i := 216) (by decide +kernel)
theorem kw217 : Cond.instanceMethod yX2_clean ∈ wsL_law := List.mem_of_getElem? (i := 217) (by decide +kernel)
theorem kw218 : Cond.selects RX2 yX2_clean yX2_clean ∈ wsL_law := List.mem_of_getElem? (i := 218) (by decide +kernel)
theorem kw219 : Cond.code yX2_clean cX2_clean 3 (some .int) ∈ wsL_law := List.mem_of_getElem? (i := 219) (by decide +kernel)
theorem kw220 : Cond.methodLink RL 62 yX2_correct ∈ wsL_law := List.mem_of_getElem? (i := 220) (by decide +kernel)
theorem kw221 : Cond.instanceMethod yX2_correct ∈ wsL_law := List.mem_of_getElem? (i := 221) (by decide +kernel)
theorem kw222 : Cond.selects RX2 yX2_correct yX2_correct ∈ wsL_law := List.mem_of_getElem? (i := 222) (by decide +kernel)
theorem kw223 : Cond.code yX2_correct cX2_correct 4 (some .int) ∈ wsL_law := List.mem_of_getElem? (i := 223) (by decide +kernel)
theorem kw224 : Cond.methodLink RL 65 yX2_set ∈ wsL_law := List.mem_of_getElem? (i := 224) (by decide +kernel)
theorem kw225 : Cond.instanceMethod yX2_set ∈ wsL_law := List.mem_of_getElem? (i := 225) (by decide +kernel)
theorem kw226 : Cond.selects RX2 yX2_set yX2_set ∈ wsL_law := List.mem_of_getElem? (i := 226) (by decide +kernel)
theorem kw227 : Cond.code yX2_set cX2_set 4 (some .int) ∈ wsL_law := List.mem_of_getElem? (i := 227) (by decide +kernel)
theorem kw228 : Cond.fieldLink RX2 89 "ShutterBench$Shutter" "settings" "[I" ∈ wsL_law := List.mem_of_getElem? (i := 228) (by decide +kernel)
theorem kw229 : Cond.methodLink RX2 79 yX2_needSetting ∈ wsL_law := List.mem_of_getElem? (i := 229) (by decide +kernel)
theorem kw230 : Cond.static yX2_needSetting ∈ wsL_law := List.mem_of_getElem? (i := 230) (by decide +kernel)
theorem kw231 : Cond.code yX2_needSetting cX2_needSetting 1 none ∈ wsL_law := List.mem_of_getElem? (i := 231) (by decide +kernel)
theorem kw232 : Cond.methodLink RX2 82 yX2_leastValue ∈ wsL_law := List.mem_of_getElem? (i := 232) (by decide +kernel)
theorem kw233 : Cond.static yX2_leastValue ∈ wsL_law := List.mem_of_getElem? (i := 233) (by decide +kernel)
theorem kw234 : Cond.code yX2_leastValue cX2_leastValue 1 (some .int) ∈ wsL_law := List.mem_of_getElem? (i := 234) (by decide +kernel)
theorem kw235 : Cond.methodLink RX2 86 yX2_mostValue ∈ wsL_law := List.mem_of_getElem? (i := 235) (by decide +kernel)
theorem kw236 : Cond.static yX2_mostValue ∈ wsL_law := List.mem_of_getElem? (i := 236) (by decide +kernel)
theorem kw237 : Cond.code yX2_mostValue cX2_mostValue 1 (some .int) ∈ wsL_law := List.mem_of_getElem? (i := 237) (by decide +kernel)
theorem kw238 : Cond.methodLink RL 68 yX2_shoot ∈ wsL_law := List.mem_of_getElem? (i := 238) (by decide +kernel)
theorem kw239 : Cond.instanceMethod yX2_shoot ∈ wsL_law := List.mem_of_getElem? (i := 239) (by decide +kernel)
theorem kw240 : Cond.selects RX2 yX2_shoot yX2_shoot ∈ wsL_law := List.mem_of_getElem? (i := 240) (by decide +kernel)
theorem kw241 : Cond.code yX2_shoot cX2_shoot 3 (some .int) ∈ wsL_law := List.mem_of_getElem? (i := 241) (by decide +kernel)
theorem kw242 : Cond.methodLink RL 71 yL_undo ∈ wsL_law := List.mem_of_getElem? (i := 242) (by decide +kernel)
theorem kw243 : Cond.static yL_undo ∈ wsL_law := List.mem_of_getElem? (i := 243) (by decide +kernel)
theorem kw244 : Cond.codeWith yL_undo cL_undo 2 (some .int) [(0, 4, 5, 15)] ∈ wsL_law := List.mem_of_getElem? (i := 244) (by decide +kernel)
theorem kw245 : Cond.classLink RL 15 "java/lang/IllegalStateException" ∈ wsL_law := List.mem_of_getElem? (i := 245) (by decide +kernel)
theorem kw246 : Cond.methodLink RL 9 yX2_undo ∈ wsL_law := List.mem_of_getElem? (i := 246) (by decide +kernel)
theorem kw247 : Cond.instanceMethod yX2_undo ∈ wsL_law := List.mem_of_getElem? (i := 247) (by decide +kernel)
theorem kw248 : Cond.selects RX2 yX2_undo yX2_undo ∈ wsL_law := List.mem_of_getElem? (i := 248) (by decide +kernel)
theorem kw249 : Cond.code yX2_undo cX2_undo 2 (some .int) ∈ wsL_law := List.mem_of_getElem? (i := 249) (by decide +kernel)
theorem kw250 : Cond.classLink RX2 100 "java/lang/IllegalStateException" ∈ wsL_law := List.mem_of_getElem? (i := 250) (by decide +kernel)
theorem kw251 : Cond.initialized "java/lang/IllegalStateException" ∈ wsL_law := List.mem_of_getElem? (i := 251) (by decide +kernel)
theorem kw252 : Cond.methodLink RL 85 yL_light ∈ wsL_law := List.mem_of_getElem? (i := 252) (by decide +kernel)
theorem kw253 : Cond.static yL_light ∈ wsL_law := List.mem_of_getElem? (i := 253) (by decide +kernel)
theorem kw254 : Cond.code yL_light cL_light 13 (some .boolean) ∈ wsL_law := List.mem_of_getElem? (i := 254) (by decide +kernel)
theorem kw255 : Cond.constant RL 17 (100000) ∈ wsL_law := List.mem_of_getElem? (i := 255) (by decide +kernel)
theorem kw256 : Cond.methodLink RL 26 yX2_setting ∈ wsL_law := List.mem_of_getElem? (i := 256) (by decide +kernel)
theorem kw257 : Cond.instanceMethod yX2_setting ∈ wsL_law := List.mem_of_getElem? (i := 257) (by decide +kernel)
theorem kw258 : Cond.selects RX2 yX2_setting yX2_setting ∈ wsL_law := List.mem_of_getElem? (i := 258) (by decide +kernel)
theorem kw259 : Cond.code yX2_setting cX2_setting 2 (some .int) ∈ wsL_law := List.mem_of_getElem? (i := 259) (by decide +kernel)
theorem kw260 : Cond.methodLink RL 29 yX2_column ∈ wsL_law := List.mem_of_getElem? (i := 260) (by decide +kernel)
theorem kw261 : Cond.instanceMethod yX2_column ∈ wsL_law := List.mem_of_getElem? (i := 261) (by decide +kernel)
theorem kw262 : Cond.selects RX2 yX2_column yX2_column ∈ wsL_law := List.mem_of_getElem? (i := 262) (by decide +kernel)
theorem kw263 : Cond.code yX2_column cX2_column 4 (some .int) ∈ wsL_law := List.mem_of_getElem? (i := 263) (by decide +kernel)
theorem kw264 : Cond.fieldLink RX2 147 "ShutterBench$Exposure" "leftAt" "[I" ∈ wsL_law := List.mem_of_getElem? (i := 264) (by decide +kernel)
theorem kw265 : Cond.fieldLink RX2 150 "ShutterBench$Exposure" "coveredAt" "[I" ∈ wsL_law := List.mem_of_getElem? (i := 265) (by decide +kernel)
theorem kw266 : Cond.fieldLink RX2 153 "ShutterBench$Exposure" "light" "[I" ∈ wsL_law := List.mem_of_getElem? (i := 266) (by decide +kernel)
theorem kw267 : Cond.methodLink RX2 159 Lib.Math.abs.name ∈ wsL_law := List.mem_of_getElem? (i := 267) (by decide +kernel)
theorem kw268 : Cond.methodLink RL 36 yL_size ∈ wsL_law := List.mem_of_getElem? (i := 268) (by decide +kernel)
theorem kw269 : Cond.static yL_size ∈ wsL_law := List.mem_of_getElem? (i := 269) (by decide +kernel)
theorem kw270 : Cond.code yL_size cL_size 1 (some .int) ∈ wsL_law := List.mem_of_getElem? (i := 270) (by decide +kernel)
theorem kw271 : Cond.methodLink RL 41 yX2_evenness ∈ wsL_law := List.mem_of_getElem? (i := 271) (by decide +kernel)
theorem kw272 : Cond.instanceMethod yX2_evenness ∈ wsL_law := List.mem_of_getElem? (i := 272) (by decide +kernel)
theorem kw273 : Cond.selects RX2 yX2_evenness yX2_evenness ∈ wsL_law := List.mem_of_getElem? (i := 273) (by decide +kernel)
theorem kw274 : Cond.code yX2_evenness cX2_evenness 2 (some .double) ∈ wsL_law := List.mem_of_getElem? (i := 274) (by decide +kernel)
theorem kw275 : Cond.fieldLink RX2 201 "ShutterBench$Exposure" "mostLight" "I" ∈ wsL_law := List.mem_of_getElem? (i := 275) (by decide +kernel)
theorem kw276 : Cond.fieldLink RX2 204 "ShutterBench$Exposure" "leastLight" "I" ∈ wsL_law := List.mem_of_getElem? (i := 276) (by decide +kernel)
end
section
/-! MY ROWS: one contract form for every method (its world a list of cells, its answer a pure value), and calls that put the callee's cells back in their places -/
abbrev TY (t : Nat → ClassId) : List (ClassId × FieldType) := [(t 0, .int), (t 1, .object RX1)]
/-- what the tables say beyond good words: links between nest mates, the texts of the exceptions -/
def xE (U : State) : Prop :=
  va_Nw (.methodLinkNest RX0 36 yX2_wantedLight RX2) U ∧ va_Nw (.methodLinkNest RX0 55 yX2_at RX2) U ∧ va_Nw (.methodLinkNest RX1 43 yX2_copyRow RX2) U ∧ va_Nw (.methodLinkNest RX1 47 yX2_at RX2) U ∧ va_Nw (.methodLinkNest RX1 59 yX2_wantedLight RX2) U ∧ va_Nw (.methodLinkNest RX1 71 yX2_put RX2) U
theorem xE.warm {s U : State} (hW : s.WarmedH U.vm) (h : xE s) : xE U :=
  ⟨va_Nw.warmM hW h.1, va_Nw.warmM hW h.2.1, va_Nw.warmM hW h.2.2.1, va_Nw.warmM hW h.2.2.2.1, va_Nw.warmM hW h.2.2.2.2.1, va_Nw.warmM hW h.2.2.2.2.2⟩
theorem xE.same {u U : State} (e : u.vm = U.vm) (h : xE u) : xE U :=
  ⟨va_Nw.same rfl e h.1, va_Nw.same rfl e h.2.1, va_Nw.same rfl e h.2.2.1, va_Nw.same rfl e h.2.2.2.1, va_Nw.same rfl e h.2.2.2.2.1, va_Nw.same rfl e h.2.2.2.2.2⟩
def sPc (D : va_G) (t : Nat → ClassId) (ws : va_W) (sz : Nat) (av : List Value) : Array Value → State → Prop := va_Pc av (fun U => U.heap.size = sz ∧ va_P D vwCl ws U.heap ∧ va_K D vwCl (TY t) U ∧ va_D (fun _ => True) ws ∧ xE U)
theorem sPc_blind {D : va_G} {t : Nat → ClassId} {ws : va_W} {sz : Nat} {av : List Value} : FrameBlind (sPc D t ws sz av) := by
  intro a U g mk h
  obtain ⟨h1, h2, h3, h4, h5, h6⟩ := h
  exact ⟨h1, h2, h3, va_K.moved (u := U) (U := U.calling g mk a) (Vm.Alike.refl U.vm) h4, h5, xE.same (u := U) (U := U.calling g mk a) rfl h6⟩
theorem sPc_S {D : va_G} {t : Nat → ClassId} {ws : va_W} {av : List Value} {s : State} {H : Heap} {A : Nat → Prop} (hP : va_P D vwCl ws H) (hK : va_K D vwCl (TY t) s) (hD : va_D A ws) (hE : xE s) : PreS s H (sPc D t ws H.size av) av :=
  ⟨sPc_blind, fun U hU hW => ⟨rfl, by rw [hU], by rw [hU]; exact hP, va_K.moved hW.alike hK, hD.weaken (fun _ _ _ _ => trivial), xE.warm hW hE⟩⟩
theorem sPc_V {D : va_G} {t : Nat → ClassId} {ws : va_W} {b : Nat} {av : List Value} {s : State} {H : Heap} {A : Nat → Prop} {C : String} (hP : va_P D vwCl ws H) (hK : va_K D vwCl (TY t) s) (hD : va_D A ws) (hE : xE s)
    (hr : ∃ cellB : Cell, H[b]? = some cellB ∧ cellB.vm.isStatics = false ∧ s.vm.findClass C = some cellB.cls) : PreV s H C b (sPc D t ws H.size (.ref b :: av)) av :=
  ⟨sPc_blind, hr, fun U hU hW => ⟨rfl, by rw [hU], by rw [hU]; exact hP, va_K.moved hW.alike hK, hD.weaken (fun _ _ _ _ => trivial), xE.warm hW hE⟩⟩
def sB (D : va_G) (t : Nat → ClassId) (ws : va_W) (A : Nat → Prop) : Unit → State → Prop := fun _ st => va_P D vwCl ws st.heap ∧ va_K D vwCl (TY t) st ∧ va_D A ws
abbrev qI (D : va_G) (t : Nat → ClassId) (ws : va_W) (v : Int32) (A : Nat → Prop) : Array Value → State → Outcome → State → Prop := va_Qi (fun r (_ : Unit) => r = v) (sB D t ws A) A
abbrev qJ (D : va_G) (t : Nat → ClassId) (ws : va_W) (v : Int64) (A : Nat → Prop) : Array Value → State → Outcome → State → Prop := va_Ql (fun r (_ : Unit) => r = v) (sB D t ws A) A
abbrev qD (D : va_G) (t : Nat → ClassId) (ws : va_W) (v : UInt64) (A : Nat → Prop) : Array Value → State → Outcome → State → Prop := va_Qd (fun r (_ : Unit) => r = v) (sB D t ws A) A
abbrev qV (D : va_G) (t : Nat → ClassId) (ws : va_W) (A : Nat → Prop) : Array Value → State → Outcome → State → Prop := va_Qv (fun (_ : Unit) => True) (sB D t ws A) A
abbrev qR (D : va_G) (t : Nat → ClassId) (ws : va_W) (v : Nat) (A : Nat → Prop) : Array Value → State → Outcome → State → Prop := va_Qr (fun (_ : Unit) => True) (fun u a st => a = v ∧ sB D t ws A u st) A
/-! the callee's cells back in their places -/
def va_set (ws : va_W) : List Nat → va_W → va_W
  | i :: is, c :: cs => va_set (ws.set i c) is cs
  | _, _ => ws
theorem va_set_get {k : Nat} {q : Nat × va_E} : ∀ (is : List Nat) (cs ws : va_W), is.length = cs.length → (va_set ws is cs)[k]? = some q → (∃ j : Nat, cs[j]? = some q) ∨ (ws[k]? = some q ∧ k ∉ is)
  | [], [], ws, _, h => Or.inr ⟨h, List.not_mem_nil⟩
  | i :: is, c :: cs, ws, hl, h => by
    rcases va_set_get is cs (ws.set i c) (by simpa using hl) h with ⟨j, hj⟩ | ⟨h1, h2⟩
    · exact Or.inl ⟨j + 1, by rw [List.getElem?_cons_succ]; exact hj⟩
    · by_cases e : i = k
      · subst e
        rw [List.getElem?_set] at h1
        rw [if_pos rfl] at h1
        split at h1
        · exact Or.inl ⟨0, by rw [List.getElem?_cons_zero]; exact h1⟩
        · cases h1
      · rw [List.getElem?_set, if_neg e] at h1
        exact Or.inr ⟨h1, fun hm => by
          rcases List.mem_cons.mp hm with z | z
          · exact e z.symm
          · exact h2 z⟩
  | [], _ :: _, _, hl, _ => by cases hl
  | _ :: _, [], _, hl, _ => by cases hl
theorem va_set_fst : ∀ (is : List Nat) (cs ws : va_W), is.map (fun i => (ws.map (·.1))[i]?) = (cs.map (·.1)).map some → (va_set ws is cs).map (·.1) = ws.map (·.1)
  | [], [], ws, _ => rfl
  | [], _ :: _, ws, h => by cases h
  | _ :: _, [], ws, _ => rfl
  | i :: is, c :: cs, ws, h => by
    rw [List.map_cons, List.map_cons, List.map_cons] at h
    injection h with h1 h2
    have e : (ws.set i c).map (·.1) = ws.map (·.1) := by
      rw [List.map_set]
      apply List.ext_getElem?
      intro j
      rw [List.getElem?_set]
      split
      · next e => subst e; split
                  · exact h1.symm
                  · next hn => rw [List.getElem?_eq_none (by omega)]
      · rfl
    show (va_set (ws.set i c) is cs).map (·.1) = _
    rw [va_set_fst is cs (ws.set i c) (by rw [e]; exact h2), e]
theorem va_D.fst {A : Nat → Prop} {ws ws' : va_W} (h : va_D A ws) (e : ws'.map (·.1) = ws.map (·.1)) : va_D A ws' := by
  have key : ∀ (k : Nat) (q : Nat × va_E), ws'[k]? = some q → ∃ q', ws[k]? = some q' ∧ q'.1 = q.1 := by
    intro k q hk
    have h1 : (ws'.map (·.1))[k]? = some q.1 := by rw [List.getElem?_map, hk]; rfl
    rw [e, List.getElem?_map] at h1
    cases hw : ws[k]? with
    | none => rw [hw] at h1; cases h1
    | some z => rw [hw] at h1; exact ⟨z, rfl, Option.some.inj h1⟩
  refine ⟨fun i j p q hi hj hpq => ?_, fun k q hk => ?_⟩
  · obtain ⟨p', h1, h2⟩ := key i p hi
    obtain ⟨q', h3, h4⟩ := key j q hj
    exact h.1 i j p' q' h1 h3 (by rw [h2, h4, hpq])
  · obtain ⟨q', h1, h2⟩ := key k q hk
    rw [← h2]
    exact h.2 k q' h1
theorem va_upd {D : va_G} {cl : List vw_C} {A : Nat → Prop} {ws ws' wc wc' : va_W} {H H1 : Heap} (is : List Nat) (hP : va_P D cl ws H) (hD : va_D A ws) (hC : is.map (fun i => ws[i]?) = wc.map some) (hw : va_set ws is wc' = ws') (hf : wc'.map (·.1) = wc.map (·.1))
    (hk : ∀ q : Nat, q < H.size → ¬ va_A wc H.size q → H1[q]? = H[q]?) (hP1 : va_P D cl wc' H1) : va_P D cl ws' H1 ∧ va_D A ws' := by
  subst hw
  have hl : is.length = wc'.length := by
    have a := congrArg List.length hC
    have b := congrArg List.length hf
    simp only [List.length_map] at a b
    omega
  refine ⟨fun k q hq => ?_, hD.fst (va_set_fst is wc' ws ?_)⟩
  · rcases va_set_get is wc' ws hl hq with ⟨j, hj⟩ | ⟨h1, h2⟩
    · exact hP1 j q hj
    · have hlt := (hP k q h1).lt
      refine (hP k q h1).kept (hk q.1 hlt (fun hA => ?_))
      rcases hA with ⟨k2, e, h⟩ | h
      · have h3 : (is.map (fun i => ws[i]?))[k2]? = some (some (q.1, e)) := by rw [hC, List.getElem?_map, h]; rfl
        rw [List.getElem?_map] at h3
        cases hi : is[k2]? with
        | none => rw [hi] at h3; cases h3
        | some i =>
          rw [hi] at h3
          have h4 : ws[i]? = some (q.1, e) := Option.some.inj h3
          have := hD.1 k i q (q.1, e) h1 h4 rfl
          subst this
          exact h2 (List.mem_of_getElem? hi)
      · omega
  · rw [hf]
    have h5 := congrArg (List.map (Option.map (fun (z : Nat × va_E) => z.1))) hC
    rw [List.map_map, List.map_map] at h5
    rw [List.map_map]
    refine Eq.trans ?_ (h5.trans ?_)
    · apply List.map_congr_left
      intro i _
      simp
    · rfl
/-! a callee's part of the caller's world: by places, or by whole blocks -/
def Cut (D : va_G) (A : Nat → Prop) (ws wc wc' ws' : va_W) (H : Heap) : Prop :=
  va_P D vwCl wc H ∧ va_D A wc ∧ (∀ q, va_A wc H.size q → A q) ∧ ∀ H1 : Heap, (∀ q : Nat, q < H.size → ¬ va_A wc H.size q → H1[q]? = H[q]?) → va_P D vwCl wc' H1 → va_P D vwCl ws' H1 ∧ va_D A ws'
theorem va_P.pick0 {D : va_G} {H : Heap} {ws wc : va_W} (is : List Nat) (hP : va_P D vwCl ws H) (hC : is.map (fun i => ws[i]?) = wc.map some) : va_P D vwCl wc H := fun k q hq => by
  have h1 : (is.map (fun i => ws[i]?))[k]? = some (some q) := by rw [hC, List.getElem?_map, hq]; rfl
  rw [List.getElem?_map] at h1
  cases hi : is[k]? with
  | none => rw [hi] at h1; cases h1
  | some i => rw [hi] at h1; exact hP i q (Option.some.inj h1)
theorem cutI {D : va_G} {A : Nat → Prop} {ws wc wc' ws' : va_W} {H H0 : Heap} {locs : List Loc} (is : List Nat) (hP : va_P D vwCl ws H) (hD : va_D A ws) (hS : va_S A H0 H locs) (hA : ∀ q, H0.size ≤ q → A q) (hn : va_nd is = true) (hC : is.map (fun i => ws[i]?) = wc.map some) (hw : va_set ws is wc' = ws') (hf : wc'.map (·.1) = wc.map (·.1)) : Cut D A ws wc wc' ws' H :=
  ⟨hP.pick0 is hC, hD.sub is hn hC, va_free hD hS hA is hC, fun _ hk hP1 => va_upd is hP hD hC hw hf hk hP1⟩
def flat : List va_W → va_W
  | [] => []
  | b :: r => match r with
    | [] => b
    | _ :: _ => b ++ flat r
theorem flat_cons (b : va_W) (r : List va_W) : ∀ k : Nat, (flat (b :: r))[k]? = (b ++ flat r)[k]? := by
  intro k
  cases r with
  | nil => show b[k]? = (b ++ [])[k]?; rw [List.append_nil]
  | cons c r => rfl
def boff (bs : List va_W) (i : Nat) : Nat := ((bs.take i).map List.length).sum
theorem flat_at : ∀ (bs : List va_W) (k : Nat) (q : Nat × va_E), (flat bs)[k]? = some q → ∃ (i a : Nat) (b : va_W), bs[i]? = some b ∧ b[a]? = some q ∧ k = boff bs i + a
  | [], k, q, h => by simp [flat] at h
  | b :: r, k, q, h => by
    rw [flat_cons] at h
    by_cases hl : k < b.length
    · rw [List.getElem?_append_left hl] at h
      exact ⟨0, k, b, rfl, h, by simp [boff]⟩
    · rw [List.getElem?_append_right (by omega)] at h
      obtain ⟨i, a, c, h1, h2, h3⟩ := flat_at r _ q h
      refine ⟨i + 1, a, c, by rw [List.getElem?_cons_succ]; exact h1, h2, ?_⟩
      simp only [boff, List.take_succ_cons, List.map_cons, List.sum_cons] at h3 ⊢
      omega
theorem flat_to : ∀ (bs : List va_W) (i a : Nat) (b : va_W) (q : Nat × va_E), bs[i]? = some b → b[a]? = some q → (flat bs)[boff bs i + a]? = some q
  | [], i, a, b, q, h, _ => by simp at h
  | c :: r, 0, a, b, q, h, h2 => by
    rw [List.getElem?_cons_zero] at h
    cases h
    rw [flat_cons]
    have hl : a < c.length := (List.getElem?_eq_some_iff.mp h2).1
    simp only [boff, List.take_zero, List.map_nil, List.sum_nil, Nat.zero_add]
    rw [List.getElem?_append_left hl]
    exact h2
  | c :: r, i + 1, a, b, q, h, h2 => by
    rw [List.getElem?_cons_succ] at h
    have := flat_to r i a b q h h2
    rw [flat_cons, List.getElem?_append_right (by simp only [boff, List.take_succ_cons, List.map_cons, List.sum_cons]; omega)]
    simp only [boff, List.take_succ_cons, List.map_cons, List.sum_cons]
    rw [show c.length + ((r.take i).map List.length).sum + a - c.length = boff r i + a by simp only [boff]; omega]
    exact this
theorem boff_lt : ∀ (bs : List va_W) (i j : Nat) (b : va_W), bs[i]? = some b → i < j → boff bs i + b.length ≤ boff bs j
  | [], i, j, b, h, _ => by simp at h
  | c :: r, 0, j + 1, b, h, _ => by
    rw [List.getElem?_cons_zero] at h
    cases h
    simp [boff]
  | c :: r, i + 1, j + 1, b, h, hl => by
    rw [List.getElem?_cons_succ] at h
    have := boff_lt r i j b h (by omega)
    simp only [boff, List.take_succ_cons, List.map_cons, List.sum_cons] at this ⊢
    omega
  | _, _, 0, _, _, hl => by omega
/-- where two cells of blocks have one address, they are one -/
theorem flat_inj {A : Nat → Prop} {bs : List va_W} (hD : va_D A (flat bs)) {i j a b : Nat} {x y : va_W} {p q : Nat × va_E} (hi : bs[i]? = some x) (ha : x[a]? = some p) (hj : bs[j]? = some y) (hb : y[b]? = some q) (e : p.1 = q.1) : i = j ∧ a = b := by
  have h := hD.1 _ _ p q (flat_to bs i a x p hi ha) (flat_to bs j b y q hj hb) e
  have la : a < x.length := (List.getElem?_eq_some_iff.mp ha).1
  have lb : b < y.length := (List.getElem?_eq_some_iff.mp hb).1
  have hij : i = j := by
    rcases Nat.lt_trichotomy i j with z | z | z
    · have := boff_lt bs i j x hi z; omega
    · exact z
    · have := boff_lt bs j i y hj z; omega
  subst hij
  exact ⟨rfl, by omega⟩
def setL (bs : List va_W) : List Nat → List va_W → List va_W
  | i :: is, c :: cs => setL (bs.set i c) is cs
  | _, _ => bs
theorem setL_get {k : Nat} {q : va_W} : ∀ (is : List Nat) (cs bs : List va_W), is.length = cs.length → (setL bs is cs)[k]? = some q → (∃ j : Nat, cs[j]? = some q) ∨ (bs[k]? = some q ∧ k ∉ is)
  | [], [], bs, _, h => Or.inr ⟨h, List.not_mem_nil⟩
  | i :: is, c :: cs, bs, hl, h => by
    rcases setL_get is cs (bs.set i c) (by simpa using hl) h with ⟨j, hj⟩ | ⟨h1, h2⟩
    · exact Or.inl ⟨j + 1, by rw [List.getElem?_cons_succ]; exact hj⟩
    · by_cases e : i = k
      · subst e
        rw [List.getElem?_set] at h1
        rw [if_pos rfl] at h1
        split at h1
        · exact Or.inl ⟨0, by rw [List.getElem?_cons_zero]; exact h1⟩
        · cases h1
      · rw [List.getElem?_set, if_neg e] at h1
        exact Or.inr ⟨h1, fun hm => by
          rcases List.mem_cons.mp hm with z | z
          · exact e z.symm
          · exact h2 z⟩
  | [], _ :: _, _, hl, _ => by cases hl
  | _ :: _, [], _, hl, _ => by cases hl
abbrev fsts (b : va_W) : List Nat := b.map (·.1)
theorem setL_fst : ∀ (is : List Nat) (cs bs : List va_W), is.map (fun i => (bs.map fsts)[i]?) = (cs.map fsts).map some → (setL bs is cs).map fsts = bs.map fsts
  | [], [], bs, _ => rfl
  | [], _ :: _, bs, h => by cases h
  | _ :: _, [], bs, _ => rfl
  | i :: is, c :: cs, bs, h => by
    rw [List.map_cons, List.map_cons, List.map_cons] at h
    injection h with h1 h2
    have e : (bs.set i c).map fsts = bs.map fsts := by
      rw [List.map_set]
      apply List.ext_getElem?
      intro j
      rw [List.getElem?_set]
      split
      · next e => subst e; split
                  · exact h1.symm
                  · next hn => rw [List.getElem?_eq_none (by omega)]
      · rfl
    show (setL (bs.set i c) is cs).map fsts = _
    rw [setL_fst is cs (bs.set i c) (by rw [e]; exact h2), e]
theorem flat_fst : ∀ (bs cs : List va_W), bs.map fsts = cs.map fsts → (flat bs).map (·.1) = (flat cs).map (·.1)
  | [], [], _ => rfl
  | [], _ :: _, h => by cases h
  | _ :: _, [], h => by cases h
  | b :: r, c :: s, h => by
    rw [List.map_cons, List.map_cons] at h
    injection h with h1 h2
    have ih := flat_fst r s h2
    have e : ∀ (b : va_W) (r : List va_W), (flat (b :: r)).map (·.1) = b.map (·.1) ++ (flat r).map (·.1) := by
      intro b r
      cases r with
      | nil => show b.map (·.1) = b.map (·.1) ++ []; rw [List.append_nil]
      | cons c r => show (b ++ flat (c :: r)).map (·.1) = _; rw [List.map_append]
    rw [e, e, ih]
    exact congrArg (· ++ _) h1
theorem cutB {D : va_G} {A : Nat → Prop} {bs cs cs' bs' : List va_W} {H H0 : Heap} {locs : List Loc} (is : List Nat) (hP : va_P D vwCl (flat bs) H) (hD : va_D A (flat bs)) (hS : va_S A H0 H locs) (hA : ∀ q, H0.size ≤ q → A q) (hn : va_nd is = true) (hC : is.map (fun i => bs[i]?) = cs.map some) (hw : setL bs is cs' = bs') (hf : cs'.map fsts = cs.map fsts) : Cut D A (flat bs) (flat cs) (flat cs') (flat bs') H := by
  have back : ∀ (i : Nat) (c : va_W), cs[i]? = some c → ∃ k, is[i]? = some k ∧ bs[k]? = some c := by
    intro i c hc
    have h1 : (is.map (fun i => bs[i]?))[i]? = some (some c) := by rw [hC, List.getElem?_map, hc]; rfl
    rw [List.getElem?_map] at h1
    cases hi : is[i]? with
    | none => rw [hi] at h1; cases h1
    | some k => rw [hi] at h1; exact ⟨k, rfl, Option.some.inj h1⟩
  have inb : ∀ (k : Nat) (q : Nat × va_E), (flat cs)[k]? = some q → ∃ j : Nat, (flat bs)[j]? = some q := by
    intro k q hk
    obtain ⟨i, a, c, h1, h2, -⟩ := flat_at cs k q hk
    obtain ⟨z, -, h4⟩ := back i c h1
    exact ⟨_, flat_to bs z a c q h4 h2⟩
  have hl : is.length = cs'.length := by
    have a := congrArg List.length hC
    have b := congrArg List.length hf
    simp only [List.length_map] at a b
    omega
  refine ⟨fun k q hk => ?_, ⟨fun k j p q hk hj e => ?_, fun k q hk => ?_⟩, fun q h => ?_, fun H1 hk hP1 => ?_⟩
  · obtain ⟨j, hj⟩ := inb k q hk
    exact hP j q hj
  · obtain ⟨i1, a1, c1, h1, h2, rfl⟩ := flat_at cs k p hk
    obtain ⟨i2, a2, c2, h3, h4, rfl⟩ := flat_at cs j q hj
    obtain ⟨z1, g1, g2⟩ := back i1 c1 h1
    obtain ⟨z2, g3, g4⟩ := back i2 c2 h3
    obtain ⟨e1, e2⟩ := flat_inj hD g2 h2 g4 h4 e
    subst e1
    rw [va_nd_inj is hn i1 i2 z1 g1 g3, e2]
  · obtain ⟨j, hj⟩ := inb k q hk
    exact hD.2 j q hj
  · rcases h with ⟨k, e, h⟩ | h
    · obtain ⟨j, hj⟩ := inb k _ h
      exact hD.2 j (q, e) hj
    · exact hA q (Nat.le_trans hS.1 h)
  · subst hw
    have hfs : (flat (setL bs is cs')).map (·.1) = (flat bs).map (·.1) := by
      refine flat_fst _ _ (setL_fst is cs' bs ?_)
      rw [hf]
      have h5 := congrArg (List.map (Option.map fsts)) hC
      rw [List.map_map, List.map_map] at h5
      rw [List.map_map]
      refine Eq.trans ?_ (h5.trans ?_)
      · apply List.map_congr_left
        intro i _
        simp
      · rfl
    refine ⟨fun k q hq => ?_, hD.fst hfs⟩
    obtain ⟨i, a, b, h1, h2, -⟩ := flat_at _ k q hq
    rcases setL_get is cs' bs hl h1 with ⟨j, hj⟩ | ⟨h3, h4⟩
    · exact hP1 _ q (flat_to cs' j a b q hj h2)
    · have h5 := flat_to bs i a b q h3 h2
      have hlt := (hP _ q h5).lt
      refine (hP _ q h5).kept (hk q.1 hlt (fun hA2 => ?_))
      rcases hA2 with ⟨k2, e, h⟩ | h
      · obtain ⟨i2, a2, c, g1, g2, -⟩ := flat_at cs k2 _ h
        obtain ⟨z, g3, g4⟩ := back i2 c g1
        obtain ⟨e1, -⟩ := flat_inj hD h3 h2 g4 g2 rfl
        subst e1
        exact h4 (List.mem_of_getElem? g3)
      · omega
section SR
variable {p : Program} {l : Launch} {e : Env} {R : Room} {s : State} {m : MethodId} {args : Array Value} {below : List Frame} {meth : Method} {c : Code} {H H0 : Heap} {locs : List Loc} {cells slots : Nat} {Q : State → Prop}
variable {D : va_G} {t : Nat → ClassId} {A : Nat → Prop} {ws ws' wc wc' : va_W} {pc : Nat} {ls : Array Slot} {st0 rest : List Value} {a : Array Value}
theorem va_P.pick {ws wc : va_W} (is : List Nat) (hP : va_P D vwCl ws H) (hC : is.map (fun i => ws[i]?) = wc.map some) : va_P D vwCl wc H := fun k q hq => by
  have h1 : (is.map (fun i => ws[i]?))[k]? = some (some q) := by rw [hC, List.getElem?_map, hq]; rfl
  rw [List.getElem?_map] at h1
  cases hi : is[k]? with
  | none => rw [hi] at h1; cases h1
  | some i => rw [hi] at h1; exact hP i q (Option.some.inj h1)
theorem call_i {v : Int32} (cut : Cut D A ws wc wc' ws' H) (hS : va_S A H0 H locs)
    (hr : va_P D vwCl wc H → va_D A wc → va_Run p l e R s m args below meth c H locs cells slots 0 0 (F0 m pc ls st0) rest (qI D t wc' v (va_A wc H.size) a) (va_A wc H.size))
    (kk : ∀ (H1 : Heap) (locs1 : List Loc), va_P D vwCl ws' H1 → va_D A ws' → va_S A H0 H1 locs1 → W p l e R s m args below meth c H1 locs1 cells slots Q (F0 m (pc + 3) ls (.int v :: rest))) : W p l e R s m args below meth c H locs cells slots Q (F0 m pc ls st0) := by
  obtain ⟨hPc, hDc, hfr, hup⟩ := cut
  refine va_calli (hr hPc hDc) hS (fun q _ h => hfr q h) hfr (fun r u tt H1 locs1 ht hvm hw' hB hz hk hS1 => ?_)
  obtain ⟨hP1, -, -⟩ := hB
  rw [ht] at hP1
  obtain ⟨a2, a3⟩ := hup H1 hk hP1
  rw [hw']
  exact kk H1 locs1 a2 a3 hS1
theorem call_j {v : Int64} (cut : Cut D A ws wc wc' ws' H) (hS : va_S A H0 H locs)
    (hr : va_P D vwCl wc H → va_D A wc → va_Run p l e R s m args below meth c H locs cells slots 0 0 (F0 m pc ls st0) rest (qJ D t wc' v (va_A wc H.size) a) (va_A wc H.size))
    (kk : ∀ (H1 : Heap) (locs1 : List Loc), va_P D vwCl ws' H1 → va_D A ws' → va_S A H0 H1 locs1 → W p l e R s m args below meth c H1 locs1 cells slots Q (F0 m (pc + 3) ls (.long v :: rest))) : W p l e R s m args below meth c H locs cells slots Q (F0 m pc ls st0) := by
  obtain ⟨hPc, hDc, hfr, hup⟩ := cut
  refine va_calll (hr hPc hDc) hS (fun q _ h => hfr q h) hfr (fun r u tt H1 locs1 ht hvm hw' hB hz hk hS1 => ?_)
  obtain ⟨hP1, -, -⟩ := hB
  rw [ht] at hP1
  obtain ⟨a2, a3⟩ := hup H1 hk hP1
  rw [hw']
  exact kk H1 locs1 a2 a3 hS1
theorem call_d {v : UInt64} (cut : Cut D A ws wc wc' ws' H) (hS : va_S A H0 H locs)
    (hr : va_P D vwCl wc H → va_D A wc → va_Run p l e R s m args below meth c H locs cells slots 0 0 (F0 m pc ls st0) rest (qD D t wc' v (va_A wc H.size) a) (va_A wc H.size))
    (kk : ∀ (H1 : Heap) (locs1 : List Loc), va_P D vwCl ws' H1 → va_D A ws' → va_S A H0 H1 locs1 → W p l e R s m args below meth c H1 locs1 cells slots Q (F0 m (pc + 3) ls (.double v :: rest))) : W p l e R s m args below meth c H locs cells slots Q (F0 m pc ls st0) := by
  obtain ⟨hPc, hDc, hfr, hup⟩ := cut
  refine va_calld (hr hPc hDc) hS (fun q _ h => hfr q h) hfr (fun r u tt H1 locs1 ht hvm hw' hB hz hk hS1 => ?_)
  obtain ⟨hP1, -, -⟩ := hB
  rw [ht] at hP1
  obtain ⟨a2, a3⟩ := hup H1 hk hP1
  rw [hw']
  exact kk H1 locs1 a2 a3 hS1
theorem call_v (cut : Cut D A ws wc wc' ws' H) (hS : va_S A H0 H locs)
    (hr : va_P D vwCl wc H → va_D A wc → va_Run p l e R s m args below meth c H locs cells slots 0 0 (F0 m pc ls st0) rest (qV D t wc' (va_A wc H.size) a) (va_A wc H.size))
    (kk : ∀ (H1 : Heap) (locs1 : List Loc), va_P D vwCl ws' H1 → va_D A ws' → va_S A H0 H1 locs1 → W p l e R s m args below meth c H1 locs1 cells slots Q (F0 m (pc + 3) ls (rest))) : W p l e R s m args below meth c H locs cells slots Q (F0 m pc ls st0) := by
  obtain ⟨hPc, hDc, hfr, hup⟩ := cut
  refine va_callv (hr hPc hDc) hS (fun q _ h => hfr q h) hfr (fun u tt H1 locs1 ht hvm hw' hB hz hk hS1 => ?_)
  obtain ⟨hP1, -, -⟩ := hB
  rw [ht] at hP1
  obtain ⟨a2, a3⟩ := hup H1 hk hP1
  exact kk H1 locs1 a2 a3 hS1
theorem call_r {v : Nat} (cut : Cut D A ws wc wc' ws' H) (hS : va_S A H0 H locs)
    (hr : va_P D vwCl wc H → va_D A wc → va_Run p l e R s m args below meth c H locs cells slots 0 0 (F0 m pc ls st0) rest (qR D t wc' v (va_A wc H.size) a) (va_A wc H.size))
    (kk : ∀ (H1 : Heap) (locs1 : List Loc), va_P D vwCl ws' H1 → va_D A ws' → va_S A H0 H1 locs1 → W p l e R s m args below meth c H1 locs1 cells slots Q (F0 m (pc + 3) ls (.ref v :: rest))) : W p l e R s m args below meth c H locs cells slots Q (F0 m pc ls st0) := by
  obtain ⟨hPc, hDc, hfr, hup⟩ := cut
  refine va_callr (hr hPc hDc) hS (fun q _ h => hfr q h) hfr (fun u a1 tt H1 locs1 ht hvm hw' hB hz hk hS1 => ?_)
  obtain ⟨rfl, hP1, -, -⟩ := hB
  rw [ht] at hP1
  obtain ⟨a2, a3⟩ := hup H1 hk hP1
  exact kk H1 locs1 a2 a3 hS1
theorem ret_i {cc : ByteArray} {v : Int32} (hx : p.tables.exec = Jvm.exec) (hb : c.code = cc) (hr : meth.sig.returnType = some .int) (hlocks : meth.locks = false) (hP : va_P D vwCl ws H) (hK : va_K D vwCl (TY t) s) (hD : va_D A ws) (hS : va_S A s.heap H locs) (hdg : decode cc pc = .ok (.ireturn, 1)) :
    W p l e R s m args below meth c H locs cells slots (MQ below (qI D t ws v A) args s cells slots A) (F0 m pc ls [.int v]) :=
  W.iret (v := v) hx hb hr (fun tt ht hW => ⟨⟨v, (), rfl, rfl, by rw [ht]; exact hP, va_K.moved hW.alike hK, hD⟩, hS.F ht⟩) hS.2.2 hdg hlocks
theorem ret_j {cc : ByteArray} {v : Int64} (hx : p.tables.exec = Jvm.exec) (hb : c.code = cc) (hr : meth.sig.returnType = some .long) (hlocks : meth.locks = false) (hP : va_P D vwCl ws H) (hK : va_K D vwCl (TY t) s) (hD : va_D A ws) (hS : va_S A s.heap H locs) (hdg : decode cc pc = .ok (.lreturn, 1)) :
    W p l e R s m args below meth c H locs cells slots (MQ below (qJ D t ws v A) args s cells slots A) (F0 m pc ls [.long v]) :=
  W.lret (v := v) hx hb hr (fun tt ht hW => ⟨⟨v, (), rfl, rfl, by rw [ht]; exact hP, va_K.moved hW.alike hK, hD⟩, hS.F ht⟩) hS.2.2 hdg hlocks
theorem ret_d {cc : ByteArray} {v : UInt64} (hx : p.tables.exec = Jvm.exec) (hb : c.code = cc) (hr : meth.sig.returnType = some .double) (hlocks : meth.locks = false) (hP : va_P D vwCl ws H) (hK : va_K D vwCl (TY t) s) (hD : va_D A ws) (hS : va_S A s.heap H locs) (hdg : decode cc pc = .ok (.dreturn, 1)) :
    W p l e R s m args below meth c H locs cells slots (MQ below (qD D t ws v A) args s cells slots A) (F0 m pc ls [.double v]) :=
  W.dret (v := v) hx hb hr (fun tt ht hW => ⟨⟨v, (), rfl, rfl, by rw [ht]; exact hP, va_K.moved hW.alike hK, hD⟩, hS.F ht⟩) hS.2.2 hdg hlocks
theorem ret_v {cc : ByteArray} (hx : p.tables.exec = Jvm.exec) (hb : c.code = cc) (hr : meth.sig.returnType = none) (hlocks : meth.locks = false) (hP : va_P D vwCl ws H) (hK : va_K D vwCl (TY t) s) (hD : va_D A ws) (hS : va_S A s.heap H locs) (hdg : decode cc pc = .ok (.return_, 1)) :
    W p l e R s m args below meth c H locs cells slots (MQ below (qV D t ws A) args s cells slots A) (F0 m pc ls []) :=
  W.vret hx hb hr (fun tt ht hW => ⟨⟨(), rfl, trivial, by rw [ht]; exact hP, va_K.moved hW.alike hK, hD⟩, hS.F ht⟩) hS.2.2 hdg hlocks
theorem ret_r {cc : ByteArray} {v v' : Nat} {rt : FieldType} (hv : v = v') (hx : p.tables.exec = Jvm.exec) (hb : c.code = cc) (hr : meth.sig.returnType = some rt) (hrt : (∃ n, rt = .object n) ∨ ∃ t, rt = .array t) (hlocks : meth.locks = false) (hP : va_P D vwCl ws H) (hK : va_K D vwCl (TY t) s) (hD : va_D A ws) (hS : va_S A s.heap H locs) (hdg : decode cc pc = .ok (.areturn, 1)) :
    W p l e R s m args below meth c H locs cells slots (MQ below (qR D t ws v' A) args s cells slots A) (F0 m pc ls [.ref v]) := by
  subst hv
  exact W.aret (v := .ref v) hx hb hr hrt (Or.inr ⟨v, rfl⟩) (fun tt ht hW => ⟨⟨(), v, rfl, trivial, rfl, by rw [ht]; exact hP, va_K.moved hW.alike hK, hD⟩, hS.F ht⟩) hS.2.2 hdg hlocks
def b2i (b : Bool) : Int32 := if b = true then 1 else 0
theorem b2i_nar (b : Bool) : narrow .boolean (.int (b2i b)) = .int (b2i b) := by cases b <;> rfl
theorem ret_z {cc : ByteArray} {b : Bool} (hx : p.tables.exec = Jvm.exec) (hb : c.code = cc) (hr : meth.sig.returnType = some .boolean) (hlocks : meth.locks = false) (hP : va_P D vwCl ws H) (hK : va_K D vwCl (TY t) s) (hD : va_D A ws) (hS : va_S A s.heap H locs) (hdg : decode cc pc = .ok (.ireturn, 1)) :
    W p l e R s m args below meth c H locs cells slots (MQ below (qI D t ws (b2i b) A) args s cells slots A) (F0 m pc ls [.int (b2i b)]) :=
  W.zret (v := b2i b) hx hb hr (b2i_nar b) (fun tt ht hW => ⟨⟨b2i b, (), rfl, rfl, by rw [ht]; exact hP, va_K.moved hW.alike hK, hD⟩, hS.F ht⟩) hS.2.2 hdg hlocks
end SR
theorem met_of {l : Launch} {y : MethodName} {ws ws' : List Cond} {rm : Room} {D : va_G} {t : Nat → ClassId} {ww : va_W} {sz mc ms : Nat} {av : List Value} {Qf : (Nat → Prop) → Array Value → State → Outcome → State → Prop} {cc : ByteArray} {maxL : Nat} {ret : Option FieldType}
    (hy : plainName y.cls = true) (hw : ws = Cond.code y cc maxL ret :: ws') (hn : (lg_sl av).length ≤ maxL)
    (body : ∀ (p : Program) (e : Env) (s : State) (m : MethodId) (args : Array Value) (below : List Frame) (meth : Method) (c : Code) (A : Nat → Prop), p.tables.exec = Jvm.exec → c.code = cc → meth.sig.returnType = ret → c.maxLocals = maxL → (∀ w ∈ ws, w.before args s = true) → s.vm.findClass y.cls = some m.cls → meth.locks = false →
      (∀ q, s.heap.size ≤ q → A q) → va_P D vwCl ww s.heap → va_K D vwCl (TY t) s → va_D A ww → xE s → va_S A s.heap s.heap [] → ∀ ls : Array Slot, lv_has ls maxL (lv_args 0 av) →
      W p l e rm s m args below meth c s.heap [] 0 0 (MQ below (Qf A) args s mc ms A) (F0 m 0 ls [])) : Met l y ws rm (sPc D t ww sz av) (Qf (va_A ww sz)) mc ms (va_A ww sz) := by
  refine Met.ofW (cc := cc) (maxL := maxL) (ret := ret) hy hw ?_
  intro p e s m args below meth c s₁ B hml hv
  obtain ⟨rfl, hsz, hP, hK, hD0, hE⟩ := hv
  subst hsz
  rw [lg_entry_eq]
  exact body p e s m _ below meth c (va_A ww s.heap.size) B.exec B.bytes B.returns hml (atoms_spec (ws := ws) B.pre) (findClass_of_methodNamed B.named) B.notSynchronized (fun q h => Or.inr h) hP hK hD0.self hE va_S.rf _ (lv_entry av hn)
/-! pure words -/
def gd {α : Type} (b : Bool) (x : Option α) : Option α := if b = true then x else none
theorem og {α : Type} {b : Bool} {x : Option α} {y : α} (h : gd b x = some y) : b = true ∧ x = some y := by
  unfold gd at h
  split at h
  · exact ⟨by assumption, h⟩
  · cases h
def pin (i : Int32) (n : Nat) : Bool := decide (¬ (i < 0 ∨ n ≤ i.toNatClampNeg))
theorem pin_in {i : Int32} {n : Nat} (h : pin i n = true) : vp_in i n := show ¬ (i < 0 ∨ n ≤ i.toNatClampNeg) from of_decide_eq_true h
def nz (y : Int32) : Bool := decide (¬ y = 0)
theorem nz_ne {y : Int32} (h : nz y = true) : ¬ y = 0 := of_decide_eq_true h
def nn64 (r : UInt64) : Bool := decide (r &&& 0x7fffffffffffffff ≤ 0x7ff0000000000000)
theorem nn_n64 {r : UInt64} (h : nn64 r = true) : vf_n64 r := show r &&& 0x7fffffffffffffff ≤ 0x7ff0000000000000 from of_decide_eq_true h
def lp {σ R : Type} (B : (σ → Option R) → σ → Option R) : Nat → σ → Option R
  | 0, _ => none
  | n + 1, v => B (lp B n) v
theorem ob {α β : Type} {o : Option α} {f : α → Option β} {y : β} (h : o.bind f = some y) : ∃ r, o = some r ∧ f r = some y := Option.bind_eq_some_iff.mp h
theorem os {α : Type} {a b : α} (h : some a = some b) : a = b := Option.some.inj h
theorem oi {α β : Type} {a b : β} (h : (some (Sum.inr a) : Option (α ⊕ β)) = some (Sum.inr b)) : a = b := Sum.inr.inj (Option.some.inj h)
theorem it_p {c : Prop} [Decidable c] {α : Type} {a b x : α} (hc : c) (h : (if c then a else b) = x) : a = x := by rwa [if_pos hc] at h
theorem it_n {c : Prop} [Decidable c] {α : Type} {a b x : α} (hc : ¬ c) (h : (if c then a else b) = x) : b = x := by rwa [if_neg hc] at h
def tb {α β : Type} (x : Option (Nat ⊕ α)) (K : α → Option (Nat ⊕ β)) : Option (Nat ⊕ β) := x.bind (fun z => match z with | .inl e => some (.inl e) | .inr u => K u)
def tq {α β : Type} (x : Option (Nat ⊕ α)) (K : α → Option β) : Option β := x.bind (fun z => match z with | .inl _ => none | .inr u => K u)
theorem tb_r {α β : Type} {x : Option (Nat ⊕ α)} {K : α → Option (Nat ⊕ β)} {y : β} (h : tb x K = some (.inr y)) : ∃ u, x = some (.inr u) ∧ K u = some (.inr y) := by
  obtain ⟨z, h1, h2⟩ := ob h
  cases z with
  | inl e => cases h2
  | inr u => exact ⟨u, h1, h2⟩
theorem tb_l {α β : Type} {x : Option (Nat ⊕ α)} {K : α → Option (Nat ⊕ β)} {e : Nat} (h : tb x K = some (.inl e)) : x = some (.inl e) ∨ ∃ u, x = some (.inr u) ∧ K u = some (.inl e) := by
  obtain ⟨z, h1, h2⟩ := ob h
  cases z with
  | inl e2 => cases h2; exact Or.inl h1
  | inr u => exact Or.inr ⟨u, h1, h2⟩
theorem tq_r {α β : Type} {x : Option (Nat ⊕ α)} {K : α → Option β} {y : β} (h : tq x K = some y) : ∃ u, x = some (.inr u) ∧ K u = some y := by
  obtain ⟨z, h1, h2⟩ := ob h
  cases z with
  | inl e => cases h2
  | inr u => exact ⟨u, h1, h2⟩
theorem lk_ne {x v : Int32} {k : Int} (hk : v.toInt = k) (h : ¬ x = v) : x.toInt ≠ k := fun q => h (Int32.toInt_inj.mp (q.trans hk.symm))
theorem tab_0_2 {x : Int32} (c0 : ¬ x = 0) (c1 : ¬ x = 1) (c2 : ¬ x = 2) : x.toInt < 0 ∨ 2 < x.toInt := by
  have e0 := lk_ne (k := 0) (by decide) c0
  have e1 := lk_ne (k := 1) (by decide) c1
  have e2 := lk_ne (k := 2) (by decide) c2
  omega
theorem tab_0_3 {x : Int32} (c0 : ¬ x = 0) (c1 : ¬ x = 1) (c2 : ¬ x = 2) (c3 : ¬ x = 3) : x.toInt < 0 ∨ 3 < x.toInt := by
  have e0 := lk_ne (k := 0) (by decide) c0
  have e1 := lk_ne (k := 1) (by decide) c1
  have e2 := lk_ne (k := 2) (by decide) c2
  have e3 := lk_ne (k := 3) (by decide) c3
  omega
theorem tab_0_4 {x : Int32} (c0 : ¬ x = 0) (c1 : ¬ x = 1) (c2 : ¬ x = 2) (c3 : ¬ x = 3) (c4 : ¬ x = 4) : x.toInt < 0 ∨ 4 < x.toInt := by
  have e0 := lk_ne (k := 0) (by decide) c0
  have e1 := lk_ne (k := 1) (by decide) c1
  have e2 := lk_ne (k := 2) (by decide) c2
  have e3 := lk_ne (k := 3) (by decide) c3
  have e4 := lk_ne (k := 4) (by decide) c4
  omega
theorem tab_0_7 {x : Int32} (c0 : ¬ x = 0) (c1 : ¬ x = 1) (c2 : ¬ x = 2) (c3 : ¬ x = 3) (c4 : ¬ x = 4) (c5 : ¬ x = 5) (c6 : ¬ x = 6) (c7 : ¬ x = 7) : x.toInt < 0 ∨ 7 < x.toInt := by
  have e0 := lk_ne (k := 0) (by decide) c0
  have e1 := lk_ne (k := 1) (by decide) c1
  have e2 := lk_ne (k := 2) (by decide) c2
  have e3 := lk_ne (k := 3) (by decide) c3
  have e4 := lk_ne (k := 4) (by decide) c4
  have e5 := lk_ne (k := 5) (by decide) c5
  have e6 := lk_ne (k := 6) (by decide) c6
  have e7 := lk_ne (k := 7) (by decide) c7
  omega
theorem tab_0_8 {x : Int32} (c0 : ¬ x = 0) (c1 : ¬ x = 1) (c2 : ¬ x = 2) (c3 : ¬ x = 3) (c4 : ¬ x = 4) (c5 : ¬ x = 5) (c6 : ¬ x = 6) (c7 : ¬ x = 7) (c8 : ¬ x = 8) : x.toInt < 0 ∨ 8 < x.toInt := by
  have e0 := lk_ne (k := 0) (by decide) c0
  have e1 := lk_ne (k := 1) (by decide) c1
  have e2 := lk_ne (k := 2) (by decide) c2
  have e3 := lk_ne (k := 3) (by decide) c3
  have e4 := lk_ne (k := 4) (by decide) c4
  have e5 := lk_ne (k := 5) (by decide) c5
  have e6 := lk_ne (k := 6) (by decide) c6
  have e7 := lk_ne (k := 7) (by decide) c7
  have e8 := lk_ne (k := 8) (by decide) c8
  omega
theorem tab_3_9 {x : Int32} (c3 : ¬ x = 3) (c4 : ¬ x = 4) (c5 : ¬ x = 5) (c6 : ¬ x = 6) (c7 : ¬ x = 7) (c8 : ¬ x = 8) (c9 : ¬ x = 9) : x.toInt < 3 ∨ 9 < x.toInt := by
  have e3 := lk_ne (k := 3) (by decide) c3
  have e4 := lk_ne (k := 4) (by decide) c4
  have e5 := lk_ne (k := 5) (by decide) c5
  have e6 := lk_ne (k := 6) (by decide) c6
  have e7 := lk_ne (k := 7) (by decide) c7
  have e8 := lk_ne (k := 8) (by decide) c8
  have e9 := lk_ne (k := 9) (by decide) c9
  omega
theorem tab_0_13 {x : Int32} (c0 : ¬ x = 0) (c1 : ¬ x = 1) (c2 : ¬ x = 2) (c3 : ¬ x = 3) (c4 : ¬ x = 4) (c5 : ¬ x = 5) (c6 : ¬ x = 6) (c7 : ¬ x = 7) (c8 : ¬ x = 8) (c9 : ¬ x = 9) (c10 : ¬ x = 10) (c11 : ¬ x = 11) (c12 : ¬ x = 12) (c13 : ¬ x = 13) : x.toInt < 0 ∨ 13 < x.toInt := by
  have e0 := lk_ne (k := 0) (by decide) c0
  have e1 := lk_ne (k := 1) (by decide) c1
  have e2 := lk_ne (k := 2) (by decide) c2
  have e3 := lk_ne (k := 3) (by decide) c3
  have e4 := lk_ne (k := 4) (by decide) c4
  have e5 := lk_ne (k := 5) (by decide) c5
  have e6 := lk_ne (k := 6) (by decide) c6
  have e7 := lk_ne (k := 7) (by decide) c7
  have e8 := lk_ne (k := 8) (by decide) c8
  have e9 := lk_ne (k := 9) (by decide) c9
  have e10 := lk_ne (k := 10) (by decide) c10
  have e11 := lk_ne (k := 11) (by decide) c11
  have e12 := lk_ne (k := 12) (by decide) c12
  have e13 := lk_ne (k := 13) (by decide) c13
  omega
theorem lk_out2 {z a b oa ob d : Int} (ha : z ≠ a) (hb : z ≠ b) : Op.lookupswitch.offset [(a, oa), (b, ob)] d z = d := by
  simp [Op.lookupswitch.offset, ha.symm, hb.symm]
abbrev iabs (x : Int32) : Int32 := if 0 ≤ x then x else 0 - x
abbrev imax (x y : Int32) : Int32 := if x < y then y else x
abbrev imin (x y : Int32) : Int32 := if y < x then y else x
/-! the pieces of a world -/
abbrev ShT : Type := (Nat → Int32) × (Nat → Int32) × (Nat → Int32) × (Nat → Int32) × (Nat → Int32) × (Nat → Int32) × (Nat → Int32) × Int32 × Int32 × Int32
abbrev ExT : Type := (Nat → Int32) × (Nat → Int32) × (Nat → Int32) × Int32 × Int32 × Int32 × Int32 × Int32 × Int32 × Int32
abbrev BoT : Type := Int32 × Int32 × Int32
abbrev MoT : Type := Int32 × Int32 × Int32 × Int32 × Int32 × Int32
abbrev gA (t : Nat → ClassId) (a n : Nat) (f : Nat → Int32) : va_W := [(a, .inl (t 0, n, .inl f))]
abbrev gJ (t : Nat → ClassId) (a : Nat) (f : Nat → Int64) : va_W := [(a, .inl (t 2, 1, .inr (.inl f)))]
abbrev gD (t : Nat → ClassId) (a : Nat) (f : Nat → UInt64) : va_W := [(a, .inl (t 3, 1, .inr (.inr (.inr (.inl f)))))]
abbrev gQ (t : Nat → ClassId) (a : Nat) (sa : Nat → Nat) : va_W := [(a, .inl (t 1, 6, .inr (.inr (.inr (.inr (fun i => some (sa i)))))))]
abbrev gBo (h : Nat) (k : Nat → Nat) (x : BoT) : va_W := [(h, .inr (2, [.ref (k 0), .ref (k 1), .ref (k 2), .ref (k 3), .int x.1, .int x.2.1, .ref (k 4), .int x.2.2]))]
abbrev gMo (h : Nat) (k : Nat → Nat) (x : MoT) : va_W := [(h, .inr (3, [.ref (k 0), .ref (k 1), .ref (k 2), .int x.1, .ref (k 3), .int x.2.1, .int x.2.2.1, .int x.2.2.2.1, .int x.2.2.2.2.1, .ref (k 4), .int x.2.2.2.2.2, .ref (k 5), .ref (k 6), .ref (k 7)]))]
abbrev gS (t : Nat → ClassId) (a : Nat) (b : Nat → Nat) (x : ShT) : va_W := [(a, .inr (1, [.ref (b 0), .ref (b 1), .ref (b 2), .ref (b 3), .ref (b 4), .ref (b 5), .ref (b 6), .int x.2.2.2.2.2.2.2.1, .int x.2.2.2.2.2.2.2.2.1, .int x.2.2.2.2.2.2.2.2.2])), (b 0, .inl (t 0, 2, .inl x.1)), (b 1, .inl (t 0, 2, .inl x.2.1)), (b 2, .inl (t 0, 24, .inl x.2.2.1)), (b 3, .inl (t 0, 24, .inl x.2.2.2.1)), (b 4, .inl (t 0, 6, .inl x.2.2.2.2.1)), (b 5, .inl (t 0, 4, .inl x.2.2.2.2.2.1)), (b 6, .inl (t 0, 6, .inl x.2.2.2.2.2.2.1))]
abbrev gE (t : Nat → ClassId) (a : Nat) (b : Nat → Nat) (x : ExT) : va_W := [(a, .inr (0, [.ref (b 0), .ref (b 1), .ref (b 2), .int x.2.2.2.1, .int x.2.2.2.2.1, .int x.2.2.2.2.2.1, .int x.2.2.2.2.2.2.1, .int x.2.2.2.2.2.2.2.1, .int x.2.2.2.2.2.2.2.2.1, .int x.2.2.2.2.2.2.2.2.2])), (b 0, .inl (t 0, 24, .inl x.1)), (b 1, .inl (t 0, 24, .inl x.2.1)), (b 2, .inl (t 0, 24, .inl x.2.2.1))]
abbrev g6 (t : Nat → ClassId) (sa : Nat → Nat) (sb : Nat → Nat → Nat) (sv : Nat → ShT) : va_W := gS t (sa 0) (sb 0) (sv 0) ++ (gS t (sa 1) (sb 1) (sv 1) ++ (gS t (sa 2) (sb 2) (sv 2) ++ (gS t (sa 3) (sb 3) (sv 3) ++ (gS t (sa 4) (sb 4) (sv 4) ++ gS t (sa 5) (sb 5) (sv 5)))))
/-! exceptions: what a throw stands on, and the contract of a method that throws -/
def xname : Nat → String
  | 0 => "java/lang/IndexOutOfBoundsException"
  | 1 => "java/lang/IllegalArgumentException"
  | _ => "java/lang/IllegalStateException"
abbrev xnames : List String := ["java/lang/RuntimeException", "java/lang/Exception"]
def xN (X : String) (U : State) : Prop := va_Nw (.declares (Bundle.initS "java/lang/RuntimeException")) U ∧ va_Nw (.declares (Bundle.initS "java/lang/Exception")) U ∧ va_Nw (.declares (Bundle.initS Bundle.tN)) U ∧ va_Nw (.castable X X) U
theorem xN.warm {X : String} {s U : State} (hW : s.WarmedH U.vm) (h : xN X s) : xN X U := ⟨va_Nw.warmD hW h.1, va_Nw.warmD hW h.2.1, va_Nw.warmD hW h.2.2.1, va_Nw.warmC hW h.2.2.2⟩
theorem xN.same {X : String} {u U : State} (e : u.vm = U.vm) (h : xN X u) : xN X U := ⟨va_Nw.same rfl e h.1, va_Nw.same rfl e h.2.1, va_Nw.same rfl e h.2.2.1, va_Nw.same rfl e h.2.2.2⟩
def xT (U : State) : Prop := ∃ sa, vk_R RX2 123 "no state is saved" sa U
theorem xT.warm {s U : State} (hW : s.WarmedH U.vm) (h : xT s) : xT U := by
  obtain ⟨a, ha⟩ := h
  exact ⟨a, vk_R.warm hW ha⟩
theorem xT.same {u U : State} (e : u.vm = U.vm) (h : xT u) : xT U := by
  obtain ⟨a, ha⟩ := h
  exact ⟨a, vk_R.same e.symm ha⟩
/-- what a throw stands on: the two statics of Throwable, outside A; the texts; words of the three classes -/
def xS (A : Nat → Prop) (U : State) (H : Heap) : Prop := (vx_Zq Bundle.tN "UNASSIGNED_STACK" Bundle.steD A U H ∧ vx_Zq Bundle.tN "SUPPRESSED_SENTINEL" Bundle.listD A U H) ∧ xT U ∧ xN (xname 2) U
theorem xS.to {A B : Nat → Prop} {s U : State} {H : Heap} {locs : List Loc} (h : xS A s s.heap) (hS : va_S A s.heap H locs) (hU : U.heap = H) (hW : s.WarmedH U.vm) (hAB : ∀ q, B q → A q) : xS B U U.heap := by
  obtain ⟨⟨h1, h2⟩, h3, h6⟩ := h
  rw [hU]
  exact ⟨⟨vx_Zq.moved hW.alike ((h1.kept hS.2.1).narrow hAB), vx_Zq.moved hW.alike ((h2.kept hS.2.1).narrow hAB)⟩, xT.warm hW h3, xN.warm hW h6⟩
def xPc (D : va_G) (t : Nat → ClassId) (ws : va_W) (sz : Nat) (av : List Value) : Array Value → State → Prop := fun v U => sPc D t ws sz av v U ∧ xS (va_A ws sz) U U.heap
theorem xPc_blind {D : va_G} {t : Nat → ClassId} {ws : va_W} {sz : Nat} {av : List Value} : FrameBlind (xPc D t ws sz av) := by
  intro a U g mk h
  obtain ⟨h1, ⟨h2, h3⟩, h4, h7⟩ := h
  exact ⟨sPc_blind a U g mk h1, ⟨vx_Zq.moved (u := U) (U := U.calling g mk a) (Vm.Alike.refl U.vm) h2, vx_Zq.moved (u := U) (U := U.calling g mk a) (Vm.Alike.refl U.vm) h3⟩, xT.same (u := U) (U := U.calling g mk a) rfl h4, xN.same (u := U) (U := U.calling g mk a) rfl h7⟩
theorem xPc_S {D : va_G} {t : Nat → ClassId} {ws : va_W} {av : List Value} {s : State} {H : Heap} {A A0 : Nat → Prop} {locs : List Loc} (hP : va_P D vwCl ws H) (hK : va_K D vwCl (TY t) s) (hD : va_D A ws) (hE : xE s) (hX : xS A0 s s.heap) (hS : va_S A0 s.heap H locs) (hAB : ∀ q, va_A ws H.size q → A0 q) : PreS s H (xPc D t ws H.size av) av :=
  ⟨xPc_blind, fun U hU hW => ⟨(sPc_S hP hK hD hE).2 U hU hW, hX.to hS hU hW hAB⟩⟩
theorem xPc_V {D : va_G} {t : Nat → ClassId} {ws : va_W} {b : Nat} {av : List Value} {s : State} {H : Heap} {A A0 : Nat → Prop} {locs : List Loc} {C : String} (hP : va_P D vwCl ws H) (hK : va_K D vwCl (TY t) s) (hD : va_D A ws) (hE : xE s)
    (hr : ∃ cellB : Cell, H[b]? = some cellB ∧ cellB.vm.isStatics = false ∧ s.vm.findClass C = some cellB.cls) (hX : xS A0 s s.heap) (hS : va_S A0 s.heap H locs) (hAB : ∀ q, va_A ws H.size q → A0 q) : PreV s H C b (xPc D t ws H.size (.ref b :: av)) av :=
  ⟨xPc_blind, hr, fun U hU hW => ⟨(sPc_V hP hK hD hE hr).2.2 U hU hW, hX.to hS hU hW hAB⟩⟩
abbrev qX (A : Nat → Prop) : Array Value → State → Outcome → State → Prop := va_Qv (fun (_ : Unit) => False) (fun _ _ => True) A
abbrev xC (D : va_G) (t : Nat → ClassId) (ws : va_W) (E : Nat) (A : Nat → Prop) : String → State → State → Prop := vx_X (fun (_ : Unit) => True) (fun En u tt => En = xname E ∧ sB D t ws A u tt) A
theorem met_ofX {l : Launch} {y : MethodName} {ws ws' : List Cond} {rm : Room} {D : va_G} {t : Nat → ClassId} {ww : va_W} {sz mc ms E : Nat} {av : List Value} {cc : ByteArray} {maxL : Nat} {ret : Option FieldType}
    (hy : plainName y.cls = true) (hw : ws = Cond.code y cc maxL ret :: ws') (hn : (lg_sl av).length ≤ maxL)
    (body : ∀ (p : Program) (e : Env) (s : State) (m : MethodId) (args : Array Value) (below : List Frame) (meth : Method) (c : Code) (A : Nat → Prop), p.tables.exec = Jvm.exec → c.code = cc → meth.sig.returnType = ret → c.maxLocals = maxL → (∀ w ∈ ws, w.before args s = true) → s.vm.findClass y.cls = some m.cls → meth.locks = false →
      (∀ q, s.heap.size ≤ q → A q) → va_P D vwCl ww s.heap → va_K D vwCl (TY t) s → va_D A ww → xE s → va_S A s.heap s.heap [] → xS A s s.heap → (∀ (x : ExceptionTableEntry), x ∈ c.exceptionTable.toList → ∀ pc, covers x pc = false) → ∀ ls : Array Slot, lv_has ls maxL (lv_args 0 av) →
      W p l e rm s m args below meth c s.heap [] 0 0 (vx_MQ below (qX A) (xC D t ww E A) args s mc ms A) (F0 m 0 ls [])) : vx_Met l y ws rm (xPc D t ww sz av) (qX (va_A ww sz)) (xC D t ww E (va_A ww sz)) mc ms (va_A ww sz) := by
  refine vx_ofW (cc := cc) (maxL := maxL) (ret := ret) hy hw ?_
  intro p e s m args below meth c s₁ B hml hnone hv
  obtain ⟨⟨rfl, hsz, hP, hK, hD0, hE⟩, hX⟩ := hv
  subst hsz
  rw [lg_entry_eq]
  exact body p e s m _ below meth c (va_A ww s.heap.size) B.exec B.bytes B.returns hml (atoms_spec (ws := ws) B.pre) (findClass_of_methodNamed B.named) B.notSynchronized (fun q h => Or.inr h) hP hK hD0.self hE va_S.rf hX (fun x hx => (hnone x hx).elim) _ (lv_entry av hn)
section XR
variable {p : Program} {l : Launch} {e : Env} {R : Room} {s : State} {m : MethodId} {args : Array Value} {below : List Frame} {meth : Method} {c : Code} {H : Heap} {locs : List Loc} {cells slots : Nat}
variable {D : va_G} {t : Nat → ClassId} {A : Nat → Prop} {ws wc : va_W} {pc : Nat} {ls : Array Slot} {st0 rest : List Value} {a : Array Value} {Qc : Array Value → State → Outcome → State → Prop}
/-- a callee throws; it isn't caught here -/
theorem call_x {E : Nat} (cut : Cut D A ws wc wc ws H) (hS : va_S A s.heap H locs) (hK : va_K D vwCl (TY t) s) (hT : ∀ (x : ExceptionTableEntry), x ∈ c.exceptionTable.toList → ∀ pc, covers x pc = false) (hlocks : meth.locks = false) (hc : cells + 1 ≤ 1) (hs : slots + 6 ≤ 6)
    (hr : va_P D vwCl wc H → va_D A wc → (∀ q, va_A wc H.size q → A q) → vx_Run p l e R s m args below meth c H locs cells slots 1 6 (F0 m pc ls st0) rest (qX (va_A wc H.size) a) (xC D t wc E (va_A wc H.size)) (va_A wc H.size)) :
    W p l e R s m args below meth c H locs cells slots (vx_MQ below Qc (xC D t ws E A) args s 1 6 A) (F0 m pc ls st0) := by
  obtain ⟨hPc, hDc, hfr, hup⟩ := cut
  refine vx_callv (hr hPc hDc hfr) hS (fun q _ h => hfr q h) hfr (fun q _ h => hfr q h) (fun En ce q9 u tt H1 locs1 ht hvm _ hB hz hk hS1 hcell hv hcl => ?_) (fun u tt H1 locs1 ht hvm hf => hf.elim)
  obtain ⟨rfl, hP1, -, -⟩ := hB
  rw [ht] at hP1
  obtain ⟨a2, a3⟩ := hup H1 hk hP1
  exact vx_out (fun x hx => hT x hx pc) hlocks hcell hv hcl (fun t9 h9 h8 => ⟨(), trivial, ⟨rfl, by rw [h9]; exact a2, va_K.moved h8 hK, a3⟩, hS1.F h9⟩) hS1.2.2 hc hs
end XR
theorem xhat2 {args : Array Value} {s : State} (h1 : ∀ w ∈ BIG, w.before args s = true) (h : xN (xname 2) s) : ∀ w ∈ vx_atS RX2 104 (xname 2) xnames, w.before args s = true :=
  vx_hat (B := [.declares (Bundle.initS "java/lang/RuntimeException"), .declares (Bundle.initS "java/lang/Exception"), .declares (Bundle.initS Bundle.tN), .castable (xname 2) (xname 2)]) (fun w hw => h1 w (List.mem_append_right _ hw)) (by decide +kernel) (vx_c (va_Nw.use rfl h.1) (vx_c (va_Nw.use rfl h.2.1) (vx_c (va_Nw.use rfl h.2.2.1) (vx_c (va_Nw.use rfl h.2.2.2) vx_n))))
theorem xgood2 : ∀ w ∈ Cond.classLink RX2 100 (xname 2) :: Cond.initialized (xname 2) :: vx_atS RX2 104 (xname 2) xnames, vx_ot w = true := by decide +kernel
theorem pin6 {i : Int32} (h : pin i 6 = true) : i.toNatClampNeg = 0 ∨ i.toNatClampNeg = 1 ∨ i.toNatClampNeg = 2 ∨ i.toNatClampNeg = 3 ∨ i.toNatClampNeg = 4 ∨ i.toNatClampNeg = 5 := by
  have h1 : ¬ (i < 0 ∨ 6 ≤ i.toNatClampNeg) := of_decide_eq_true h
  have h2 : ¬ 6 ≤ i.toNatClampNeg := fun q => h1 (Or.inr q)
  omega
end
section
theorem dX2_at_0 : decode cX2_at 0 = .ok (.iload_n 1, 1) := by decide +kernel
theorem dX2_at_1 : decode cX2_at 1 = .ok (.ifCond .lt 15, 3) := by decide +kernel
theorem dX2_at_4 : decode cX2_at 4 = .ok (.iload_n 1, 1) := by decide +kernel
theorem dX2_at_5 : decode cX2_at 5 = .ok (.aload_n 0, 1) := by decide +kernel
theorem dX2_at_6 : decode cX2_at 6 = .ok (.arraylength, 1) := by decide +kernel
theorem dX2_at_7 : decode cX2_at 7 = .ok (.if_icmp .ge 9, 3) := by decide +kernel
theorem dX2_at_10 : decode cX2_at 10 = .ok (.aload_n 0, 1) := by decide +kernel
theorem dX2_at_11 : decode cX2_at 11 = .ok (.iload_n 1, 1) := by decide +kernel
theorem dX2_at_12 : decode cX2_at 12 = .ok (.iaload, 1) := by decide +kernel
theorem dX2_at_13 : decode cX2_at 13 = .ok (.goto 4, 3) := by decide +kernel
theorem dX2_at_16 : decode cX2_at 16 = .ok (.iconst 0, 1) := by decide +kernel
theorem dX2_at_17 : decode cX2_at 17 = .ok (.ireturn, 1) := by decide +kernel
abbrev zX2_at : List Cond := .code yX2_at cX2_at 2 (some .int) :: BIG
def fX2_at (n : Nat) (f : (Nat → Int32)) (i : Int32) : Option (Int32) := (if i < 0 then some 0 else (if (nI n) ≤ i then some 0 else gd (pin i n) (some (f (Int32.toNatClampNeg i)))))
set_option maxHeartbeats 4000000 in
set_option maxRecDepth 100000 in
theorem mtX2_at (l : Launch) (D : va_G) (t : Nat → ClassId) (fa : Nat) (n : Nat) (f : (Nat → Int32)) (i : Int32) (out : Int32) (h : fX2_at n f i = some out) (n_lt : n < 2 ^ 31) (sz : Nat) : Met l yX2_at zX2_at ({ frames := 0, cells := 0, slots := 0, locals := 0 }) (sPc D t (gA t fa n f) sz [.ref fa, .int i]) (qI D t (gA t fa n f) out (va_A (gA t fa n f) sz)) 0 0 (va_A (gA t fa n f) sz) := by
  refine met_of (Qf := fun A => qI D t (gA t fa n f) out A) (cc := cX2_at) (maxL := 2) (ret := some .int) (by decide) rfl (Nat.le_of_ble_eq_true rfl) ?_
  intro p e s m args below meth c A hx hb hr hml hts hown hlocks hA hP hK hD hE hS ls hl
  have htB : ∀ w ∈ BIG, w.before args s = true := fun w h => hts w (List.mem_cons_of_mem _ h)
  have hown : s.vm.findClass RX2 = some m.cls := hown
  have hl : lv_has ls 2 [(0, .ref fa), (1, .int i)] := hl
  unfold fX2_at at h
  refine lv_iload_n hx hb dX2_at_0 rfl (lv_at hl 1 rfl) ?_
  refine lv_if_lt (tgt := 16) hx hb dX2_at_1 (by decide) (fun c1 => ?_) (fun c1 => ?_)
  · have h := it_p c1 h
    refine lv_iconst (v := 0) hx hb dX2_at_16 (by decide) ?_
    obtain rfl := os h
    exact ret_i hx hb hr hlocks hP hK hD hS dX2_at_17
  · have h := it_n c1 h
    refine lv_iload_n hx hb dX2_at_4 rfl (lv_at hl 1 rfl) ?_
    refine lv_aload_n hx hb dX2_at_5 rfl (lv_at hl 0 rfl) ?_
    refine va_alen (v := (nI n)) hx hb hK hP 0 0 rfl rfl rfl dX2_at_6 ?_
    refine lv_icmp_ge (tgt := 16) hx hb dX2_at_7 (by decide) (fun c2 => ?_) (fun c2 => ?_)
    · have h := it_p c2 h
      refine lv_iconst (v := 0) hx hb dX2_at_16 (by decide) ?_
      obtain rfl := os h
      exact ret_i hx hb hr hlocks hP hK hD hS dX2_at_17
    · have h := it_n c2 h
      refine lv_aload_n hx hb dX2_at_10 rfl (lv_at hl 0 rfl) ?_
      refine lv_iload_n hx hb dX2_at_11 rfl (lv_at hl 1 rfl) ?_
      obtain ⟨g3, h⟩ := og h
      refine va_iald hx hb hK hP 0 0 rfl rfl (pin_in g3) dX2_at_12 ?_
      refine lv_goto (tgt := 17) hx hb dX2_at_13 (by decide) ?_
      obtain rfl := os h
      exact ret_i hx hb hr hlocks hP hK hD hS dX2_at_17

theorem dX2_put_0 : decode cX2_put 0 = .ok (.iload_n 1, 1) := by decide +kernel
theorem dX2_put_1 : decode cX2_put 1 = .ok (.ifCond .lt 13, 3) := by decide +kernel
theorem dX2_put_4 : decode cX2_put 4 = .ok (.iload_n 1, 1) := by decide +kernel
theorem dX2_put_5 : decode cX2_put 5 = .ok (.aload_n 0, 1) := by decide +kernel
theorem dX2_put_6 : decode cX2_put 6 = .ok (.arraylength, 1) := by decide +kernel
theorem dX2_put_7 : decode cX2_put 7 = .ok (.if_icmp .ge 7, 3) := by decide +kernel
theorem dX2_put_10 : decode cX2_put 10 = .ok (.aload_n 0, 1) := by decide +kernel
theorem dX2_put_11 : decode cX2_put 11 = .ok (.iload_n 1, 1) := by decide +kernel
theorem dX2_put_12 : decode cX2_put 12 = .ok (.iload_n 2, 1) := by decide +kernel
theorem dX2_put_13 : decode cX2_put 13 = .ok (.iastore, 1) := by decide +kernel
theorem dX2_put_14 : decode cX2_put 14 = .ok (.return_, 1) := by decide +kernel
abbrev zX2_put : List Cond := .code yX2_put cX2_put 3 none :: BIG
def fX2_put (n : Nat) (f : (Nat → Int32)) (i : Int32) (v : Int32) : Option ((Nat → Int32)) := (if i < 0 then some f else (if (nI n) ≤ i then some f else gd (pin i n) (some (upd f (Int32.toNatClampNeg i) v))))
set_option maxHeartbeats 4000000 in
set_option maxRecDepth 100000 in
theorem mtX2_put (l : Launch) (D : va_G) (t : Nat → ClassId) (fa : Nat) (n : Nat) (f : (Nat → Int32)) (i : Int32) (v : Int32) (out : (Nat → Int32)) (h : fX2_put n f i v = some out) (n_lt : n < 2 ^ 31) (sz : Nat) : Met l yX2_put zX2_put ({ frames := 0, cells := 0, slots := 0, locals := 0 }) (sPc D t (gA t fa n f) sz [.ref fa, .int i, .int v]) (qV D t (gA t fa n out) (va_A (gA t fa n f) sz)) 0 0 (va_A (gA t fa n f) sz) := by
  refine met_of (Qf := fun A => qV D t (gA t fa n out) A) (cc := cX2_put) (maxL := 3) (ret := none) (by decide) rfl (Nat.le_of_ble_eq_true rfl) ?_
  intro p e s m args below meth c A hx hb hr hml hts hown hlocks hA hP hK hD hE hS ls hl
  have htB : ∀ w ∈ BIG, w.before args s = true := fun w h => hts w (List.mem_cons_of_mem _ h)
  have hown : s.vm.findClass RX2 = some m.cls := hown
  have hl : lv_has ls 3 [(0, .ref fa), (1, .int i), (2, .int v)] := hl
  unfold fX2_put at h
  refine lv_iload_n hx hb dX2_put_0 rfl (lv_at hl 1 rfl) ?_
  refine lv_if_lt (tgt := 14) hx hb dX2_put_1 (by decide) (fun c1 => ?_) (fun c1 => ?_)
  · have h := it_p c1 h
    obtain rfl := os h
    exact ret_v hx hb hr hlocks hP hK hD hS dX2_put_14
  · have h := it_n c1 h
    refine lv_iload_n hx hb dX2_put_4 rfl (lv_at hl 1 rfl) ?_
    refine lv_aload_n hx hb dX2_put_5 rfl (lv_at hl 0 rfl) ?_
    refine va_alen (v := (nI n)) hx hb hK hP 0 0 rfl rfl rfl dX2_put_6 ?_
    refine lv_icmp_ge (tgt := 14) hx hb dX2_put_7 (by decide) (fun c2 => ?_) (fun c2 => ?_)
    · have h := it_p c2 h
      obtain rfl := os h
      exact ret_v hx hb hr hlocks hP hK hD hS dX2_put_14
    · have h := it_n c2 h
      refine lv_aload_n hx hb dX2_put_10 rfl (lv_at hl 0 rfl) ?_
      refine lv_iload_n hx hb dX2_put_11 rfl (lv_at hl 1 rfl) ?_
      refine lv_iload_n hx hb dX2_put_12 rfl (lv_at hl 2 rfl) ?_
      obtain ⟨g3, h⟩ := og h
      refine va_iast hx hb hK hP hD hS 0 0 rfl rfl (pin_in g3) dX2_put_13 (fun H locs hP hD hS => ?_)
      have hP : va_P D vwCl (gA t fa n (upd f (Int32.toNatClampNeg i) v)) H := hP
      have hD : va_D A (gA t fa n (upd f (Int32.toNatClampNeg i) v)) := hD
      obtain rfl := os h
      exact ret_v hx hb hr hlocks hP hK hD hS dX2_put_14

theorem dX2_copyRow_0 : decode cX2_copyRow 0 = .ok (.iconst 0, 1) := by decide +kernel
theorem dX2_copyRow_1 : decode cX2_copyRow 1 = .ok (.istore_n 2, 1) := by decide +kernel
theorem dX2_copyRow_2 : decode cX2_copyRow 2 = .ok (.iload_n 2, 1) := by decide +kernel
theorem dX2_copyRow_3 : decode cX2_copyRow 3 = .ok (.aload_n 0, 1) := by decide +kernel
theorem dX2_copyRow_4 : decode cX2_copyRow 4 = .ok (.arraylength, 1) := by decide +kernel
theorem dX2_copyRow_5 : decode cX2_copyRow 5 = .ok (.if_icmp .ge 21, 3) := by decide +kernel
theorem dX2_copyRow_8 : decode cX2_copyRow 8 = .ok (.iload_n 2, 1) := by decide +kernel
theorem dX2_copyRow_9 : decode cX2_copyRow 9 = .ok (.aload_n 1, 1) := by decide +kernel
theorem dX2_copyRow_10 : decode cX2_copyRow 10 = .ok (.arraylength, 1) := by decide +kernel
theorem dX2_copyRow_11 : decode cX2_copyRow 11 = .ok (.if_icmp .ge 15, 3) := by decide +kernel
theorem dX2_copyRow_14 : decode cX2_copyRow 14 = .ok (.aload_n 1, 1) := by decide +kernel
theorem dX2_copyRow_15 : decode cX2_copyRow 15 = .ok (.iload_n 2, 1) := by decide +kernel
theorem dX2_copyRow_16 : decode cX2_copyRow 16 = .ok (.aload_n 0, 1) := by decide +kernel
theorem dX2_copyRow_17 : decode cX2_copyRow 17 = .ok (.iload_n 2, 1) := by decide +kernel
theorem dX2_copyRow_18 : decode cX2_copyRow 18 = .ok (.iaload, 1) := by decide +kernel
theorem dX2_copyRow_19 : decode cX2_copyRow 19 = .ok (.iastore, 1) := by decide +kernel
theorem dX2_copyRow_20 : decode cX2_copyRow 20 = .ok (.iinc 2 1, 3) := by decide +kernel
theorem dX2_copyRow_23 : decode cX2_copyRow 23 = .ok (.goto (-21), 3) := by decide +kernel
theorem dX2_copyRow_26 : decode cX2_copyRow 26 = .ok (.return_, 1) := by decide +kernel
abbrev zX2_copyRow : List Cond := .code yX2_copyRow cX2_copyRow 3 none :: BIG
def fX2_copyRow_l2 (n : Nat) (f : (Nat → Int32)) (nb : Nat)  (K2 : ((Nat → Int32) × Int32) → Option ((Nat → Int32))) (v2 : (Nat → Int32) × Int32) : Option ((Nat → Int32)) := (if (nI n) ≤ v2.2 then some v2.1 else (if (nI nb) ≤ v2.2 then some v2.1 else gd (pin v2.2 n) (gd (pin v2.2 nb) (K2 ((upd v2.1 (Int32.toNatClampNeg v2.2) (f (Int32.toNatClampNeg v2.2))), v2.2 + 1)))))
def fX2_copyRow (n : Nat) (f : (Nat → Int32)) (nb : Nat) (g : (Nat → Int32)) : Option ((Nat → Int32)) := lp (fX2_copyRow_l2 n f nb) 2000 (g, 0)
set_option maxHeartbeats 4000000 in
set_option maxRecDepth 100000 in
theorem mtX2_copyRow (l : Launch) (D : va_G) (t : Nat → ClassId) (fa : Nat) (n : Nat) (f : (Nat → Int32)) (ga : Nat) (nb : Nat) (g : (Nat → Int32)) (out : (Nat → Int32)) (h : fX2_copyRow n f nb g = some out) (n_lt : n < 2 ^ 31) (nb_lt : nb < 2 ^ 31) (sz : Nat) : Met l yX2_copyRow zX2_copyRow ({ frames := 0, cells := 0, slots := 0, locals := 0 }) (sPc D t (gA t fa n f ++ (gA t ga nb g)) sz [.ref fa, .ref ga]) (qV D t (gA t fa n f ++ (gA t ga nb out)) (va_A (gA t fa n f ++ (gA t ga nb g)) sz)) 0 0 (va_A (gA t fa n f ++ (gA t ga nb g)) sz) := by
  refine met_of (Qf := fun A => qV D t (gA t fa n f ++ (gA t ga nb out)) A) (cc := cX2_copyRow) (maxL := 3) (ret := none) (by decide) rfl (Nat.le_of_ble_eq_true rfl) ?_
  intro p e s m args below meth c A hx hb hr hml hts hown hlocks hA hP hK hD hE hS ls hl
  have htB : ∀ w ∈ BIG, w.before args s = true := fun w h => hts w (List.mem_cons_of_mem _ h)
  have hown : s.vm.findClass RX2 = some m.cls := hown
  have hl : lv_has ls 3 [(0, .ref fa), (1, .ref ga)] := hl
  unfold fX2_copyRow at h
  have J2 : ∀ (fu2 : Nat) (v2 : (Nat → Int32) × Int32), lp (fX2_copyRow_l2 n f nb) fu2 v2 = some out → ∀ (H : Heap) (locs : List Loc), va_P D vwCl (gA t fa n f ++ (gA t ga nb v2.1)) H → va_D A (gA t fa n f ++ (gA t ga nb v2.1)) → va_S A s.heap H locs → ∀ ls : Array Slot, lv_has ls 3 [(0, .ref fa), (1, .ref ga), (2, .int v2.2)] → W p l e ({ frames := 0, cells := 0, slots := 0, locals := 0 }) s m args below meth c H locs 0 0 (MQ below (qV D t (gA t fa n f ++ (gA t ga nb out)) A) args s 0 0 A) (F0 m 2 ls []) := by
    intro fu2
    induction fu2 with
    | zero => intro v2 h; cases h
    | succ fu2 ih2 =>
      intro v2 h H locs hP hD hS ls hl
      have h : fX2_copyRow_l2 n f nb (lp (fX2_copyRow_l2 n f nb) fu2) v2 = some out := h
      unfold fX2_copyRow_l2 at h
      refine lv_iload_n hx hb dX2_copyRow_2 rfl (lv_at hl 2 rfl) ?_
      refine lv_aload_n hx hb dX2_copyRow_3 rfl (lv_at hl 0 rfl) ?_
      refine va_alen (v := (nI n)) hx hb hK hP 0 0 rfl rfl rfl dX2_copyRow_4 ?_
      refine lv_icmp_ge (tgt := 26) hx hb dX2_copyRow_5 (by decide) (fun c1 => ?_) (fun c1 => ?_)
      · have h := it_p c1 h
        obtain rfl := os h
        exact ret_v hx hb hr hlocks hP hK hD hS dX2_copyRow_26
      · have h := it_n c1 h
        refine lv_iload_n hx hb dX2_copyRow_8 rfl (lv_at hl 2 rfl) ?_
        refine lv_aload_n hx hb dX2_copyRow_9 rfl (lv_at hl 1 rfl) ?_
        refine va_alen (v := (nI nb)) hx hb hK hP 1 0 rfl rfl rfl dX2_copyRow_10 ?_
        refine lv_icmp_ge (tgt := 26) hx hb dX2_copyRow_11 (by decide) (fun c2 => ?_) (fun c2 => ?_)
        · have h := it_p c2 h
          obtain rfl := os h
          exact ret_v hx hb hr hlocks hP hK hD hS dX2_copyRow_26
        · have h := it_n c2 h
          refine lv_aload_n hx hb dX2_copyRow_14 rfl (lv_at hl 1 rfl) ?_
          refine lv_iload_n hx hb dX2_copyRow_15 rfl (lv_at hl 2 rfl) ?_
          refine lv_aload_n hx hb dX2_copyRow_16 rfl (lv_at hl 0 rfl) ?_
          refine lv_iload_n hx hb dX2_copyRow_17 rfl (lv_at hl 2 rfl) ?_
          obtain ⟨g3, h⟩ := og h
          refine va_iald hx hb hK hP 0 0 rfl rfl (pin_in g3) dX2_copyRow_18 ?_
          obtain ⟨g4, h⟩ := og h
          refine va_iast hx hb hK hP hD hS 1 0 rfl rfl (pin_in g4) dX2_copyRow_19 (fun H locs hP hD hS => ?_)
          have hP : va_P D vwCl (gA t fa n f ++ (gA t ga nb (upd v2.1 (Int32.toNatClampNeg v2.2) (f (Int32.toNatClampNeg v2.2))))) H := hP
          have hD : va_D A (gA t fa n f ++ (gA t ga nb (upd v2.1 (Int32.toNatClampNeg v2.2) (f (Int32.toNatClampNeg v2.2))))) := hD
          refine lv_iinc (v := v2.2 + 1) (lv' := [(2, .int (v2.2 + 1)), (0, .ref fa), (1, .ref ga)]) hx hb dX2_copyRow_20 hl (k := 2) rfl rfl (by decide) rfl (fun ls hl => ?_)
          refine lv_goto (tgt := 2) hx hb dX2_copyRow_23 (by decide) ?_
          exact ih2 ((upd v2.1 (Int32.toNatClampNeg v2.2) (f (Int32.toNatClampNeg v2.2))), v2.2 + 1) h _ _ hP hD hS _ (lv_sub hl [1, 2, 0] rfl)
  refine lv_iconst (v := 0) hx hb dX2_copyRow_0 (by decide) ?_
  refine lv_istore_n (lv' := [(2, .int 0), (0, .ref fa), (1, .ref ga)]) hx hb dX2_copyRow_1 rfl hl (by decide) rfl (fun ls hl => ?_)
  exact J2 2000 (g, 0) h _ _ hP hD hS _ (lv_sub hl [1, 2, 0] rfl)

theorem dX2_wantedLight_0 : decode cX2_wantedLight 0 = .ok (.bipush 20, 2) := by decide +kernel
theorem dX2_wantedLight_2 : decode cX2_wantedLight 2 = .ok (.iload_n 0, 1) := by decide +kernel
theorem dX2_wantedLight_3 : decode cX2_wantedLight 3 = .ok (.ishl, 1) := by decide +kernel
theorem dX2_wantedLight_4 : decode cX2_wantedLight 4 = .ok (.ireturn, 1) := by decide +kernel
abbrev zX2_wantedLight : List Cond := .code yX2_wantedLight cX2_wantedLight 1 (some .int) :: BIG
def fX2_wantedLight (v : Int32) : Option (Int32) := some (20 <<< (v &&& 31))
set_option maxHeartbeats 4000000 in
set_option maxRecDepth 100000 in
theorem mtX2_wantedLight (l : Launch) (D : va_G) (t : Nat → ClassId) (v : Int32) (out : Int32) (h : fX2_wantedLight v = some out)  (sz : Nat) : Met l yX2_wantedLight zX2_wantedLight ({ frames := 0, cells := 0, slots := 0, locals := 0 }) (sPc D t ([] : va_W) sz [.int v]) (qI D t ([] : va_W) out (va_A ([] : va_W) sz)) 0 0 (va_A ([] : va_W) sz) := by
  refine met_of (Qf := fun A => qI D t ([] : va_W) out A) (cc := cX2_wantedLight) (maxL := 1) (ret := some .int) (by decide) rfl (Nat.le_of_ble_eq_true rfl) ?_
  intro p e s m args below meth c A hx hb hr hml hts hown hlocks hA hP hK hD hE hS ls hl
  have htB : ∀ w ∈ BIG, w.before args s = true := fun w h => hts w (List.mem_cons_of_mem _ h)
  have hown : s.vm.findClass RX2 = some m.cls := hown
  have hl : lv_has ls 1 [(0, .int v)] := hl
  unfold fX2_wantedLight at h
  refine lv_bipush (v := 20) hx hb dX2_wantedLight_0 (by decide) ?_
  refine lv_iload_n hx hb dX2_wantedLight_2 rfl (lv_at hl 0 rfl) ?_
  refine lv_ishl hx hb dX2_wantedLight_3 ?_
  obtain rfl := os h
  exact ret_i hx hb hr hlocks hP hK hD hS dX2_wantedLight_4

theorem dX1_become_0 : decode cX1_become 0 = .ok (.aload_n 1, 1) := by decide +kernel
theorem dX1_become_1 : decode cX1_become 1 = .ok (.getfield 9, 3) := by decide +kernel
theorem dX1_become_4 : decode cX1_become 4 = .ok (.aload_n 0, 1) := by decide +kernel
theorem dX1_become_5 : decode cX1_become 5 = .ok (.getfield 9, 3) := by decide +kernel
theorem dX1_become_8 : decode cX1_become 8 = .ok (.invokestatic 43, 3) := by decide +kernel
theorem dX1_become_11 : decode cX1_become 11 = .ok (.aload_n 1, 1) := by decide +kernel
theorem dX1_become_12 : decode cX1_become 12 = .ok (.getfield 15, 3) := by decide +kernel
theorem dX1_become_15 : decode cX1_become 15 = .ok (.aload_n 0, 1) := by decide +kernel
theorem dX1_become_16 : decode cX1_become 16 = .ok (.getfield 15, 3) := by decide +kernel
theorem dX1_become_19 : decode cX1_become 19 = .ok (.invokestatic 43, 3) := by decide +kernel
theorem dX1_become_22 : decode cX1_become 22 = .ok (.aload_n 1, 1) := by decide +kernel
theorem dX1_become_23 : decode cX1_become 23 = .ok (.getfield 18, 3) := by decide +kernel
theorem dX1_become_26 : decode cX1_become 26 = .ok (.aload_n 0, 1) := by decide +kernel
theorem dX1_become_27 : decode cX1_become 27 = .ok (.getfield 18, 3) := by decide +kernel
theorem dX1_become_30 : decode cX1_become 30 = .ok (.invokestatic 43, 3) := by decide +kernel
theorem dX1_become_33 : decode cX1_become 33 = .ok (.aload_n 1, 1) := by decide +kernel
theorem dX1_become_34 : decode cX1_become 34 = .ok (.getfield 21, 3) := by decide +kernel
theorem dX1_become_37 : decode cX1_become 37 = .ok (.aload_n 0, 1) := by decide +kernel
theorem dX1_become_38 : decode cX1_become 38 = .ok (.getfield 21, 3) := by decide +kernel
theorem dX1_become_41 : decode cX1_become 41 = .ok (.invokestatic 43, 3) := by decide +kernel
theorem dX1_become_44 : decode cX1_become 44 = .ok (.aload_n 1, 1) := by decide +kernel
theorem dX1_become_45 : decode cX1_become 45 = .ok (.getfield 24, 3) := by decide +kernel
theorem dX1_become_48 : decode cX1_become 48 = .ok (.aload_n 0, 1) := by decide +kernel
theorem dX1_become_49 : decode cX1_become 49 = .ok (.getfield 24, 3) := by decide +kernel
theorem dX1_become_52 : decode cX1_become 52 = .ok (.invokestatic 43, 3) := by decide +kernel
theorem dX1_become_55 : decode cX1_become 55 = .ok (.aload_n 1, 1) := by decide +kernel
theorem dX1_become_56 : decode cX1_become 56 = .ok (.getfield 27, 3) := by decide +kernel
theorem dX1_become_59 : decode cX1_become 59 = .ok (.aload_n 0, 1) := by decide +kernel
theorem dX1_become_60 : decode cX1_become 60 = .ok (.getfield 27, 3) := by decide +kernel
theorem dX1_become_63 : decode cX1_become 63 = .ok (.invokestatic 43, 3) := by decide +kernel
theorem dX1_become_66 : decode cX1_become 66 = .ok (.aload_n 1, 1) := by decide +kernel
theorem dX1_become_67 : decode cX1_become 67 = .ok (.getfield 30, 3) := by decide +kernel
theorem dX1_become_70 : decode cX1_become 70 = .ok (.aload_n 0, 1) := by decide +kernel
theorem dX1_become_71 : decode cX1_become 71 = .ok (.getfield 30, 3) := by decide +kernel
theorem dX1_become_74 : decode cX1_become 74 = .ok (.invokestatic 43, 3) := by decide +kernel
theorem dX1_become_77 : decode cX1_become 77 = .ok (.aload_n 0, 1) := by decide +kernel
theorem dX1_become_78 : decode cX1_become 78 = .ok (.aload_n 1, 1) := by decide +kernel
theorem dX1_become_79 : decode cX1_become 79 = .ok (.getfield 33, 3) := by decide +kernel
theorem dX1_become_82 : decode cX1_become 82 = .ok (.putfield 33, 3) := by decide +kernel
theorem dX1_become_85 : decode cX1_become 85 = .ok (.aload_n 0, 1) := by decide +kernel
theorem dX1_become_86 : decode cX1_become 86 = .ok (.aload_n 1, 1) := by decide +kernel
theorem dX1_become_87 : decode cX1_become 87 = .ok (.getfield 37, 3) := by decide +kernel
theorem dX1_become_90 : decode cX1_become 90 = .ok (.putfield 37, 3) := by decide +kernel
theorem dX1_become_93 : decode cX1_become 93 = .ok (.aload_n 0, 1) := by decide +kernel
theorem dX1_become_94 : decode cX1_become 94 = .ok (.aload_n 1, 1) := by decide +kernel
theorem dX1_become_95 : decode cX1_become 95 = .ok (.getfield 40, 3) := by decide +kernel
theorem dX1_become_98 : decode cX1_become 98 = .ok (.putfield 40, 3) := by decide +kernel
theorem dX1_become_101 : decode cX1_become 101 = .ok (.return_, 1) := by decide +kernel
abbrev zX1_become : List Cond := .code yX1_become cX1_become 2 none :: BIG
def fX1_become (x : ShT) (y : ShT) : Option (ShT) := (fX2_copyRow 2 y.1 2 x.1).bind (fun r1 => (fX2_copyRow 2 y.2.1 2 x.2.1).bind (fun r2 => (fX2_copyRow 24 y.2.2.1 24 x.2.2.1).bind (fun r3 => (fX2_copyRow 24 y.2.2.2.1 24 x.2.2.2.1).bind (fun r4 => (fX2_copyRow 6 y.2.2.2.2.1 6 x.2.2.2.2.1).bind (fun r5 => (fX2_copyRow 4 y.2.2.2.2.2.1 4 x.2.2.2.2.2.1).bind (fun r6 => (fX2_copyRow 6 y.2.2.2.2.2.2.1 6 x.2.2.2.2.2.2.1).bind (fun r7 => some (r1, r2, r3, r4, r5, r6, r7, y.2.2.2.2.2.2.2.1, y.2.2.2.2.2.2.2.2.1, y.2.2.2.2.2.2.2.2.2))))))))
set_option maxHeartbeats 4000000 in
set_option maxRecDepth 100000 in
theorem mtX1_become (l : Launch) (D : va_G) (t : Nat → ClassId) (xa : Nat) (xb : Nat → Nat) (x : ShT) (ya : Nat) (yb : Nat → Nat) (y : ShT) (out : ShT) (h : fX1_become x y = some out)  (sz : Nat) : Met l yX1_become zX1_become ({ frames := 1, cells := 0, slots := 0, locals := 22 }) (sPc D t (gS t xa xb x ++ (gS t ya yb y)) sz [.ref xa, .ref ya]) (qV D t (gS t xa xb out ++ (gS t ya yb y)) (va_A (gS t xa xb x ++ (gS t ya yb y)) sz)) 0 0 (va_A (gS t xa xb x ++ (gS t ya yb y)) sz) := by
  refine met_of (Qf := fun A => qV D t (gS t xa xb out ++ (gS t ya yb y)) A) (cc := cX1_become) (maxL := 2) (ret := none) (by decide) rfl (Nat.le_of_ble_eq_true rfl) ?_
  intro p e s m args below meth c A hx hb hr hml hts hown hlocks hA hP hK hD hE hS ls hl
  have htB : ∀ w ∈ BIG, w.before args s = true := fun w h => hts w (List.mem_cons_of_mem _ h)
  have hown : s.vm.findClass RX1 = some m.cls := hown
  have hl : lv_has ls 2 [(0, .ref xa), (1, .ref ya)] := hl
  unfold fX1_become at h
  refine lv_aload_n hx hb dX1_become_0 rfl (lv_at hl 1 rfl) ?_
  refine va_get (D := D) (ci := 1) (v := .ref (yb 0)) (C := RX1) (T := TX1) (N := 10) hx hb htB inlX1 hown hK hP 8 rfl rfl 0 (by decide) (htB _ kw28) (fun _ h9 => h9) rfl dX1_become_1 ?_
  refine lv_aload_n hx hb dX1_become_4 rfl (lv_at hl 0 rfl) ?_
  refine va_get (D := D) (ci := 1) (v := .ref (xb 0)) (C := RX1) (T := TX1) (N := 10) hx hb htB inlX1 hown hK hP 0 rfl rfl 0 (by decide) (htB _ kw28) (fun _ h9 => h9) rfl dX1_become_5 ?_
  obtain ⟨r1, h1, h⟩ := ob h
  refine call_v (wc := (gA t (yb 0) 2 y.1 ++ (gA t (xb 0) 2 x.1))) (wc' := (gA t (yb 0) 2 y.1 ++ (gA t (xb 0) 2 r1))) (ws' := (gS t xa xb (r1, x.2.1, x.2.2.1, x.2.2.2.1, x.2.2.2.2.1, x.2.2.2.2.2.1, x.2.2.2.2.2.2.1, x.2.2.2.2.2.2.2.1, x.2.2.2.2.2.2.2.2.1, x.2.2.2.2.2.2.2.2.2) ++ (gS t ya yb y))) (cutI (wc := (gA t (yb 0) 2 y.1 ++ (gA t (xb 0) 2 x.1))) (wc' := (gA t (yb 0) 2 y.1 ++ (gA t (xb 0) 2 r1))) (ws' := (gS t xa xb (r1, x.2.1, x.2.2.1, x.2.2.2.1, x.2.2.2.2.1, x.2.2.2.2.2.1, x.2.2.2.2.2.2.1, x.2.2.2.2.2.2.2.1, x.2.2.2.2.2.2.2.2.1, x.2.2.2.2.2.2.2.2.2) ++ (gS t ya yb y))) [9, 1] hP hD hS hA rfl rfl rfl rfl) hS (fun hPc hDc => va_runSN (As := [.ref (yb 0), .ref (xb 0)]) (rest := []) ⟨hx, hb, hml, hown, hts⟩ (mtX2_copyRow l D t (yb 0) 2 y.1 (xb 0) 2 x.1 r1 h1 (by decide) (by decide) _) ⟨va_cnB 2 hts (gB kw95) rfl rfl rfl hE.2.2.1 (htB _ kw2) (by decide +kernel) ⟨Nat.le_of_ble_eq_true rfl, Nat.le_of_ble_eq_true rfl⟩, (htB _ kw94), trivial⟩ (sPc_S hPc hK hDc hE) rfl rfl hl.1 rfl (lv_room (Nat.le_of_ble_eq_true rfl)) dX1_become_8 ⟨Nat.zero_le _, Nat.zero_le _⟩) (fun H locs hP hD hS => ?_)
  refine lv_aload_n hx hb dX1_become_11 rfl (lv_at hl 1 rfl) ?_
  refine va_get (D := D) (ci := 1) (v := .ref (yb 1)) (C := RX1) (T := TX1) (N := 10) hx hb htB inlX1 hown hK hP 8 rfl rfl 1 (by decide) (htB _ kw29) (fun _ h9 => h9) rfl dX1_become_12 ?_
  refine lv_aload_n hx hb dX1_become_15 rfl (lv_at hl 0 rfl) ?_
  refine va_get (D := D) (ci := 1) (v := .ref (xb 1)) (C := RX1) (T := TX1) (N := 10) hx hb htB inlX1 hown hK hP 0 rfl rfl 1 (by decide) (htB _ kw29) (fun _ h9 => h9) rfl dX1_become_16 ?_
  obtain ⟨r2, h2, h⟩ := ob h
  refine call_v (wc := (gA t (yb 1) 2 y.2.1 ++ (gA t (xb 1) 2 x.2.1))) (wc' := (gA t (yb 1) 2 y.2.1 ++ (gA t (xb 1) 2 r2))) (ws' := (gS t xa xb (r1, r2, x.2.2.1, x.2.2.2.1, x.2.2.2.2.1, x.2.2.2.2.2.1, x.2.2.2.2.2.2.1, x.2.2.2.2.2.2.2.1, x.2.2.2.2.2.2.2.2.1, x.2.2.2.2.2.2.2.2.2) ++ (gS t ya yb y))) (cutI (wc := (gA t (yb 1) 2 y.2.1 ++ (gA t (xb 1) 2 x.2.1))) (wc' := (gA t (yb 1) 2 y.2.1 ++ (gA t (xb 1) 2 r2))) (ws' := (gS t xa xb (r1, r2, x.2.2.1, x.2.2.2.1, x.2.2.2.2.1, x.2.2.2.2.2.1, x.2.2.2.2.2.2.1, x.2.2.2.2.2.2.2.1, x.2.2.2.2.2.2.2.2.1, x.2.2.2.2.2.2.2.2.2) ++ (gS t ya yb y))) [10, 2] hP hD hS hA rfl rfl rfl rfl) hS (fun hPc hDc => va_runSN (As := [.ref (yb 1), .ref (xb 1)]) (rest := []) ⟨hx, hb, hml, hown, hts⟩ (mtX2_copyRow l D t (yb 1) 2 y.2.1 (xb 1) 2 x.2.1 r2 h2 (by decide) (by decide) _) ⟨va_cnB 2 hts (gB kw95) rfl rfl rfl hE.2.2.1 (htB _ kw2) (by decide +kernel) ⟨Nat.le_of_ble_eq_true rfl, Nat.le_of_ble_eq_true rfl⟩, (htB _ kw94), trivial⟩ (sPc_S hPc hK hDc hE) rfl rfl hl.1 rfl (lv_room (Nat.le_of_ble_eq_true rfl)) dX1_become_19 ⟨Nat.zero_le _, Nat.zero_le _⟩) (fun H locs hP hD hS => ?_)
  refine lv_aload_n hx hb dX1_become_22 rfl (lv_at hl 1 rfl) ?_
  refine va_get (D := D) (ci := 1) (v := .ref (yb 2)) (C := RX1) (T := TX1) (N := 10) hx hb htB inlX1 hown hK hP 8 rfl rfl 2 (by decide) (htB _ kw30) (fun _ h9 => h9) rfl dX1_become_23 ?_
  refine lv_aload_n hx hb dX1_become_26 rfl (lv_at hl 0 rfl) ?_
  refine va_get (D := D) (ci := 1) (v := .ref (xb 2)) (C := RX1) (T := TX1) (N := 10) hx hb htB inlX1 hown hK hP 0 rfl rfl 2 (by decide) (htB _ kw30) (fun _ h9 => h9) rfl dX1_become_27 ?_
  obtain ⟨r3, h3, h⟩ := ob h
  refine call_v (wc := (gA t (yb 2) 24 y.2.2.1 ++ (gA t (xb 2) 24 x.2.2.1))) (wc' := (gA t (yb 2) 24 y.2.2.1 ++ (gA t (xb 2) 24 r3))) (ws' := (gS t xa xb (r1, r2, r3, x.2.2.2.1, x.2.2.2.2.1, x.2.2.2.2.2.1, x.2.2.2.2.2.2.1, x.2.2.2.2.2.2.2.1, x.2.2.2.2.2.2.2.2.1, x.2.2.2.2.2.2.2.2.2) ++ (gS t ya yb y))) (cutI (wc := (gA t (yb 2) 24 y.2.2.1 ++ (gA t (xb 2) 24 x.2.2.1))) (wc' := (gA t (yb 2) 24 y.2.2.1 ++ (gA t (xb 2) 24 r3))) (ws' := (gS t xa xb (r1, r2, r3, x.2.2.2.1, x.2.2.2.2.1, x.2.2.2.2.2.1, x.2.2.2.2.2.2.1, x.2.2.2.2.2.2.2.1, x.2.2.2.2.2.2.2.2.1, x.2.2.2.2.2.2.2.2.2) ++ (gS t ya yb y))) [11, 3] hP hD hS hA rfl rfl rfl rfl) hS (fun hPc hDc => va_runSN (As := [.ref (yb 2), .ref (xb 2)]) (rest := []) ⟨hx, hb, hml, hown, hts⟩ (mtX2_copyRow l D t (yb 2) 24 y.2.2.1 (xb 2) 24 x.2.2.1 r3 h3 (by decide) (by decide) _) ⟨va_cnB 2 hts (gB kw95) rfl rfl rfl hE.2.2.1 (htB _ kw2) (by decide +kernel) ⟨Nat.le_of_ble_eq_true rfl, Nat.le_of_ble_eq_true rfl⟩, (htB _ kw94), trivial⟩ (sPc_S hPc hK hDc hE) rfl rfl hl.1 rfl (lv_room (Nat.le_of_ble_eq_true rfl)) dX1_become_30 ⟨Nat.zero_le _, Nat.zero_le _⟩) (fun H locs hP hD hS => ?_)
  refine lv_aload_n hx hb dX1_become_33 rfl (lv_at hl 1 rfl) ?_
  refine va_get (D := D) (ci := 1) (v := .ref (yb 3)) (C := RX1) (T := TX1) (N := 10) hx hb htB inlX1 hown hK hP 8 rfl rfl 3 (by decide) (htB _ kw31) (fun _ h9 => h9) rfl dX1_become_34 ?_
  refine lv_aload_n hx hb dX1_become_37 rfl (lv_at hl 0 rfl) ?_
  refine va_get (D := D) (ci := 1) (v := .ref (xb 3)) (C := RX1) (T := TX1) (N := 10) hx hb htB inlX1 hown hK hP 0 rfl rfl 3 (by decide) (htB _ kw31) (fun _ h9 => h9) rfl dX1_become_38 ?_
  obtain ⟨r4, h4, h⟩ := ob h
  refine call_v (wc := (gA t (yb 3) 24 y.2.2.2.1 ++ (gA t (xb 3) 24 x.2.2.2.1))) (wc' := (gA t (yb 3) 24 y.2.2.2.1 ++ (gA t (xb 3) 24 r4))) (ws' := (gS t xa xb (r1, r2, r3, r4, x.2.2.2.2.1, x.2.2.2.2.2.1, x.2.2.2.2.2.2.1, x.2.2.2.2.2.2.2.1, x.2.2.2.2.2.2.2.2.1, x.2.2.2.2.2.2.2.2.2) ++ (gS t ya yb y))) (cutI (wc := (gA t (yb 3) 24 y.2.2.2.1 ++ (gA t (xb 3) 24 x.2.2.2.1))) (wc' := (gA t (yb 3) 24 y.2.2.2.1 ++ (gA t (xb 3) 24 r4))) (ws' := (gS t xa xb (r1, r2, r3, r4, x.2.2.2.2.1, x.2.2.2.2.2.1, x.2.2.2.2.2.2.1, x.2.2.2.2.2.2.2.1, x.2.2.2.2.2.2.2.2.1, x.2.2.2.2.2.2.2.2.2) ++ (gS t ya yb y))) [12, 4] hP hD hS hA rfl rfl rfl rfl) hS (fun hPc hDc => va_runSN (As := [.ref (yb 3), .ref (xb 3)]) (rest := []) ⟨hx, hb, hml, hown, hts⟩ (mtX2_copyRow l D t (yb 3) 24 y.2.2.2.1 (xb 3) 24 x.2.2.2.1 r4 h4 (by decide) (by decide) _) ⟨va_cnB 2 hts (gB kw95) rfl rfl rfl hE.2.2.1 (htB _ kw2) (by decide +kernel) ⟨Nat.le_of_ble_eq_true rfl, Nat.le_of_ble_eq_true rfl⟩, (htB _ kw94), trivial⟩ (sPc_S hPc hK hDc hE) rfl rfl hl.1 rfl (lv_room (Nat.le_of_ble_eq_true rfl)) dX1_become_41 ⟨Nat.zero_le _, Nat.zero_le _⟩) (fun H locs hP hD hS => ?_)
  refine lv_aload_n hx hb dX1_become_44 rfl (lv_at hl 1 rfl) ?_
  refine va_get (D := D) (ci := 1) (v := .ref (yb 4)) (C := RX1) (T := TX1) (N := 10) hx hb htB inlX1 hown hK hP 8 rfl rfl 4 (by decide) (htB _ kw32) (fun _ h9 => h9) rfl dX1_become_45 ?_
  refine lv_aload_n hx hb dX1_become_48 rfl (lv_at hl 0 rfl) ?_
  refine va_get (D := D) (ci := 1) (v := .ref (xb 4)) (C := RX1) (T := TX1) (N := 10) hx hb htB inlX1 hown hK hP 0 rfl rfl 4 (by decide) (htB _ kw32) (fun _ h9 => h9) rfl dX1_become_49 ?_
  obtain ⟨r5, h5, h⟩ := ob h
  refine call_v (wc := (gA t (yb 4) 6 y.2.2.2.2.1 ++ (gA t (xb 4) 6 x.2.2.2.2.1))) (wc' := (gA t (yb 4) 6 y.2.2.2.2.1 ++ (gA t (xb 4) 6 r5))) (ws' := (gS t xa xb (r1, r2, r3, r4, r5, x.2.2.2.2.2.1, x.2.2.2.2.2.2.1, x.2.2.2.2.2.2.2.1, x.2.2.2.2.2.2.2.2.1, x.2.2.2.2.2.2.2.2.2) ++ (gS t ya yb y))) (cutI (wc := (gA t (yb 4) 6 y.2.2.2.2.1 ++ (gA t (xb 4) 6 x.2.2.2.2.1))) (wc' := (gA t (yb 4) 6 y.2.2.2.2.1 ++ (gA t (xb 4) 6 r5))) (ws' := (gS t xa xb (r1, r2, r3, r4, r5, x.2.2.2.2.2.1, x.2.2.2.2.2.2.1, x.2.2.2.2.2.2.2.1, x.2.2.2.2.2.2.2.2.1, x.2.2.2.2.2.2.2.2.2) ++ (gS t ya yb y))) [13, 5] hP hD hS hA rfl rfl rfl rfl) hS (fun hPc hDc => va_runSN (As := [.ref (yb 4), .ref (xb 4)]) (rest := []) ⟨hx, hb, hml, hown, hts⟩ (mtX2_copyRow l D t (yb 4) 6 y.2.2.2.2.1 (xb 4) 6 x.2.2.2.2.1 r5 h5 (by decide) (by decide) _) ⟨va_cnB 2 hts (gB kw95) rfl rfl rfl hE.2.2.1 (htB _ kw2) (by decide +kernel) ⟨Nat.le_of_ble_eq_true rfl, Nat.le_of_ble_eq_true rfl⟩, (htB _ kw94), trivial⟩ (sPc_S hPc hK hDc hE) rfl rfl hl.1 rfl (lv_room (Nat.le_of_ble_eq_true rfl)) dX1_become_52 ⟨Nat.zero_le _, Nat.zero_le _⟩) (fun H locs hP hD hS => ?_)
  refine lv_aload_n hx hb dX1_become_55 rfl (lv_at hl 1 rfl) ?_
  refine va_get (D := D) (ci := 1) (v := .ref (yb 5)) (C := RX1) (T := TX1) (N := 10) hx hb htB inlX1 hown hK hP 8 rfl rfl 5 (by decide) (htB _ kw33) (fun _ h9 => h9) rfl dX1_become_56 ?_
  refine lv_aload_n hx hb dX1_become_59 rfl (lv_at hl 0 rfl) ?_
  refine va_get (D := D) (ci := 1) (v := .ref (xb 5)) (C := RX1) (T := TX1) (N := 10) hx hb htB inlX1 hown hK hP 0 rfl rfl 5 (by decide) (htB _ kw33) (fun _ h9 => h9) rfl dX1_become_60 ?_
  obtain ⟨r6, h6, h⟩ := ob h
  refine call_v (wc := (gA t (yb 5) 4 y.2.2.2.2.2.1 ++ (gA t (xb 5) 4 x.2.2.2.2.2.1))) (wc' := (gA t (yb 5) 4 y.2.2.2.2.2.1 ++ (gA t (xb 5) 4 r6))) (ws' := (gS t xa xb (r1, r2, r3, r4, r5, r6, x.2.2.2.2.2.2.1, x.2.2.2.2.2.2.2.1, x.2.2.2.2.2.2.2.2.1, x.2.2.2.2.2.2.2.2.2) ++ (gS t ya yb y))) (cutI (wc := (gA t (yb 5) 4 y.2.2.2.2.2.1 ++ (gA t (xb 5) 4 x.2.2.2.2.2.1))) (wc' := (gA t (yb 5) 4 y.2.2.2.2.2.1 ++ (gA t (xb 5) 4 r6))) (ws' := (gS t xa xb (r1, r2, r3, r4, r5, r6, x.2.2.2.2.2.2.1, x.2.2.2.2.2.2.2.1, x.2.2.2.2.2.2.2.2.1, x.2.2.2.2.2.2.2.2.2) ++ (gS t ya yb y))) [14, 6] hP hD hS hA rfl rfl rfl rfl) hS (fun hPc hDc => va_runSN (As := [.ref (yb 5), .ref (xb 5)]) (rest := []) ⟨hx, hb, hml, hown, hts⟩ (mtX2_copyRow l D t (yb 5) 4 y.2.2.2.2.2.1 (xb 5) 4 x.2.2.2.2.2.1 r6 h6 (by decide) (by decide) _) ⟨va_cnB 2 hts (gB kw95) rfl rfl rfl hE.2.2.1 (htB _ kw2) (by decide +kernel) ⟨Nat.le_of_ble_eq_true rfl, Nat.le_of_ble_eq_true rfl⟩, (htB _ kw94), trivial⟩ (sPc_S hPc hK hDc hE) rfl rfl hl.1 rfl (lv_room (Nat.le_of_ble_eq_true rfl)) dX1_become_63 ⟨Nat.zero_le _, Nat.zero_le _⟩) (fun H locs hP hD hS => ?_)
  refine lv_aload_n hx hb dX1_become_66 rfl (lv_at hl 1 rfl) ?_
  refine va_get (D := D) (ci := 1) (v := .ref (yb 6)) (C := RX1) (T := TX1) (N := 10) hx hb htB inlX1 hown hK hP 8 rfl rfl 6 (by decide) (htB _ kw34) (fun _ h9 => h9) rfl dX1_become_67 ?_
  refine lv_aload_n hx hb dX1_become_70 rfl (lv_at hl 0 rfl) ?_
  refine va_get (D := D) (ci := 1) (v := .ref (xb 6)) (C := RX1) (T := TX1) (N := 10) hx hb htB inlX1 hown hK hP 0 rfl rfl 6 (by decide) (htB _ kw34) (fun _ h9 => h9) rfl dX1_become_71 ?_
  obtain ⟨r7, h7, h⟩ := ob h
  refine call_v (wc := (gA t (yb 6) 6 y.2.2.2.2.2.2.1 ++ (gA t (xb 6) 6 x.2.2.2.2.2.2.1))) (wc' := (gA t (yb 6) 6 y.2.2.2.2.2.2.1 ++ (gA t (xb 6) 6 r7))) (ws' := (gS t xa xb (r1, r2, r3, r4, r5, r6, r7, x.2.2.2.2.2.2.2.1, x.2.2.2.2.2.2.2.2.1, x.2.2.2.2.2.2.2.2.2) ++ (gS t ya yb y))) (cutI (wc := (gA t (yb 6) 6 y.2.2.2.2.2.2.1 ++ (gA t (xb 6) 6 x.2.2.2.2.2.2.1))) (wc' := (gA t (yb 6) 6 y.2.2.2.2.2.2.1 ++ (gA t (xb 6) 6 r7))) (ws' := (gS t xa xb (r1, r2, r3, r4, r5, r6, r7, x.2.2.2.2.2.2.2.1, x.2.2.2.2.2.2.2.2.1, x.2.2.2.2.2.2.2.2.2) ++ (gS t ya yb y))) [15, 7] hP hD hS hA rfl rfl rfl rfl) hS (fun hPc hDc => va_runSN (As := [.ref (yb 6), .ref (xb 6)]) (rest := []) ⟨hx, hb, hml, hown, hts⟩ (mtX2_copyRow l D t (yb 6) 6 y.2.2.2.2.2.2.1 (xb 6) 6 x.2.2.2.2.2.2.1 r7 h7 (by decide) (by decide) _) ⟨va_cnB 2 hts (gB kw95) rfl rfl rfl hE.2.2.1 (htB _ kw2) (by decide +kernel) ⟨Nat.le_of_ble_eq_true rfl, Nat.le_of_ble_eq_true rfl⟩, (htB _ kw94), trivial⟩ (sPc_S hPc hK hDc hE) rfl rfl hl.1 rfl (lv_room (Nat.le_of_ble_eq_true rfl)) dX1_become_74 ⟨Nat.zero_le _, Nat.zero_le _⟩) (fun H locs hP hD hS => ?_)
  refine lv_aload_n hx hb dX1_become_77 rfl (lv_at hl 0 rfl) ?_
  refine lv_aload_n hx hb dX1_become_78 rfl (lv_at hl 1 rfl) ?_
  refine va_get (D := D) (ci := 1) (v := .int y.2.2.2.2.2.2.2.1) (C := RX1) (T := TX1) (N := 10) hx hb htB inlX1 hown hK hP 8 rfl rfl 7 (by decide) (htB _ kw35) (fun _ h9 => h9) rfl dX1_become_79 ?_
  refine va_put (D := D) (ci := 1) (v := .int y.2.2.2.2.2.2.2.1) (ty := .int) (C := RX1) (T := TX1) (N := 10) hx hb htB inlX1 tyX1 tyX1_ok nmX1 hown hK hP hD hS 0 rfl rfl 7 (by decide) (htB _ kw35) (fun _ h9 => h9) rfl (by decide +kernel) rfl rfl (Nat.le_of_ble_eq_true rfl) dX1_become_82 (fun H locs hP hD hS => ?_)
  have hP : va_P D vwCl (gS t xa xb (r1, r2, r3, r4, r5, r6, r7, y.2.2.2.2.2.2.2.1, x.2.2.2.2.2.2.2.2.1, x.2.2.2.2.2.2.2.2.2) ++ (gS t ya yb y)) H := hP
  have hD : va_D A (gS t xa xb (r1, r2, r3, r4, r5, r6, r7, y.2.2.2.2.2.2.2.1, x.2.2.2.2.2.2.2.2.1, x.2.2.2.2.2.2.2.2.2) ++ (gS t ya yb y)) := hD
  refine lv_aload_n hx hb dX1_become_85 rfl (lv_at hl 0 rfl) ?_
  refine lv_aload_n hx hb dX1_become_86 rfl (lv_at hl 1 rfl) ?_
  refine va_get (D := D) (ci := 1) (v := .int y.2.2.2.2.2.2.2.2.1) (C := RX1) (T := TX1) (N := 10) hx hb htB inlX1 hown hK hP 8 rfl rfl 8 (by decide) (htB _ kw36) (fun _ h9 => h9) rfl dX1_become_87 ?_
  refine va_put (D := D) (ci := 1) (v := .int y.2.2.2.2.2.2.2.2.1) (ty := .int) (C := RX1) (T := TX1) (N := 10) hx hb htB inlX1 tyX1 tyX1_ok nmX1 hown hK hP hD hS 0 rfl rfl 8 (by decide) (htB _ kw36) (fun _ h9 => h9) rfl (by decide +kernel) rfl rfl (Nat.le_of_ble_eq_true rfl) dX1_become_90 (fun H locs hP hD hS => ?_)
  have hP : va_P D vwCl (gS t xa xb (r1, r2, r3, r4, r5, r6, r7, y.2.2.2.2.2.2.2.1, y.2.2.2.2.2.2.2.2.1, x.2.2.2.2.2.2.2.2.2) ++ (gS t ya yb y)) H := hP
  have hD : va_D A (gS t xa xb (r1, r2, r3, r4, r5, r6, r7, y.2.2.2.2.2.2.2.1, y.2.2.2.2.2.2.2.2.1, x.2.2.2.2.2.2.2.2.2) ++ (gS t ya yb y)) := hD
  refine lv_aload_n hx hb dX1_become_93 rfl (lv_at hl 0 rfl) ?_
  refine lv_aload_n hx hb dX1_become_94 rfl (lv_at hl 1 rfl) ?_
  refine va_get (D := D) (ci := 1) (v := .int y.2.2.2.2.2.2.2.2.2) (C := RX1) (T := TX1) (N := 10) hx hb htB inlX1 hown hK hP 8 rfl rfl 9 (by decide) (htB _ kw37) (fun _ h9 => h9) rfl dX1_become_95 ?_
  refine va_put (D := D) (ci := 1) (v := .int y.2.2.2.2.2.2.2.2.2) (ty := .int) (C := RX1) (T := TX1) (N := 10) hx hb htB inlX1 tyX1 tyX1_ok nmX1 hown hK hP hD hS 0 rfl rfl 9 (by decide) (htB _ kw37) (fun _ h9 => h9) rfl (by decide +kernel) rfl rfl (Nat.le_of_ble_eq_true rfl) dX1_become_98 (fun H locs hP hD hS => ?_)
  have hP : va_P D vwCl (gS t xa xb (r1, r2, r3, r4, r5, r6, r7, y.2.2.2.2.2.2.2.1, y.2.2.2.2.2.2.2.2.1, y.2.2.2.2.2.2.2.2.2) ++ (gS t ya yb y)) H := hP
  have hD : va_D A (gS t xa xb (r1, r2, r3, r4, r5, r6, r7, y.2.2.2.2.2.2.2.1, y.2.2.2.2.2.2.2.2.1, y.2.2.2.2.2.2.2.2.2) ++ (gS t ya yb y)) := hD
  obtain rfl := os h
  exact ret_v hx hb hr hlocks hP hK hD hS dX1_become_101

theorem dX1_dragsOf_0 : decode cX1_dragsOf 0 = .ok (.iload_n 1, 1) := by decide +kernel
theorem dX1_dragsOf_1 : decode cX1_dragsOf 1 = .ok (.ifCond .ne 10, 3) := by decide +kernel
theorem dX1_dragsOf_4 : decode cX1_dragsOf 4 = .ok (.aload_n 0, 1) := by decide +kernel
theorem dX1_dragsOf_5 : decode cX1_dragsOf 5 = .ok (.getfield 18, 3) := by decide +kernel
theorem dX1_dragsOf_8 : decode cX1_dragsOf 8 = .ok (.goto 7, 3) := by decide +kernel
theorem dX1_dragsOf_11 : decode cX1_dragsOf 11 = .ok (.aload_n 0, 1) := by decide +kernel
theorem dX1_dragsOf_12 : decode cX1_dragsOf 12 = .ok (.getfield 21, 3) := by decide +kernel
theorem dX1_dragsOf_15 : decode cX1_dragsOf 15 = .ok (.areturn, 1) := by decide +kernel
abbrev zX1_dragsOf : List Cond := .code yX1_dragsOf cX1_dragsOf 2 (some (.array .int)) :: BIG
def fX1_dragsOf (x : ShT) (cu : Int32) : Option (Unit) := (if cu = 0 then some () else some ())
set_option maxHeartbeats 4000000 in
set_option maxRecDepth 100000 in
theorem mtX1_dragsOf (l : Launch) (D : va_G) (t : Nat → ClassId) (xa : Nat) (xb : Nat → Nat) (x : ShT) (cu : Int32) (out : Unit) (h : fX1_dragsOf x cu = some out)  (sz : Nat) : Met l yX1_dragsOf zX1_dragsOf ({ frames := 0, cells := 0, slots := 0, locals := 0 }) (sPc D t (gS t xa xb x) sz [.ref xa, .int cu]) (qR D t (gS t xa xb x) (if cu = 0 then xb 2 else xb 3) (va_A (gS t xa xb x) sz)) 0 0 (va_A (gS t xa xb x) sz) := by
  refine met_of (Qf := fun A => qR D t (gS t xa xb x) (if cu = 0 then xb 2 else xb 3) A) (cc := cX1_dragsOf) (maxL := 2) (ret := (some (.array .int))) (by decide) rfl (Nat.le_of_ble_eq_true rfl) ?_
  intro p e s m args below meth c A hx hb hr hml hts hown hlocks hA hP hK hD hE hS ls hl
  have htB : ∀ w ∈ BIG, w.before args s = true := fun w h => hts w (List.mem_cons_of_mem _ h)
  have hown : s.vm.findClass RX1 = some m.cls := hown
  have hl : lv_has ls 2 [(0, .ref xa), (1, .int cu)] := hl
  unfold fX1_dragsOf at h
  refine lv_iload_n hx hb dX1_dragsOf_0 rfl (lv_at hl 1 rfl) ?_
  refine lv_if_ne (tgt := 11) hx hb dX1_dragsOf_1 (by decide) (fun c1 => ?_) (fun c1 => ?_)
  · have h := it_n c1 h
    refine lv_aload_n hx hb dX1_dragsOf_11 rfl (lv_at hl 0 rfl) ?_
    refine va_get (D := D) (ci := 1) (v := .ref (xb 3)) (C := RX1) (T := TX1) (N := 10) hx hb htB inlX1 hown hK hP 0 rfl rfl 3 (by decide) (htB _ kw31) (fun _ h9 => h9) rfl dX1_dragsOf_12 ?_
    obtain rfl := os h
    exact ret_r (v := xb 3) (by split <;> first | rfl | contradiction) hx hb hr (Or.inr ⟨_, rfl⟩) hlocks hP hK hD hS dX1_dragsOf_15
  · have h := it_p c1 h
    refine lv_aload_n hx hb dX1_dragsOf_4 rfl (lv_at hl 0 rfl) ?_
    refine va_get (D := D) (ci := 1) (v := .ref (xb 2)) (C := RX1) (T := TX1) (N := 10) hx hb htB inlX1 hown hK hP 0 rfl rfl 2 (by decide) (htB _ kw30) (fun _ h9 => h9) rfl dX1_dragsOf_5 ?_
    refine lv_goto (tgt := 15) hx hb dX1_dragsOf_8 (by decide) ?_
    obtain rfl := os h
    exact ret_r (v := xb 2) (by split <;> first | rfl | contradiction) hx hb hr (Or.inr ⟨_, rfl⟩) hlocks hP hK hD hS dX1_dragsOf_15
end
section
theorem dX1_ticksWithoutDrag_0 : decode cX1_ticksWithoutDrag 0 = .ok (.aload_n 0, 1) := by decide +kernel
theorem dX1_ticksWithoutDrag_1 : decode cX1_ticksWithoutDrag 1 = .ok (.getfield 9, 3) := by decide +kernel
theorem dX1_ticksWithoutDrag_4 : decode cX1_ticksWithoutDrag 4 = .ok (.iload_n 1, 1) := by decide +kernel
theorem dX1_ticksWithoutDrag_5 : decode cX1_ticksWithoutDrag 5 = .ok (.invokestatic 47, 3) := by decide +kernel
theorem dX1_ticksWithoutDrag_8 : decode cX1_ticksWithoutDrag 8 = .ok (.istore_n 2, 1) := by decide +kernel
theorem dX1_ticksWithoutDrag_9 : decode cX1_ticksWithoutDrag 9 = .ok (.iload_n 2, 1) := by decide +kernel
theorem dX1_ticksWithoutDrag_10 : decode cX1_ticksWithoutDrag 10 = .ok (.ifCond .le 11, 3) := by decide +kernel
theorem dX1_ticksWithoutDrag_13 : decode cX1_ticksWithoutDrag 13 = .ok (.sipush 1000, 3) := by decide +kernel
theorem dX1_ticksWithoutDrag_16 : decode cX1_ticksWithoutDrag 16 = .ok (.iload_n 2, 1) := by decide +kernel
theorem dX1_ticksWithoutDrag_17 : decode cX1_ticksWithoutDrag 17 = .ok (.idiv, 1) := by decide +kernel
theorem dX1_ticksWithoutDrag_18 : decode cX1_ticksWithoutDrag 18 = .ok (.goto 4, 3) := by decide +kernel
theorem dX1_ticksWithoutDrag_21 : decode cX1_ticksWithoutDrag 21 = .ok (.iconst 0, 1) := by decide +kernel
theorem dX1_ticksWithoutDrag_22 : decode cX1_ticksWithoutDrag 22 = .ok (.istore_n 3, 1) := by decide +kernel
theorem dX1_ticksWithoutDrag_23 : decode cX1_ticksWithoutDrag 23 = .ok (.iload_n 3, 1) := by decide +kernel
theorem dX1_ticksWithoutDrag_24 : decode cX1_ticksWithoutDrag 24 = .ok (.aload_n 0, 1) := by decide +kernel
theorem dX1_ticksWithoutDrag_25 : decode cX1_ticksWithoutDrag 25 = .ok (.getfield 27, 3) := by decide +kernel
theorem dX1_ticksWithoutDrag_28 : decode cX1_ticksWithoutDrag 28 = .ok (.iconst 0, 1) := by decide +kernel
theorem dX1_ticksWithoutDrag_29 : decode cX1_ticksWithoutDrag 29 = .ok (.invokestatic 47, 3) := by decide +kernel
theorem dX1_ticksWithoutDrag_32 : decode cX1_ticksWithoutDrag 32 = .ok (.aload_n 0, 1) := by decide +kernel
theorem dX1_ticksWithoutDrag_33 : decode cX1_ticksWithoutDrag 33 = .ok (.getfield 15, 3) := by decide +kernel
theorem dX1_ticksWithoutDrag_36 : decode cX1_ticksWithoutDrag 36 = .ok (.iload_n 1, 1) := by decide +kernel
theorem dX1_ticksWithoutDrag_37 : decode cX1_ticksWithoutDrag 37 = .ok (.invokestatic 47, 3) := by decide +kernel
theorem dX1_ticksWithoutDrag_40 : decode cX1_ticksWithoutDrag 40 = .ok (.bipush 10, 2) := by decide +kernel
theorem dX1_ticksWithoutDrag_42 : decode cX1_ticksWithoutDrag 42 = .ok (.idiv, 1) := by decide +kernel
theorem dX1_ticksWithoutDrag_43 : decode cX1_ticksWithoutDrag 43 = .ok (.imul, 1) := by decide +kernel
theorem dX1_ticksWithoutDrag_44 : decode cX1_ticksWithoutDrag 44 = .ok (.iadd, 1) := by decide +kernel
theorem dX1_ticksWithoutDrag_45 : decode cX1_ticksWithoutDrag 45 = .ok (.ireturn, 1) := by decide +kernel
abbrev zX1_ticksWithoutDrag : List Cond := .code yX1_ticksWithoutDrag cX1_ticksWithoutDrag 4 (some .int) :: BIG
def fX1_ticksWithoutDrag_j22 (x : ShT)  (v22 : Int32 × Int32) : Option (Int32) := (fX2_at 4 x.2.2.2.2.2.1 0).bind (fun r4 => (fX2_at 2 x.2.1 v22.1).bind (fun r5 => some (v22.2 + (r4 * (r5 / 10)))))
def fX1_ticksWithoutDrag (x : ShT) (cu : Int32) : Option (Int32) := (fX2_at 2 x.1 cu).bind (fun r1 => (if r1 ≤ 0 then fX1_ticksWithoutDrag_j22 x (cu, 0) else gd (nz r1) (fX1_ticksWithoutDrag_j22 x (cu, 1000 / r1))))
set_option maxHeartbeats 4000000 in
set_option maxRecDepth 100000 in
theorem mtX1_ticksWithoutDrag (l : Launch) (D : va_G) (t : Nat → ClassId) (xa : Nat) (xb : Nat → Nat) (x : ShT) (cu : Int32) (out : Int32) (h : fX1_ticksWithoutDrag x cu = some out)  (sz : Nat) : Met l yX1_ticksWithoutDrag zX1_ticksWithoutDrag ({ frames := 1, cells := 0, slots := 0, locals := 21 }) (sPc D t (gS t xa xb x) sz [.ref xa, .int cu]) (qI D t (gS t xa xb x) out (va_A (gS t xa xb x) sz)) 0 0 (va_A (gS t xa xb x) sz) := by
  refine met_of (Qf := fun A => qI D t (gS t xa xb x) out A) (cc := cX1_ticksWithoutDrag) (maxL := 4) (ret := some .int) (by decide) rfl (Nat.le_of_ble_eq_true rfl) ?_
  intro p e s m args below meth c A hx hb hr hml hts hown hlocks hA hP hK hD hE hS ls hl
  have htB : ∀ w ∈ BIG, w.before args s = true := fun w h => hts w (List.mem_cons_of_mem _ h)
  have hown : s.vm.findClass RX1 = some m.cls := hown
  have hl : lv_has ls 4 [(0, .ref xa), (1, .int cu)] := hl
  unfold fX1_ticksWithoutDrag at h
  have J22 : ∀ v22 : Int32 × Int32, fX1_ticksWithoutDrag_j22 x v22 = some out → ∀ (H : Heap) (locs : List Loc), va_P D vwCl (gS t xa xb x) H → va_D A (gS t xa xb x) → va_S A s.heap H locs → ∀ ls : Array Slot, lv_has ls 4 [(0, .ref xa), (1, .int v22.1)] → W p l e ({ frames := 1, cells := 0, slots := 0, locals := 21 }) s m args below meth c H locs 0 0 (MQ below (qI D t (gS t xa xb x) out A) args s 0 0 A) (F0 m 22 ls [.int v22.2]) := by
    intro v22 h H locs hP hD hS ls hl
    unfold fX1_ticksWithoutDrag_j22 at h
    refine lv_istore_n (lv' := [(3, .int v22.2), (0, .ref xa), (1, .int v22.1)]) hx hb dX1_ticksWithoutDrag_22 rfl hl (by decide) rfl (fun ls hl => ?_)
    refine lv_iload_n hx hb dX1_ticksWithoutDrag_23 rfl (lv_at hl 0 rfl) ?_
    refine lv_aload_n hx hb dX1_ticksWithoutDrag_24 rfl (lv_at hl 1 rfl) ?_
    refine va_get (D := D) (ci := 1) (v := .ref (xb 5)) (C := RX1) (T := TX1) (N := 10) hx hb htB inlX1 hown hK hP 0 rfl rfl 5 (by decide) (htB _ kw33) (fun _ h9 => h9) rfl dX1_ticksWithoutDrag_25 ?_
    refine lv_iconst (v := 0) hx hb dX1_ticksWithoutDrag_28 (by decide) ?_
    obtain ⟨r4, h4, h⟩ := ob h
    refine call_i (v := r4) (wc := (gA t (xb 5) 4 x.2.2.2.2.2.1)) (wc' := (gA t (xb 5) 4 x.2.2.2.2.2.1)) (ws' := (gS t xa xb x)) (cutI (wc := (gA t (xb 5) 4 x.2.2.2.2.2.1)) (wc' := (gA t (xb 5) 4 x.2.2.2.2.2.1)) (ws' := (gS t xa xb x)) [6] hP hD hS hA rfl rfl rfl rfl) hS (fun hPc hDc => va_runSN (As := [.ref (xb 5), .int 0]) (rest := [.int v22.2]) ⟨hx, hb, hml, hown, hts⟩ (mtX2_at l D t (xb 5) 4 x.2.2.2.2.2.1 0 r4 h4 (by decide) _) ⟨va_cnB 2 hts (gB kw66) rfl rfl rfl hE.2.2.2.1 (htB _ kw2) (by decide +kernel) ⟨Nat.le_of_ble_eq_true rfl, Nat.le_of_ble_eq_true rfl⟩, (htB _ kw65), trivial⟩ (sPc_S hPc hK hDc hE) rfl rfl hl.1 rfl (lv_room (Nat.le_of_ble_eq_true rfl)) dX1_ticksWithoutDrag_29 ⟨Nat.zero_le _, Nat.zero_le _⟩) (fun H locs hP hD hS => ?_)
    refine lv_aload_n hx hb dX1_ticksWithoutDrag_32 rfl (lv_at hl 1 rfl) ?_
    refine va_get (D := D) (ci := 1) (v := .ref (xb 1)) (C := RX1) (T := TX1) (N := 10) hx hb htB inlX1 hown hK hP 0 rfl rfl 1 (by decide) (htB _ kw29) (fun _ h9 => h9) rfl dX1_ticksWithoutDrag_33 ?_
    refine lv_iload_n hx hb dX1_ticksWithoutDrag_36 rfl (lv_at hl 2 rfl) ?_
    obtain ⟨r5, h5, h⟩ := ob h
    refine call_i (v := r5) (wc := (gA t (xb 1) 2 x.2.1)) (wc' := (gA t (xb 1) 2 x.2.1)) (ws' := (gS t xa xb x)) (cutI (wc := (gA t (xb 1) 2 x.2.1)) (wc' := (gA t (xb 1) 2 x.2.1)) (ws' := (gS t xa xb x)) [2] hP hD hS hA rfl rfl rfl rfl) hS (fun hPc hDc => va_runSN (As := [.ref (xb 1), .int v22.1]) (rest := [.int r4, .int v22.2]) ⟨hx, hb, hml, hown, hts⟩ (mtX2_at l D t (xb 1) 2 x.2.1 v22.1 r5 h5 (by decide) _) ⟨va_cnB 2 hts (gB kw66) rfl rfl rfl hE.2.2.2.1 (htB _ kw2) (by decide +kernel) ⟨Nat.le_of_ble_eq_true rfl, Nat.le_of_ble_eq_true rfl⟩, (htB _ kw65), trivial⟩ (sPc_S hPc hK hDc hE) rfl rfl hl.1 rfl (lv_room (Nat.le_of_ble_eq_true rfl)) dX1_ticksWithoutDrag_37 ⟨Nat.zero_le _, Nat.zero_le _⟩) (fun H locs hP hD hS => ?_)
    refine lv_bipush (v := 10) hx hb dX1_ticksWithoutDrag_40 (by decide) ?_
    refine lv_idiv hx hb dX1_ticksWithoutDrag_42 (by decide) ?_
    refine lv_imul hx hb dX1_ticksWithoutDrag_43 ?_
    refine lv_iadd hx hb dX1_ticksWithoutDrag_44 ?_
    obtain rfl := os h
    exact ret_i hx hb hr hlocks hP hK hD hS dX1_ticksWithoutDrag_45
  refine lv_aload_n hx hb dX1_ticksWithoutDrag_0 rfl (lv_at hl 0 rfl) ?_
  refine va_get (D := D) (ci := 1) (v := .ref (xb 0)) (C := RX1) (T := TX1) (N := 10) hx hb htB inlX1 hown hK hP 0 rfl rfl 0 (by decide) (htB _ kw28) (fun _ h9 => h9) rfl dX1_ticksWithoutDrag_1 ?_
  refine lv_iload_n hx hb dX1_ticksWithoutDrag_4 rfl (lv_at hl 1 rfl) ?_
  obtain ⟨r1, h1, h⟩ := ob h
  refine call_i (v := r1) (wc := (gA t (xb 0) 2 x.1)) (wc' := (gA t (xb 0) 2 x.1)) (ws' := (gS t xa xb x)) (cutI (wc := (gA t (xb 0) 2 x.1)) (wc' := (gA t (xb 0) 2 x.1)) (ws' := (gS t xa xb x)) [1] hP hD hS hA rfl rfl rfl rfl) hS (fun hPc hDc => va_runSN (As := [.ref (xb 0), .int cu]) (rest := []) ⟨hx, hb, hml, hown, hts⟩ (mtX2_at l D t (xb 0) 2 x.1 cu r1 h1 (by decide) _) ⟨va_cnB 2 hts (gB kw66) rfl rfl rfl hE.2.2.2.1 (htB _ kw2) (by decide +kernel) ⟨Nat.le_of_ble_eq_true rfl, Nat.le_of_ble_eq_true rfl⟩, (htB _ kw65), trivial⟩ (sPc_S hPc hK hDc hE) rfl rfl hl.1 rfl (lv_room (Nat.le_of_ble_eq_true rfl)) dX1_ticksWithoutDrag_5 ⟨Nat.zero_le _, Nat.zero_le _⟩) (fun H locs hP hD hS => ?_)
  refine lv_istore_n (lv' := [(2, .int r1), (0, .ref xa), (1, .int cu)]) hx hb dX1_ticksWithoutDrag_8 rfl hl (by decide) rfl (fun ls hl => ?_)
  refine lv_iload_n hx hb dX1_ticksWithoutDrag_9 rfl (lv_at hl 0 rfl) ?_
  refine lv_if_le (tgt := 21) hx hb dX1_ticksWithoutDrag_10 (by decide) (fun c2 => ?_) (fun c2 => ?_)
  · have h := it_p c2 h
    refine lv_iconst (v := 0) hx hb dX1_ticksWithoutDrag_21 (by decide) ?_
    exact J22 (cu, 0) h _ _ hP hD hS _ (lv_sub hl [1, 2] rfl)
  · have h := it_n c2 h
    refine lv_sipush (v := 1000) hx hb dX1_ticksWithoutDrag_13 (by decide) ?_
    refine lv_iload_n hx hb dX1_ticksWithoutDrag_16 rfl (lv_at hl 0 rfl) ?_
    obtain ⟨g3, h⟩ := og h
    refine lv_idiv hx hb dX1_ticksWithoutDrag_17 (nz_ne g3) ?_
    refine lv_goto (tgt := 22) hx hb dX1_ticksWithoutDrag_18 (by decide) ?_
    exact J22 (cu, 1000 / r1) h _ _ hP hD hS _ (lv_sub hl [1, 2] rfl)

theorem dX1_ticksForAll_0 : decode cX1_ticksForAll 0 = .ok (.aload_n 0, 1) := by decide +kernel
theorem dX1_ticksForAll_1 : decode cX1_ticksForAll 1 = .ok (.iload_n 1, 1) := by decide +kernel
theorem dX1_ticksForAll_2 : decode cX1_ticksForAll 2 = .ok (.invokevirtual 51, 3) := by decide +kernel
theorem dX1_ticksForAll_5 : decode cX1_ticksForAll 5 = .ok (.astore_n 2, 1) := by decide +kernel
theorem dX1_ticksForAll_6 : decode cX1_ticksForAll 6 = .ok (.bipush 24, 2) := by decide +kernel
theorem dX1_ticksForAll_8 : decode cX1_ticksForAll 8 = .ok (.aload_n 0, 1) := by decide +kernel
theorem dX1_ticksForAll_9 : decode cX1_ticksForAll 9 = .ok (.iload_n 1, 1) := by decide +kernel
theorem dX1_ticksForAll_10 : decode cX1_ticksForAll 10 = .ok (.invokevirtual 55, 3) := by decide +kernel
theorem dX1_ticksForAll_13 : decode cX1_ticksForAll 13 = .ok (.imul, 1) := by decide +kernel
theorem dX1_ticksForAll_14 : decode cX1_ticksForAll 14 = .ok (.istore_n 3, 1) := by decide +kernel
theorem dX1_ticksForAll_15 : decode cX1_ticksForAll 15 = .ok (.iconst 0, 1) := by decide +kernel
theorem dX1_ticksForAll_16 : decode cX1_ticksForAll 16 = .ok (.istore 4, 2) := by decide +kernel
theorem dX1_ticksForAll_18 : decode cX1_ticksForAll 18 = .ok (.iload 4, 2) := by decide +kernel
theorem dX1_ticksForAll_20 : decode cX1_ticksForAll 20 = .ok (.aload_n 2, 1) := by decide +kernel
theorem dX1_ticksForAll_21 : decode cX1_ticksForAll 21 = .ok (.arraylength, 1) := by decide +kernel
theorem dX1_ticksForAll_22 : decode cX1_ticksForAll 22 = .ok (.if_icmp .ge 16, 3) := by decide +kernel
theorem dX1_ticksForAll_25 : decode cX1_ticksForAll 25 = .ok (.iload_n 3, 1) := by decide +kernel
theorem dX1_ticksForAll_26 : decode cX1_ticksForAll 26 = .ok (.aload_n 2, 1) := by decide +kernel
theorem dX1_ticksForAll_27 : decode cX1_ticksForAll 27 = .ok (.iload 4, 2) := by decide +kernel
theorem dX1_ticksForAll_29 : decode cX1_ticksForAll 29 = .ok (.iaload, 1) := by decide +kernel
theorem dX1_ticksForAll_30 : decode cX1_ticksForAll 30 = .ok (.iadd, 1) := by decide +kernel
theorem dX1_ticksForAll_31 : decode cX1_ticksForAll 31 = .ok (.istore_n 3, 1) := by decide +kernel
theorem dX1_ticksForAll_32 : decode cX1_ticksForAll 32 = .ok (.iinc 4 1, 3) := by decide +kernel
theorem dX1_ticksForAll_35 : decode cX1_ticksForAll 35 = .ok (.goto (-17), 3) := by decide +kernel
theorem dX1_ticksForAll_38 : decode cX1_ticksForAll 38 = .ok (.iload_n 3, 1) := by decide +kernel
theorem dX1_ticksForAll_39 : decode cX1_ticksForAll 39 = .ok (.ireturn, 1) := by decide +kernel
abbrev zX1_ticksForAll : List Cond := .code yX1_ticksForAll cX1_ticksForAll 5 (some .int) :: BIG
def fX1_ticksForAll_l18 (x : ShT)  (K18 : (Int32 × Int32) → Option (Int32)) (v18 : Int32 × Int32) : Option (Int32) := (if 24 ≤ v18.2 then some v18.1 else gd (pin v18.2 24) (K18 (v18.1 + (x.2.2.1 (Int32.toNatClampNeg v18.2)), v18.2 + 1)))
def fX1_ticksForAll_l18_1 (x : ShT)  (K18_1 : (Int32 × Int32) → Option (Int32)) (v18_1 : Int32 × Int32) : Option (Int32) := (if 24 ≤ v18_1.2 then some v18_1.1 else gd (pin v18_1.2 24) (K18_1 (v18_1.1 + (x.2.2.2.1 (Int32.toNatClampNeg v18_1.2)), v18_1.2 + 1)))
def fX1_ticksForAll (x : ShT) (cu : Int32) : Option (Int32) := (fX1_dragsOf x cu).bind (fun r1 => (if cu = 0 then (fX1_ticksWithoutDrag x cu).bind (fun r3 => lp (fX1_ticksForAll_l18 x) 2000 (24 * r3, 0)) else (fX1_ticksWithoutDrag x cu).bind (fun r4 => lp (fX1_ticksForAll_l18_1 x) 2000 (24 * r4, 0))))
set_option maxHeartbeats 4000000 in
set_option maxRecDepth 100000 in
theorem mtX1_ticksForAll (l : Launch) (D : va_G) (t : Nat → ClassId) (xa : Nat) (xb : Nat → Nat) (x : ShT) (cu : Int32) (out : Int32) (h : fX1_ticksForAll x cu = some out)  (sz : Nat) : Met l yX1_ticksForAll zX1_ticksForAll ({ frames := 2, cells := 0, slots := 0, locals := 44 }) (sPc D t (gS t xa xb x) sz [.ref xa, .int cu]) (qI D t (gS t xa xb x) out (va_A (gS t xa xb x) sz)) 0 0 (va_A (gS t xa xb x) sz) := by
  refine met_of (Qf := fun A => qI D t (gS t xa xb x) out A) (cc := cX1_ticksForAll) (maxL := 5) (ret := some .int) (by decide) rfl (Nat.le_of_ble_eq_true rfl) ?_
  intro p e s m args below meth c A hx hb hr hml hts hown hlocks hA hP hK hD hE hS ls hl
  have htB : ∀ w ∈ BIG, w.before args s = true := fun w h => hts w (List.mem_cons_of_mem _ h)
  have hown : s.vm.findClass RX1 = some m.cls := hown
  have hl : lv_has ls 5 [(0, .ref xa), (1, .int cu)] := hl
  unfold fX1_ticksForAll at h
  have J18_1 : ∀ (fu18_1 : Nat) (v18_1 : Int32 × Int32), lp (fX1_ticksForAll_l18_1 x) fu18_1 v18_1 = some out → ∀ (H : Heap) (locs : List Loc), va_P D vwCl (gS t xa xb x) H → va_D A (gS t xa xb x) → va_S A s.heap H locs → ∀ ls : Array Slot, lv_has ls 5 [(2, .ref (xb 3)), (3, .int v18_1.1), (4, .int v18_1.2)] → W p l e ({ frames := 2, cells := 0, slots := 0, locals := 44 }) s m args below meth c H locs 0 0 (MQ below (qI D t (gS t xa xb x) out A) args s 0 0 A) (F0 m 18 ls []) := by
    intro fu18_1
    induction fu18_1 with
    | zero => intro v18_1 h; cases h
    | succ fu18_1 ih18_1 =>
      intro v18_1 h H locs hP hD hS ls hl
      have h : fX1_ticksForAll_l18_1 x (lp (fX1_ticksForAll_l18_1 x) fu18_1) v18_1 = some out := h
      unfold fX1_ticksForAll_l18_1 at h
      refine lv_iload hx hb dX1_ticksForAll_18 (lv_at hl 2 rfl) ?_
      refine lv_aload_n hx hb dX1_ticksForAll_20 rfl (lv_at hl 0 rfl) ?_
      refine va_alen (v := 24) hx hb hK hP 4 0 rfl rfl rfl dX1_ticksForAll_21 ?_
      refine lv_icmp_ge (tgt := 38) hx hb dX1_ticksForAll_22 (by decide) (fun c7 => ?_) (fun c7 => ?_)
      · have h := it_p c7 h
        refine lv_iload_n hx hb dX1_ticksForAll_38 rfl (lv_at hl 1 rfl) ?_
        obtain rfl := os h
        exact ret_i hx hb hr hlocks hP hK hD hS dX1_ticksForAll_39
      · have h := it_n c7 h
        refine lv_iload_n hx hb dX1_ticksForAll_25 rfl (lv_at hl 1 rfl) ?_
        refine lv_aload_n hx hb dX1_ticksForAll_26 rfl (lv_at hl 0 rfl) ?_
        refine lv_iload hx hb dX1_ticksForAll_27 (lv_at hl 2 rfl) ?_
        obtain ⟨g8, h⟩ := og h
        refine va_iald hx hb hK hP 4 0 rfl rfl (pin_in g8) dX1_ticksForAll_29 ?_
        refine lv_iadd hx hb dX1_ticksForAll_30 ?_
        refine lv_istore_n (lv' := [(3, .int (v18_1.1 + (x.2.2.2.1 (Int32.toNatClampNeg v18_1.2)))), (2, .ref (xb 3)), (4, .int v18_1.2)]) hx hb dX1_ticksForAll_31 rfl hl (by decide) rfl (fun ls hl => ?_)
        refine lv_iinc (v := v18_1.2 + 1) (lv' := [(4, .int (v18_1.2 + 1)), (3, .int (v18_1.1 + (x.2.2.2.1 (Int32.toNatClampNeg v18_1.2)))), (2, .ref (xb 3))]) hx hb dX1_ticksForAll_32 hl (k := 2) rfl rfl (by decide) rfl (fun ls hl => ?_)
        refine lv_goto (tgt := 18) hx hb dX1_ticksForAll_35 (by decide) ?_
        exact ih18_1 (v18_1.1 + (x.2.2.2.1 (Int32.toNatClampNeg v18_1.2)), v18_1.2 + 1) h _ _ hP hD hS _ (lv_sub hl [2, 1, 0] rfl)
  have J18 : ∀ (fu18 : Nat) (v18 : Int32 × Int32), lp (fX1_ticksForAll_l18 x) fu18 v18 = some out → ∀ (H : Heap) (locs : List Loc), va_P D vwCl (gS t xa xb x) H → va_D A (gS t xa xb x) → va_S A s.heap H locs → ∀ ls : Array Slot, lv_has ls 5 [(2, .ref (xb 2)), (3, .int v18.1), (4, .int v18.2)] → W p l e ({ frames := 2, cells := 0, slots := 0, locals := 44 }) s m args below meth c H locs 0 0 (MQ below (qI D t (gS t xa xb x) out A) args s 0 0 A) (F0 m 18 ls []) := by
    intro fu18
    induction fu18 with
    | zero => intro v18 h; cases h
    | succ fu18 ih18 =>
      intro v18 h H locs hP hD hS ls hl
      have h : fX1_ticksForAll_l18 x (lp (fX1_ticksForAll_l18 x) fu18) v18 = some out := h
      unfold fX1_ticksForAll_l18 at h
      refine lv_iload hx hb dX1_ticksForAll_18 (lv_at hl 2 rfl) ?_
      refine lv_aload_n hx hb dX1_ticksForAll_20 rfl (lv_at hl 0 rfl) ?_
      refine va_alen (v := 24) hx hb hK hP 3 0 rfl rfl rfl dX1_ticksForAll_21 ?_
      refine lv_icmp_ge (tgt := 38) hx hb dX1_ticksForAll_22 (by decide) (fun c5 => ?_) (fun c5 => ?_)
      · have h := it_p c5 h
        refine lv_iload_n hx hb dX1_ticksForAll_38 rfl (lv_at hl 1 rfl) ?_
        obtain rfl := os h
        exact ret_i hx hb hr hlocks hP hK hD hS dX1_ticksForAll_39
      · have h := it_n c5 h
        refine lv_iload_n hx hb dX1_ticksForAll_25 rfl (lv_at hl 1 rfl) ?_
        refine lv_aload_n hx hb dX1_ticksForAll_26 rfl (lv_at hl 0 rfl) ?_
        refine lv_iload hx hb dX1_ticksForAll_27 (lv_at hl 2 rfl) ?_
        obtain ⟨g6, h⟩ := og h
        refine va_iald hx hb hK hP 3 0 rfl rfl (pin_in g6) dX1_ticksForAll_29 ?_
        refine lv_iadd hx hb dX1_ticksForAll_30 ?_
        refine lv_istore_n (lv' := [(3, .int (v18.1 + (x.2.2.1 (Int32.toNatClampNeg v18.2)))), (2, .ref (xb 2)), (4, .int v18.2)]) hx hb dX1_ticksForAll_31 rfl hl (by decide) rfl (fun ls hl => ?_)
        refine lv_iinc (v := v18.2 + 1) (lv' := [(4, .int (v18.2 + 1)), (3, .int (v18.1 + (x.2.2.1 (Int32.toNatClampNeg v18.2)))), (2, .ref (xb 2))]) hx hb dX1_ticksForAll_32 hl (k := 2) rfl rfl (by decide) rfl (fun ls hl => ?_)
        refine lv_goto (tgt := 18) hx hb dX1_ticksForAll_35 (by decide) ?_
        exact ih18 (v18.1 + (x.2.2.1 (Int32.toNatClampNeg v18.2)), v18.2 + 1) h _ _ hP hD hS _ (lv_sub hl [2, 1, 0] rfl)
  refine lv_aload_n hx hb dX1_ticksForAll_0 rfl (lv_at hl 0 rfl) ?_
  refine lv_iload_n hx hb dX1_ticksForAll_1 rfl (lv_at hl 1 rfl) ?_
  obtain ⟨r1, h1, h⟩ := ob h
  refine call_r (v := if cu = 0 then xb 2 else xb 3) (wc := (gS t xa xb x)) (wc' := (gS t xa xb x)) (ws' := (gS t xa xb x)) (cutB (bs := [gS t xa xb x]) (cs := [gS t xa xb x]) (cs' := [gS t xa xb x]) (bs' := [gS t xa xb x]) [0] hP hD hS hA rfl rfl rfl rfl) hS (fun hPc hDc => va_runV (As := [.int cu]) (rest := []) ⟨hx, hb, hml, hown, hts⟩ (mtX1_dragsOf l D t xa xb x cu r1 h1 _) (cwV 1 hts (gBV kw170 kw171 kw172 kw11 kw173) rfl rfl rfl (by decide +kernel) ⟨Nat.le_of_ble_eq_true rfl, Nat.le_of_ble_eq_true rfl⟩) (sPc_V hPc hK hDc hE (va_recv hK hP (ci := 1) (q0 := 0) rfl rfl)) rfl rfl hl.1 rfl (lv_room (Nat.le_of_ble_eq_true rfl)) dX1_ticksForAll_2 ⟨Nat.zero_le _, Nat.zero_le _⟩) (fun H locs hP hD hS => ?_)
  by_cases c2 : cu = 0
  · have h := it_p c2 h
    rw [if_pos c2]
    refine lv_astore_n (lv' := [(2, .ref (xb 2)), (0, .ref xa), (1, .int cu)]) hx hb dX1_ticksForAll_5 rfl hl (by decide) rfl (fun ls hl => ?_)
    refine lv_bipush (v := 24) hx hb dX1_ticksForAll_6 (by decide) ?_
    refine lv_aload_n hx hb dX1_ticksForAll_8 rfl (lv_at hl 1 rfl) ?_
    refine lv_iload_n hx hb dX1_ticksForAll_9 rfl (lv_at hl 2 rfl) ?_
    obtain ⟨r3, h3, h⟩ := ob h
    refine call_i (v := r3) (wc := (gS t xa xb x)) (wc' := (gS t xa xb x)) (ws' := (gS t xa xb x)) (cutB (bs := [gS t xa xb x]) (cs := [gS t xa xb x]) (cs' := [gS t xa xb x]) (bs' := [gS t xa xb x]) [0] hP hD hS hA rfl rfl rfl rfl) hS (fun hPc hDc => va_runV (As := [.int cu]) (rest := [.int 24]) ⟨hx, hb, hml, hown, hts⟩ (mtX1_ticksWithoutDrag l D t xa xb x cu r3 h3 _) (cwV 1 hts (gBV kw174 kw114 kw115 kw11 kw116) rfl rfl rfl (by decide +kernel) ⟨Nat.le_of_ble_eq_true rfl, Nat.le_of_ble_eq_true rfl⟩) (sPc_V hPc hK hDc hE (va_recv hK hP (ci := 1) (q0 := 0) rfl rfl)) rfl rfl hl.1 rfl (lv_room (Nat.le_of_ble_eq_true rfl)) dX1_ticksForAll_10 ⟨Nat.zero_le _, Nat.zero_le _⟩) (fun H locs hP hD hS => ?_)
    refine lv_imul hx hb dX1_ticksForAll_13 ?_
    refine lv_istore_n (lv' := [(3, .int (24 * r3)), (2, .ref (xb 2)), (0, .ref xa), (1, .int cu)]) hx hb dX1_ticksForAll_14 rfl hl (by decide) rfl (fun ls hl => ?_)
    refine lv_iconst (v := 0) hx hb dX1_ticksForAll_15 (by decide) ?_
    refine lv_istore (lv' := [(4, .int 0), (3, .int (24 * r3)), (2, .ref (xb 2)), (0, .ref xa), (1, .int cu)]) hx hb dX1_ticksForAll_16 hl (by decide) rfl (fun ls hl => ?_)
    exact J18 2000 (24 * r3, 0) h _ _ hP hD hS _ (lv_sub hl [2, 1, 0] rfl)
  · have h := it_n c2 h
    rw [if_neg c2]
    refine lv_astore_n (lv' := [(2, .ref (xb 3)), (0, .ref xa), (1, .int cu)]) hx hb dX1_ticksForAll_5 rfl hl (by decide) rfl (fun ls hl => ?_)
    refine lv_bipush (v := 24) hx hb dX1_ticksForAll_6 (by decide) ?_
    refine lv_aload_n hx hb dX1_ticksForAll_8 rfl (lv_at hl 1 rfl) ?_
    refine lv_iload_n hx hb dX1_ticksForAll_9 rfl (lv_at hl 2 rfl) ?_
    obtain ⟨r4, h4, h⟩ := ob h
    refine call_i (v := r4) (wc := (gS t xa xb x)) (wc' := (gS t xa xb x)) (ws' := (gS t xa xb x)) (cutB (bs := [gS t xa xb x]) (cs := [gS t xa xb x]) (cs' := [gS t xa xb x]) (bs' := [gS t xa xb x]) [0] hP hD hS hA rfl rfl rfl rfl) hS (fun hPc hDc => va_runV (As := [.int cu]) (rest := [.int 24]) ⟨hx, hb, hml, hown, hts⟩ (mtX1_ticksWithoutDrag l D t xa xb x cu r4 h4 _) (cwV 1 hts (gBV kw174 kw114 kw115 kw11 kw116) rfl rfl rfl (by decide +kernel) ⟨Nat.le_of_ble_eq_true rfl, Nat.le_of_ble_eq_true rfl⟩) (sPc_V hPc hK hDc hE (va_recv hK hP (ci := 1) (q0 := 0) rfl rfl)) rfl rfl hl.1 rfl (lv_room (Nat.le_of_ble_eq_true rfl)) dX1_ticksForAll_10 ⟨Nat.zero_le _, Nat.zero_le _⟩) (fun H locs hP hD hS => ?_)
    refine lv_imul hx hb dX1_ticksForAll_13 ?_
    refine lv_istore_n (lv' := [(3, .int (24 * r4)), (2, .ref (xb 3)), (0, .ref xa), (1, .int cu)]) hx hb dX1_ticksForAll_14 rfl hl (by decide) rfl (fun ls hl => ?_)
    refine lv_iconst (v := 0) hx hb dX1_ticksForAll_15 (by decide) ?_
    refine lv_istore (lv' := [(4, .int 0), (3, .int (24 * r4)), (2, .ref (xb 3)), (0, .ref xa), (1, .int cu)]) hx hb dX1_ticksForAll_16 hl (by decide) rfl (fun ls hl => ?_)
    exact J18_1 2000 (24 * r4, 0) h _ _ hP hD hS _ (lv_sub hl [2, 1, 0] rfl)

theorem dX1_slowestColumn_0 : decode cX1_slowestColumn 0 = .ok (.aload_n 0, 1) := by decide +kernel
theorem dX1_slowestColumn_1 : decode cX1_slowestColumn 1 = .ok (.iload_n 1, 1) := by decide +kernel
theorem dX1_slowestColumn_2 : decode cX1_slowestColumn 2 = .ok (.invokevirtual 51, 3) := by decide +kernel
theorem dX1_slowestColumn_5 : decode cX1_slowestColumn 5 = .ok (.astore_n 2, 1) := by decide +kernel
theorem dX1_slowestColumn_6 : decode cX1_slowestColumn 6 = .ok (.iconst 0, 1) := by decide +kernel
theorem dX1_slowestColumn_7 : decode cX1_slowestColumn 7 = .ok (.istore_n 3, 1) := by decide +kernel
theorem dX1_slowestColumn_8 : decode cX1_slowestColumn 8 = .ok (.iconst 0, 1) := by decide +kernel
theorem dX1_slowestColumn_9 : decode cX1_slowestColumn 9 = .ok (.istore 4, 2) := by decide +kernel
theorem dX1_slowestColumn_11 : decode cX1_slowestColumn 11 = .ok (.iload 4, 2) := by decide +kernel
theorem dX1_slowestColumn_13 : decode cX1_slowestColumn 13 = .ok (.aload_n 2, 1) := by decide +kernel
theorem dX1_slowestColumn_14 : decode cX1_slowestColumn 14 = .ok (.arraylength, 1) := by decide +kernel
theorem dX1_slowestColumn_15 : decode cX1_slowestColumn 15 = .ok (.if_icmp .ge 24, 3) := by decide +kernel
theorem dX1_slowestColumn_18 : decode cX1_slowestColumn 18 = .ok (.aload_n 2, 1) := by decide +kernel
theorem dX1_slowestColumn_19 : decode cX1_slowestColumn 19 = .ok (.iload 4, 2) := by decide +kernel
theorem dX1_slowestColumn_21 : decode cX1_slowestColumn 21 = .ok (.iaload, 1) := by decide +kernel
theorem dX1_slowestColumn_22 : decode cX1_slowestColumn 22 = .ok (.aload_n 2, 1) := by decide +kernel
theorem dX1_slowestColumn_23 : decode cX1_slowestColumn 23 = .ok (.iload_n 3, 1) := by decide +kernel
theorem dX1_slowestColumn_24 : decode cX1_slowestColumn 24 = .ok (.invokestatic 47, 3) := by decide +kernel
theorem dX1_slowestColumn_27 : decode cX1_slowestColumn 27 = .ok (.if_icmp .le 6, 3) := by decide +kernel
theorem dX1_slowestColumn_30 : decode cX1_slowestColumn 30 = .ok (.iload 4, 2) := by decide +kernel
theorem dX1_slowestColumn_32 : decode cX1_slowestColumn 32 = .ok (.istore_n 3, 1) := by decide +kernel
theorem dX1_slowestColumn_33 : decode cX1_slowestColumn 33 = .ok (.iinc 4 1, 3) := by decide +kernel
theorem dX1_slowestColumn_36 : decode cX1_slowestColumn 36 = .ok (.goto (-25), 3) := by decide +kernel
theorem dX1_slowestColumn_39 : decode cX1_slowestColumn 39 = .ok (.iload_n 3, 1) := by decide +kernel
theorem dX1_slowestColumn_40 : decode cX1_slowestColumn 40 = .ok (.ireturn, 1) := by decide +kernel
abbrev zX1_slowestColumn : List Cond := .code yX1_slowestColumn cX1_slowestColumn 5 (some .int) :: BIG
def fX1_slowestColumn_l11 (x : ShT)  (K11 : (Int32 × Int32) → Option (Int32)) (v11 : Int32 × Int32) : Option (Int32) := (if 24 ≤ v11.2 then some v11.1 else gd (pin v11.2 24) ((fX2_at 24 x.2.2.1 v11.1).bind (fun r5 => (if (x.2.2.1 (Int32.toNatClampNeg v11.2)) ≤ r5 then K11 (v11.1, v11.2 + 1) else K11 (v11.2, v11.2 + 1)))))
def fX1_slowestColumn_l11_1 (x : ShT)  (K11_1 : (Int32 × Int32) → Option (Int32)) (v11_1 : Int32 × Int32) : Option (Int32) := (if 24 ≤ v11_1.2 then some v11_1.1 else gd (pin v11_1.2 24) ((fX2_at 24 x.2.2.2.1 v11_1.1).bind (fun r9 => (if (x.2.2.2.1 (Int32.toNatClampNeg v11_1.2)) ≤ r9 then K11_1 (v11_1.1, v11_1.2 + 1) else K11_1 (v11_1.2, v11_1.2 + 1)))))
def fX1_slowestColumn (x : ShT) (cu : Int32) : Option (Int32) := (fX1_dragsOf x cu).bind (fun r1 => (if cu = 0 then lp (fX1_slowestColumn_l11 x) 2000 (0, 0) else lp (fX1_slowestColumn_l11_1 x) 2000 (0, 0)))
set_option maxHeartbeats 4000000 in
set_option maxRecDepth 100000 in
theorem mtX1_slowestColumn (l : Launch) (D : va_G) (t : Nat → ClassId) (xa : Nat) (xb : Nat → Nat) (x : ShT) (cu : Int32) (out : Int32) (h : fX1_slowestColumn x cu = some out)  (sz : Nat) : Met l yX1_slowestColumn zX1_slowestColumn ({ frames := 1, cells := 0, slots := 0, locals := 21 }) (sPc D t (gS t xa xb x) sz [.ref xa, .int cu]) (qI D t (gS t xa xb x) out (va_A (gS t xa xb x) sz)) 0 0 (va_A (gS t xa xb x) sz) := by
  refine met_of (Qf := fun A => qI D t (gS t xa xb x) out A) (cc := cX1_slowestColumn) (maxL := 5) (ret := some .int) (by decide) rfl (Nat.le_of_ble_eq_true rfl) ?_
  intro p e s m args below meth c A hx hb hr hml hts hown hlocks hA hP hK hD hE hS ls hl
  have htB : ∀ w ∈ BIG, w.before args s = true := fun w h => hts w (List.mem_cons_of_mem _ h)
  have hown : s.vm.findClass RX1 = some m.cls := hown
  have hl : lv_has ls 5 [(0, .ref xa), (1, .int cu)] := hl
  unfold fX1_slowestColumn at h
  have J11_1 : ∀ (fu11_1 : Nat) (v11_1 : Int32 × Int32), lp (fX1_slowestColumn_l11_1 x) fu11_1 v11_1 = some out → ∀ (H : Heap) (locs : List Loc), va_P D vwCl (gS t xa xb x) H → va_D A (gS t xa xb x) → va_S A s.heap H locs → ∀ ls : Array Slot, lv_has ls 5 [(2, .ref (xb 3)), (3, .int v11_1.1), (4, .int v11_1.2)] → W p l e ({ frames := 1, cells := 0, slots := 0, locals := 21 }) s m args below meth c H locs 0 0 (MQ below (qI D t (gS t xa xb x) out A) args s 0 0 A) (F0 m 11 ls []) := by
    intro fu11_1
    induction fu11_1 with
    | zero => intro v11_1 h; cases h
    | succ fu11_1 ih11_1 =>
      intro v11_1 h H locs hP hD hS ls hl
      have h : fX1_slowestColumn_l11_1 x (lp (fX1_slowestColumn_l11_1 x) fu11_1) v11_1 = some out := h
      unfold fX1_slowestColumn_l11_1 at h
      refine lv_iload hx hb dX1_slowestColumn_11 (lv_at hl 2 rfl) ?_
      refine lv_aload_n hx hb dX1_slowestColumn_13 rfl (lv_at hl 0 rfl) ?_
      refine va_alen (v := 24) hx hb hK hP 4 0 rfl rfl rfl dX1_slowestColumn_14 ?_
      refine lv_icmp_ge (tgt := 39) hx hb dX1_slowestColumn_15 (by decide) (fun c7 => ?_) (fun c7 => ?_)
      · have h := it_p c7 h
        refine lv_iload_n hx hb dX1_slowestColumn_39 rfl (lv_at hl 1 rfl) ?_
        obtain rfl := os h
        exact ret_i hx hb hr hlocks hP hK hD hS dX1_slowestColumn_40
      · have h := it_n c7 h
        refine lv_aload_n hx hb dX1_slowestColumn_18 rfl (lv_at hl 0 rfl) ?_
        refine lv_iload hx hb dX1_slowestColumn_19 (lv_at hl 2 rfl) ?_
        obtain ⟨g8, h⟩ := og h
        refine va_iald hx hb hK hP 4 0 rfl rfl (pin_in g8) dX1_slowestColumn_21 ?_
        refine lv_aload_n hx hb dX1_slowestColumn_22 rfl (lv_at hl 0 rfl) ?_
        refine lv_iload_n hx hb dX1_slowestColumn_23 rfl (lv_at hl 1 rfl) ?_
        obtain ⟨r9, h9, h⟩ := ob h
        refine call_i (v := r9) (wc := (gA t (xb 3) 24 x.2.2.2.1)) (wc' := (gA t (xb 3) 24 x.2.2.2.1)) (ws' := (gS t xa xb x)) (cutI (wc := (gA t (xb 3) 24 x.2.2.2.1)) (wc' := (gA t (xb 3) 24 x.2.2.2.1)) (ws' := (gS t xa xb x)) [4] hP hD hS hA rfl rfl rfl rfl) hS (fun hPc hDc => va_runSN (As := [.ref (xb 3), .int v11_1.1]) (rest := [.int (x.2.2.2.1 (Int32.toNatClampNeg v11_1.2))]) ⟨hx, hb, hml, hown, hts⟩ (mtX2_at l D t (xb 3) 24 x.2.2.2.1 v11_1.1 r9 h9 (by decide) _) ⟨va_cnB 2 hts (gB kw66) rfl rfl rfl hE.2.2.2.1 (htB _ kw2) (by decide +kernel) ⟨Nat.le_of_ble_eq_true rfl, Nat.le_of_ble_eq_true rfl⟩, (htB _ kw65), trivial⟩ (sPc_S hPc hK hDc hE) rfl rfl hl.1 rfl (lv_room (Nat.le_of_ble_eq_true rfl)) dX1_slowestColumn_24 ⟨Nat.zero_le _, Nat.zero_le _⟩) (fun H locs hP hD hS => ?_)
        refine lv_icmp_le (tgt := 33) hx hb dX1_slowestColumn_27 (by decide) (fun c10 => ?_) (fun c10 => ?_)
        · have h := it_p c10 h
          refine lv_iinc (v := v11_1.2 + 1) (lv' := [(4, .int (v11_1.2 + 1)), (2, .ref (xb 3)), (3, .int v11_1.1)]) hx hb dX1_slowestColumn_33 hl (k := 2) rfl rfl (by decide) rfl (fun ls hl => ?_)
          refine lv_goto (tgt := 11) hx hb dX1_slowestColumn_36 (by decide) ?_
          exact ih11_1 (v11_1.1, v11_1.2 + 1) h _ _ hP hD hS _ (lv_sub hl [1, 2, 0] rfl)
        · have h := it_n c10 h
          refine lv_iload hx hb dX1_slowestColumn_30 (lv_at hl 2 rfl) ?_
          refine lv_istore_n (lv' := [(3, .int v11_1.2), (2, .ref (xb 3)), (4, .int v11_1.2)]) hx hb dX1_slowestColumn_32 rfl hl (by decide) rfl (fun ls hl => ?_)
          refine lv_iinc (v := v11_1.2 + 1) (lv' := [(4, .int (v11_1.2 + 1)), (3, .int v11_1.2), (2, .ref (xb 3))]) hx hb dX1_slowestColumn_33 hl (k := 2) rfl rfl (by decide) rfl (fun ls hl => ?_)
          refine lv_goto (tgt := 11) hx hb dX1_slowestColumn_36 (by decide) ?_
          exact ih11_1 (v11_1.2, v11_1.2 + 1) h _ _ hP hD hS _ (lv_sub hl [2, 1, 0] rfl)
  have J11 : ∀ (fu11 : Nat) (v11 : Int32 × Int32), lp (fX1_slowestColumn_l11 x) fu11 v11 = some out → ∀ (H : Heap) (locs : List Loc), va_P D vwCl (gS t xa xb x) H → va_D A (gS t xa xb x) → va_S A s.heap H locs → ∀ ls : Array Slot, lv_has ls 5 [(2, .ref (xb 2)), (3, .int v11.1), (4, .int v11.2)] → W p l e ({ frames := 1, cells := 0, slots := 0, locals := 21 }) s m args below meth c H locs 0 0 (MQ below (qI D t (gS t xa xb x) out A) args s 0 0 A) (F0 m 11 ls []) := by
    intro fu11
    induction fu11 with
    | zero => intro v11 h; cases h
    | succ fu11 ih11 =>
      intro v11 h H locs hP hD hS ls hl
      have h : fX1_slowestColumn_l11 x (lp (fX1_slowestColumn_l11 x) fu11) v11 = some out := h
      unfold fX1_slowestColumn_l11 at h
      refine lv_iload hx hb dX1_slowestColumn_11 (lv_at hl 2 rfl) ?_
      refine lv_aload_n hx hb dX1_slowestColumn_13 rfl (lv_at hl 0 rfl) ?_
      refine va_alen (v := 24) hx hb hK hP 3 0 rfl rfl rfl dX1_slowestColumn_14 ?_
      refine lv_icmp_ge (tgt := 39) hx hb dX1_slowestColumn_15 (by decide) (fun c3 => ?_) (fun c3 => ?_)
      · have h := it_p c3 h
        refine lv_iload_n hx hb dX1_slowestColumn_39 rfl (lv_at hl 1 rfl) ?_
        obtain rfl := os h
        exact ret_i hx hb hr hlocks hP hK hD hS dX1_slowestColumn_40
      · have h := it_n c3 h
        refine lv_aload_n hx hb dX1_slowestColumn_18 rfl (lv_at hl 0 rfl) ?_
        refine lv_iload hx hb dX1_slowestColumn_19 (lv_at hl 2 rfl) ?_
        obtain ⟨g4, h⟩ := og h
        refine va_iald hx hb hK hP 3 0 rfl rfl (pin_in g4) dX1_slowestColumn_21 ?_
        refine lv_aload_n hx hb dX1_slowestColumn_22 rfl (lv_at hl 0 rfl) ?_
        refine lv_iload_n hx hb dX1_slowestColumn_23 rfl (lv_at hl 1 rfl) ?_
        obtain ⟨r5, h5, h⟩ := ob h
        refine call_i (v := r5) (wc := (gA t (xb 2) 24 x.2.2.1)) (wc' := (gA t (xb 2) 24 x.2.2.1)) (ws' := (gS t xa xb x)) (cutI (wc := (gA t (xb 2) 24 x.2.2.1)) (wc' := (gA t (xb 2) 24 x.2.2.1)) (ws' := (gS t xa xb x)) [3] hP hD hS hA rfl rfl rfl rfl) hS (fun hPc hDc => va_runSN (As := [.ref (xb 2), .int v11.1]) (rest := [.int (x.2.2.1 (Int32.toNatClampNeg v11.2))]) ⟨hx, hb, hml, hown, hts⟩ (mtX2_at l D t (xb 2) 24 x.2.2.1 v11.1 r5 h5 (by decide) _) ⟨va_cnB 2 hts (gB kw66) rfl rfl rfl hE.2.2.2.1 (htB _ kw2) (by decide +kernel) ⟨Nat.le_of_ble_eq_true rfl, Nat.le_of_ble_eq_true rfl⟩, (htB _ kw65), trivial⟩ (sPc_S hPc hK hDc hE) rfl rfl hl.1 rfl (lv_room (Nat.le_of_ble_eq_true rfl)) dX1_slowestColumn_24 ⟨Nat.zero_le _, Nat.zero_le _⟩) (fun H locs hP hD hS => ?_)
        refine lv_icmp_le (tgt := 33) hx hb dX1_slowestColumn_27 (by decide) (fun c6 => ?_) (fun c6 => ?_)
        · have h := it_p c6 h
          refine lv_iinc (v := v11.2 + 1) (lv' := [(4, .int (v11.2 + 1)), (2, .ref (xb 2)), (3, .int v11.1)]) hx hb dX1_slowestColumn_33 hl (k := 2) rfl rfl (by decide) rfl (fun ls hl => ?_)
          refine lv_goto (tgt := 11) hx hb dX1_slowestColumn_36 (by decide) ?_
          exact ih11 (v11.1, v11.2 + 1) h _ _ hP hD hS _ (lv_sub hl [1, 2, 0] rfl)
        · have h := it_n c6 h
          refine lv_iload hx hb dX1_slowestColumn_30 (lv_at hl 2 rfl) ?_
          refine lv_istore_n (lv' := [(3, .int v11.2), (2, .ref (xb 2)), (4, .int v11.2)]) hx hb dX1_slowestColumn_32 rfl hl (by decide) rfl (fun ls hl => ?_)
          refine lv_iinc (v := v11.2 + 1) (lv' := [(4, .int (v11.2 + 1)), (3, .int v11.2), (2, .ref (xb 2))]) hx hb dX1_slowestColumn_33 hl (k := 2) rfl rfl (by decide) rfl (fun ls hl => ?_)
          refine lv_goto (tgt := 11) hx hb dX1_slowestColumn_36 (by decide) ?_
          exact ih11 (v11.2, v11.2 + 1) h _ _ hP hD hS _ (lv_sub hl [2, 1, 0] rfl)
  refine lv_aload_n hx hb dX1_slowestColumn_0 rfl (lv_at hl 0 rfl) ?_
  refine lv_iload_n hx hb dX1_slowestColumn_1 rfl (lv_at hl 1 rfl) ?_
  obtain ⟨r1, h1, h⟩ := ob h
  refine call_r (v := if cu = 0 then xb 2 else xb 3) (wc := (gS t xa xb x)) (wc' := (gS t xa xb x)) (ws' := (gS t xa xb x)) (cutB (bs := [gS t xa xb x]) (cs := [gS t xa xb x]) (cs' := [gS t xa xb x]) (bs' := [gS t xa xb x]) [0] hP hD hS hA rfl rfl rfl rfl) hS (fun hPc hDc => va_runV (As := [.int cu]) (rest := []) ⟨hx, hb, hml, hown, hts⟩ (mtX1_dragsOf l D t xa xb x cu r1 h1 _) (cwV 1 hts (gBV kw170 kw171 kw172 kw11 kw173) rfl rfl rfl (by decide +kernel) ⟨Nat.le_of_ble_eq_true rfl, Nat.le_of_ble_eq_true rfl⟩) (sPc_V hPc hK hDc hE (va_recv hK hP (ci := 1) (q0 := 0) rfl rfl)) rfl rfl hl.1 rfl (lv_room (Nat.le_of_ble_eq_true rfl)) dX1_slowestColumn_2 ⟨Nat.zero_le _, Nat.zero_le _⟩) (fun H locs hP hD hS => ?_)
  by_cases c2 : cu = 0
  · have h := it_p c2 h
    rw [if_pos c2]
    refine lv_astore_n (lv' := [(2, .ref (xb 2)), (0, .ref xa), (1, .int cu)]) hx hb dX1_slowestColumn_5 rfl hl (by decide) rfl (fun ls hl => ?_)
    refine lv_iconst (v := 0) hx hb dX1_slowestColumn_6 (by decide) ?_
    refine lv_istore_n (lv' := [(3, .int 0), (2, .ref (xb 2)), (0, .ref xa), (1, .int cu)]) hx hb dX1_slowestColumn_7 rfl hl (by decide) rfl (fun ls hl => ?_)
    refine lv_iconst (v := 0) hx hb dX1_slowestColumn_8 (by decide) ?_
    refine lv_istore (lv' := [(4, .int 0), (3, .int 0), (2, .ref (xb 2)), (0, .ref xa), (1, .int cu)]) hx hb dX1_slowestColumn_9 hl (by decide) rfl (fun ls hl => ?_)
    exact J11 2000 (0, 0) h _ _ hP hD hS _ (lv_sub hl [2, 1, 0] rfl)
  · have h := it_n c2 h
    rw [if_neg c2]
    refine lv_astore_n (lv' := [(2, .ref (xb 3)), (0, .ref xa), (1, .int cu)]) hx hb dX1_slowestColumn_5 rfl hl (by decide) rfl (fun ls hl => ?_)
    refine lv_iconst (v := 0) hx hb dX1_slowestColumn_6 (by decide) ?_
    refine lv_istore_n (lv' := [(3, .int 0), (2, .ref (xb 3)), (0, .ref xa), (1, .int cu)]) hx hb dX1_slowestColumn_7 rfl hl (by decide) rfl (fun ls hl => ?_)
    refine lv_iconst (v := 0) hx hb dX1_slowestColumn_8 (by decide) ?_
    refine lv_istore (lv' := [(4, .int 0), (3, .int 0), (2, .ref (xb 3)), (0, .ref xa), (1, .int cu)]) hx hb dX1_slowestColumn_9 hl (by decide) rfl (fun ls hl => ?_)
    exact J11_1 2000 (0, 0) h _ _ hP hD hS _ (lv_sub hl [2, 1, 0] rfl)

theorem dX1_startOfSecond_0 : decode cX1_startOfSecond 0 = .ok (.iconst 0, 1) := by decide +kernel
theorem dX1_startOfSecond_1 : decode cX1_startOfSecond 1 = .ok (.iload_n 1, 1) := by decide +kernel
theorem dX1_startOfSecond_2 : decode cX1_startOfSecond 2 = .ok (.invokestatic 59, 3) := by decide +kernel
theorem dX1_startOfSecond_5 : decode cX1_startOfSecond 5 = .ok (.aload_n 0, 1) := by decide +kernel
theorem dX1_startOfSecond_6 : decode cX1_startOfSecond 6 = .ok (.getfield 24, 3) := by decide +kernel
theorem dX1_startOfSecond_9 : decode cX1_startOfSecond 9 = .ok (.iload_n 1, 1) := by decide +kernel
theorem dX1_startOfSecond_10 : decode cX1_startOfSecond 10 = .ok (.invokestatic 47, 3) := by decide +kernel
theorem dX1_startOfSecond_13 : decode cX1_startOfSecond 13 = .ok (.iadd, 1) := by decide +kernel
theorem dX1_startOfSecond_14 : decode cX1_startOfSecond 14 = .ok (.invokestatic 62, 3) := by decide +kernel
theorem dX1_startOfSecond_17 : decode cX1_startOfSecond 17 = .ok (.ireturn, 1) := by decide +kernel
abbrev zX1_startOfSecond : List Cond := .code yX1_startOfSecond cX1_startOfSecond 2 (some .int) :: BIG
def fX1_startOfSecond (x : ShT) (v : Int32) : Option (Int32) := (fX2_wantedLight v).bind (fun r1 => (fX2_at 6 x.2.2.2.2.1 v).bind (fun r2 => some (imax 0 (r1 + r2))))
set_option maxHeartbeats 4000000 in
set_option maxRecDepth 100000 in
theorem mtX1_startOfSecond (l : Launch) (D : va_G) (t : Nat → ClassId) (xa : Nat) (xb : Nat → Nat) (x : ShT) (v : Int32) (out : Int32) (h : fX1_startOfSecond x v = some out)  (sz : Nat) : Met l yX1_startOfSecond zX1_startOfSecond ({ frames := 1, cells := 0, slots := 0, locals := 21 }) (sPc D t (gS t xa xb x) sz [.ref xa, .int v]) (qI D t (gS t xa xb x) out (va_A (gS t xa xb x) sz)) 0 0 (va_A (gS t xa xb x) sz) := by
  refine met_of (Qf := fun A => qI D t (gS t xa xb x) out A) (cc := cX1_startOfSecond) (maxL := 2) (ret := some .int) (by decide) rfl (Nat.le_of_ble_eq_true rfl) ?_
  intro p e s m args below meth c A hx hb hr hml hts hown hlocks hA hP hK hD hE hS ls hl
  have htB : ∀ w ∈ BIG, w.before args s = true := fun w h => hts w (List.mem_cons_of_mem _ h)
  have hown : s.vm.findClass RX1 = some m.cls := hown
  have hl : lv_has ls 2 [(0, .ref xa), (1, .int v)] := hl
  unfold fX1_startOfSecond at h
  refine lv_iconst (v := 0) hx hb dX1_startOfSecond_0 (by decide) ?_
  refine lv_iload_n hx hb dX1_startOfSecond_1 rfl (lv_at hl 1 rfl) ?_
  obtain ⟨r1, h1, h⟩ := ob h
  refine call_i (v := r1) (wc := ([] : va_W)) (wc' := ([] : va_W)) (ws' := (gS t xa xb x)) (cutB (bs := [gS t xa xb x]) (cs := []) (cs' := []) (bs' := [gS t xa xb x]) [] hP hD hS hA rfl rfl rfl rfl) hS (fun hPc hDc => va_runSN (As := [.int v]) (rest := [.int 0]) ⟨hx, hb, hml, hown, hts⟩ (mtX2_wantedLight l D t v r1 h1 _) ⟨va_cnB 1 hts (gB kw123) rfl rfl rfl hE.2.2.2.2.1 (htB _ kw2) (by decide +kernel) ⟨Nat.le_of_ble_eq_true rfl, Nat.le_of_ble_eq_true rfl⟩, (htB _ kw122), trivial⟩ (sPc_S hPc hK hDc hE) rfl rfl hl.1 rfl (lv_room (Nat.le_of_ble_eq_true rfl)) dX1_startOfSecond_2 ⟨Nat.zero_le _, Nat.zero_le _⟩) (fun H locs hP hD hS => ?_)
  refine lv_aload_n hx hb dX1_startOfSecond_5 rfl (lv_at hl 0 rfl) ?_
  refine va_get (D := D) (ci := 1) (v := .ref (xb 4)) (C := RX1) (T := TX1) (N := 10) hx hb htB inlX1 hown hK hP 0 rfl rfl 4 (by decide) (htB _ kw32) (fun _ h9 => h9) rfl dX1_startOfSecond_6 ?_
  refine lv_iload_n hx hb dX1_startOfSecond_9 rfl (lv_at hl 1 rfl) ?_
  obtain ⟨r2, h2, h⟩ := ob h
  refine call_i (v := r2) (wc := (gA t (xb 4) 6 x.2.2.2.2.1)) (wc' := (gA t (xb 4) 6 x.2.2.2.2.1)) (ws' := (gS t xa xb x)) (cutI (wc := (gA t (xb 4) 6 x.2.2.2.2.1)) (wc' := (gA t (xb 4) 6 x.2.2.2.2.1)) (ws' := (gS t xa xb x)) [5] hP hD hS hA rfl rfl rfl rfl) hS (fun hPc hDc => va_runSN (As := [.ref (xb 4), .int v]) (rest := [.int r1, .int 0]) ⟨hx, hb, hml, hown, hts⟩ (mtX2_at l D t (xb 4) 6 x.2.2.2.2.1 v r2 h2 (by decide) _) ⟨va_cnB 2 hts (gB kw66) rfl rfl rfl hE.2.2.2.1 (htB _ kw2) (by decide +kernel) ⟨Nat.le_of_ble_eq_true rfl, Nat.le_of_ble_eq_true rfl⟩, (htB _ kw65), trivial⟩ (sPc_S hPc hK hDc hE) rfl rfl hl.1 rfl (lv_room (Nat.le_of_ble_eq_true rfl)) dX1_startOfSecond_10 ⟨Nat.zero_le _, Nat.zero_le _⟩) (fun H locs hP hD hS => ?_)
  refine lv_iadd hx hb dX1_startOfSecond_13 ?_
  refine va_mmax hx hb (by rw [hml]; exact hl.1.symm) hown (htB _ kw121) (htB _ kw111) (htB _ kw63) (htB _ kw112) (Nat.le_of_ble_eq_true rfl) (Nat.le_of_ble_eq_true rfl) (Nat.zero_le _) (Nat.zero_le _) dX1_startOfSecond_14 ?_
  obtain rfl := os h
  exact ret_i hx hb hr hlocks hP hK hD hS dX1_startOfSecond_17

theorem dX1_bounceColumns_0 : decode cX1_bounceColumns 0 = .ok (.aload_n 0, 1) := by decide +kernel
theorem dX1_bounceColumns_1 : decode cX1_bounceColumns 1 = .ok (.getfield 9, 3) := by decide +kernel
theorem dX1_bounceColumns_4 : decode cX1_bounceColumns 4 = .ok (.iconst 0, 1) := by decide +kernel
theorem dX1_bounceColumns_5 : decode cX1_bounceColumns 5 = .ok (.invokestatic 47, 3) := by decide +kernel
theorem dX1_bounceColumns_8 : decode cX1_bounceColumns 8 = .ok (.aload_n 0, 1) := by decide +kernel
theorem dX1_bounceColumns_9 : decode cX1_bounceColumns 9 = .ok (.getfield 27, 3) := by decide +kernel
theorem dX1_bounceColumns_12 : decode cX1_bounceColumns 12 = .ok (.iconst 1, 1) := by decide +kernel
theorem dX1_bounceColumns_13 : decode cX1_bounceColumns 13 = .ok (.invokestatic 47, 3) := by decide +kernel
theorem dX1_bounceColumns_16 : decode cX1_bounceColumns 16 = .ok (.isub, 1) := by decide +kernel
theorem dX1_bounceColumns_17 : decode cX1_bounceColumns 17 = .ok (.istore_n 1, 1) := by decide +kernel
theorem dX1_bounceColumns_18 : decode cX1_bounceColumns 18 = .ok (.iload_n 1, 1) := by decide +kernel
theorem dX1_bounceColumns_19 : decode cX1_bounceColumns 19 = .ok (.ifCond .le 14, 3) := by decide +kernel
theorem dX1_bounceColumns_22 : decode cX1_bounceColumns 22 = .ok (.iload_n 1, 1) := by decide +kernel
theorem dX1_bounceColumns_23 : decode cX1_bounceColumns 23 = .ok (.iconst 5, 1) := by decide +kernel
theorem dX1_bounceColumns_24 : decode cX1_bounceColumns 24 = .ok (.idiv, 1) := by decide +kernel
theorem dX1_bounceColumns_25 : decode cX1_bounceColumns 25 = .ok (.bipush 6, 2) := by decide +kernel
theorem dX1_bounceColumns_27 : decode cX1_bounceColumns 27 = .ok (.invokestatic 68, 3) := by decide +kernel
theorem dX1_bounceColumns_30 : decode cX1_bounceColumns 30 = .ok (.goto 4, 3) := by decide +kernel
theorem dX1_bounceColumns_33 : decode cX1_bounceColumns 33 = .ok (.iconst 0, 1) := by decide +kernel
theorem dX1_bounceColumns_34 : decode cX1_bounceColumns 34 = .ok (.ireturn, 1) := by decide +kernel
abbrev zX1_bounceColumns : List Cond := .code yX1_bounceColumns cX1_bounceColumns 2 (some .int) :: BIG
def fX1_bounceColumns (x : ShT) : Option (Int32) := (fX2_at 2 x.1 0).bind (fun r1 => (fX2_at 4 x.2.2.2.2.2.1 1).bind (fun r2 => (if (r1 - r2) ≤ 0 then some 0 else some (imin ((r1 - r2) / 5) 6))))
set_option maxHeartbeats 4000000 in
set_option maxRecDepth 100000 in
theorem mtX1_bounceColumns (l : Launch) (D : va_G) (t : Nat → ClassId) (xa : Nat) (xb : Nat → Nat) (x : ShT) (out : Int32) (h : fX1_bounceColumns x = some out)  (sz : Nat) : Met l yX1_bounceColumns zX1_bounceColumns ({ frames := 1, cells := 0, slots := 0, locals := 21 }) (sPc D t (gS t xa xb x) sz [.ref xa]) (qI D t (gS t xa xb x) out (va_A (gS t xa xb x) sz)) 0 0 (va_A (gS t xa xb x) sz) := by
  refine met_of (Qf := fun A => qI D t (gS t xa xb x) out A) (cc := cX1_bounceColumns) (maxL := 2) (ret := some .int) (by decide) rfl (Nat.le_of_ble_eq_true rfl) ?_
  intro p e s m args below meth c A hx hb hr hml hts hown hlocks hA hP hK hD hE hS ls hl
  have htB : ∀ w ∈ BIG, w.before args s = true := fun w h => hts w (List.mem_cons_of_mem _ h)
  have hown : s.vm.findClass RX1 = some m.cls := hown
  have hl : lv_has ls 2 [(0, .ref xa)] := hl
  unfold fX1_bounceColumns at h
  refine lv_aload_n hx hb dX1_bounceColumns_0 rfl (lv_at hl 0 rfl) ?_
  refine va_get (D := D) (ci := 1) (v := .ref (xb 0)) (C := RX1) (T := TX1) (N := 10) hx hb htB inlX1 hown hK hP 0 rfl rfl 0 (by decide) (htB _ kw28) (fun _ h9 => h9) rfl dX1_bounceColumns_1 ?_
  refine lv_iconst (v := 0) hx hb dX1_bounceColumns_4 (by decide) ?_
  obtain ⟨r1, h1, h⟩ := ob h
  refine call_i (v := r1) (wc := (gA t (xb 0) 2 x.1)) (wc' := (gA t (xb 0) 2 x.1)) (ws' := (gS t xa xb x)) (cutI (wc := (gA t (xb 0) 2 x.1)) (wc' := (gA t (xb 0) 2 x.1)) (ws' := (gS t xa xb x)) [1] hP hD hS hA rfl rfl rfl rfl) hS (fun hPc hDc => va_runSN (As := [.ref (xb 0), .int 0]) (rest := []) ⟨hx, hb, hml, hown, hts⟩ (mtX2_at l D t (xb 0) 2 x.1 0 r1 h1 (by decide) _) ⟨va_cnB 2 hts (gB kw66) rfl rfl rfl hE.2.2.2.1 (htB _ kw2) (by decide +kernel) ⟨Nat.le_of_ble_eq_true rfl, Nat.le_of_ble_eq_true rfl⟩, (htB _ kw65), trivial⟩ (sPc_S hPc hK hDc hE) rfl rfl hl.1 rfl (lv_room (Nat.le_of_ble_eq_true rfl)) dX1_bounceColumns_5 ⟨Nat.zero_le _, Nat.zero_le _⟩) (fun H locs hP hD hS => ?_)
  refine lv_aload_n hx hb dX1_bounceColumns_8 rfl (lv_at hl 0 rfl) ?_
  refine va_get (D := D) (ci := 1) (v := .ref (xb 5)) (C := RX1) (T := TX1) (N := 10) hx hb htB inlX1 hown hK hP 0 rfl rfl 5 (by decide) (htB _ kw33) (fun _ h9 => h9) rfl dX1_bounceColumns_9 ?_
  refine lv_iconst (v := 1) hx hb dX1_bounceColumns_12 (by decide) ?_
  obtain ⟨r2, h2, h⟩ := ob h
  refine call_i (v := r2) (wc := (gA t (xb 5) 4 x.2.2.2.2.2.1)) (wc' := (gA t (xb 5) 4 x.2.2.2.2.2.1)) (ws' := (gS t xa xb x)) (cutI (wc := (gA t (xb 5) 4 x.2.2.2.2.2.1)) (wc' := (gA t (xb 5) 4 x.2.2.2.2.2.1)) (ws' := (gS t xa xb x)) [6] hP hD hS hA rfl rfl rfl rfl) hS (fun hPc hDc => va_runSN (As := [.ref (xb 5), .int 1]) (rest := [.int r1]) ⟨hx, hb, hml, hown, hts⟩ (mtX2_at l D t (xb 5) 4 x.2.2.2.2.2.1 1 r2 h2 (by decide) _) ⟨va_cnB 2 hts (gB kw66) rfl rfl rfl hE.2.2.2.1 (htB _ kw2) (by decide +kernel) ⟨Nat.le_of_ble_eq_true rfl, Nat.le_of_ble_eq_true rfl⟩, (htB _ kw65), trivial⟩ (sPc_S hPc hK hDc hE) rfl rfl hl.1 rfl (lv_room (Nat.le_of_ble_eq_true rfl)) dX1_bounceColumns_13 ⟨Nat.zero_le _, Nat.zero_le _⟩) (fun H locs hP hD hS => ?_)
  refine lv_isub hx hb dX1_bounceColumns_16 ?_
  refine lv_istore_n (lv' := [(1, .int (r1 - r2)), (0, .ref xa)]) hx hb dX1_bounceColumns_17 rfl hl (by decide) rfl (fun ls hl => ?_)
  refine lv_iload_n hx hb dX1_bounceColumns_18 rfl (lv_at hl 0 rfl) ?_
  refine lv_if_le (tgt := 33) hx hb dX1_bounceColumns_19 (by decide) (fun c3 => ?_) (fun c3 => ?_)
  · have h := it_p c3 h
    refine lv_iconst (v := 0) hx hb dX1_bounceColumns_33 (by decide) ?_
    obtain rfl := os h
    exact ret_i hx hb hr hlocks hP hK hD hS dX1_bounceColumns_34
  · have h := it_n c3 h
    refine lv_iload_n hx hb dX1_bounceColumns_22 rfl (lv_at hl 0 rfl) ?_
    refine lv_iconst (v := 5) hx hb dX1_bounceColumns_23 (by decide) ?_
    refine lv_idiv hx hb dX1_bounceColumns_24 (by decide) ?_
    refine lv_bipush (v := 6) hx hb dX1_bounceColumns_25 (by decide) ?_
    refine va_mmin hx hb (by rw [hml]; exact hl.1.symm) hown (htB _ kw61) (htB _ kw62) (htB _ kw63) (htB _ kw64) (Nat.le_of_ble_eq_true rfl) (Nat.le_of_ble_eq_true rfl) (Nat.zero_le _) (Nat.zero_le _) dX1_bounceColumns_27 ?_
    refine lv_goto (tgt := 34) hx hb dX1_bounceColumns_30 (by decide) ?_
    obtain rfl := os h
    exact ret_i hx hb hr hlocks hP hK hD hS dX1_bounceColumns_34

theorem dX0_spread_0 : decode cX0_spread 0 = .ok (.aload_n 0, 1) := by decide +kernel
theorem dX0_spread_1 : decode cX0_spread 1 = .ok (.getfield 21, 3) := by decide +kernel
theorem dX0_spread_4 : decode cX0_spread 4 = .ok (.aload_n 0, 1) := by decide +kernel
theorem dX0_spread_5 : decode cX0_spread 5 = .ok (.getfield 25, 3) := by decide +kernel
theorem dX0_spread_8 : decode cX0_spread 8 = .ok (.isub, 1) := by decide +kernel
theorem dX0_spread_9 : decode cX0_spread 9 = .ok (.ireturn, 1) := by decide +kernel
abbrev zX0_spread : List Cond := .code yX0_spread cX0_spread 1 (some .int) :: BIG
def fX0_spread (ex : ExT) : Option (Int32) := some (ex.2.2.2.2.2.1 - ex.2.2.2.2.1)
set_option maxHeartbeats 4000000 in
set_option maxRecDepth 100000 in
theorem mtX0_spread (l : Launch) (D : va_G) (t : Nat → ClassId) (ea : Nat) (eb : Nat → Nat) (ex : ExT) (out : Int32) (h : fX0_spread ex = some out)  (sz : Nat) : Met l yX0_spread zX0_spread ({ frames := 0, cells := 0, slots := 0, locals := 0 }) (sPc D t (gE t ea eb ex) sz [.ref ea]) (qI D t (gE t ea eb ex) out (va_A (gE t ea eb ex) sz)) 0 0 (va_A (gE t ea eb ex) sz) := by
  refine met_of (Qf := fun A => qI D t (gE t ea eb ex) out A) (cc := cX0_spread) (maxL := 1) (ret := some .int) (by decide) rfl (Nat.le_of_ble_eq_true rfl) ?_
  intro p e s m args below meth c A hx hb hr hml hts hown hlocks hA hP hK hD hE hS ls hl
  have htB : ∀ w ∈ BIG, w.before args s = true := fun w h => hts w (List.mem_cons_of_mem _ h)
  have hown : s.vm.findClass RX0 = some m.cls := hown
  have hl : lv_has ls 1 [(0, .ref ea)] := hl
  unfold fX0_spread at h
  refine lv_aload_n hx hb dX0_spread_0 rfl (lv_at hl 0 rfl) ?_
  refine va_get (D := D) (ci := 0) (v := .int ex.2.2.2.2.2.1) (C := RX0) (T := TX0) (N := 10) hx hb htB inlX0 hown hK hP 0 rfl rfl 5 (by decide) (htB _ kw137) (fun _ h9 => h9) rfl dX0_spread_1 ?_
  refine lv_aload_n hx hb dX0_spread_4 rfl (lv_at hl 0 rfl) ?_
  refine va_get (D := D) (ci := 0) (v := .int ex.2.2.2.2.1) (C := RX0) (T := TX0) (N := 10) hx hb htB inlX0 hown hK hP 0 rfl rfl 4 (by decide) (htB _ kw136) (fun _ h9 => h9) rfl dX0_spread_5 ?_
  refine lv_isub hx hb dX0_spread_8 ?_
  obtain rfl := os h
  exact ret_i hx hb hr hlocks hP hK hD hS dX0_spread_9

theorem dX1_tally_0 : decode cX1_tally 0 = .ok (.aload_n 0, 1) := by decide +kernel
theorem dX1_tally_1 : decode cX1_tally 1 = .ok (.dup, 1) := by decide +kernel
theorem dX1_tally_2 : decode cX1_tally 2 = .ok (.getfield 33, 3) := by decide +kernel
theorem dX1_tally_5 : decode cX1_tally 5 = .ok (.iconst 1, 1) := by decide +kernel
theorem dX1_tally_6 : decode cX1_tally 6 = .ok (.iadd, 1) := by decide +kernel
theorem dX1_tally_7 : decode cX1_tally 7 = .ok (.putfield 33, 3) := by decide +kernel
theorem dX1_tally_10 : decode cX1_tally 10 = .ok (.aload_n 0, 1) := by decide +kernel
theorem dX1_tally_11 : decode cX1_tally 11 = .ok (.getfield 30, 3) := by decide +kernel
theorem dX1_tally_14 : decode cX1_tally 14 = .ok (.iload_n 1, 1) := by decide +kernel
theorem dX1_tally_15 : decode cX1_tally 15 = .ok (.aload_n 0, 1) := by decide +kernel
theorem dX1_tally_16 : decode cX1_tally 16 = .ok (.getfield 30, 3) := by decide +kernel
theorem dX1_tally_19 : decode cX1_tally 19 = .ok (.iload_n 1, 1) := by decide +kernel
theorem dX1_tally_20 : decode cX1_tally 20 = .ok (.invokestatic 47, 3) := by decide +kernel
theorem dX1_tally_23 : decode cX1_tally 23 = .ok (.iconst 1, 1) := by decide +kernel
theorem dX1_tally_24 : decode cX1_tally 24 = .ok (.iadd, 1) := by decide +kernel
theorem dX1_tally_25 : decode cX1_tally 25 = .ok (.invokestatic 71, 3) := by decide +kernel
theorem dX1_tally_28 : decode cX1_tally 28 = .ok (.aload_n 0, 1) := by decide +kernel
theorem dX1_tally_29 : decode cX1_tally 29 = .ok (.aload_n 2, 1) := by decide +kernel
theorem dX1_tally_30 : decode cX1_tally 30 = .ok (.getfield 75, 3) := by decide +kernel
theorem dX1_tally_33 : decode cX1_tally 33 = .ok (.putfield 37, 3) := by decide +kernel
theorem dX1_tally_36 : decode cX1_tally 36 = .ok (.aload_n 0, 1) := by decide +kernel
theorem dX1_tally_37 : decode cX1_tally 37 = .ok (.aload_n 0, 1) := by decide +kernel
theorem dX1_tally_38 : decode cX1_tally 38 = .ok (.getfield 40, 3) := by decide +kernel
theorem dX1_tally_41 : decode cX1_tally 41 = .ok (.aload_n 2, 1) := by decide +kernel
theorem dX1_tally_42 : decode cX1_tally 42 = .ok (.invokevirtual 80, 3) := by decide +kernel
theorem dX1_tally_45 : decode cX1_tally 45 = .ok (.invokestatic 62, 3) := by decide +kernel
theorem dX1_tally_48 : decode cX1_tally 48 = .ok (.putfield 40, 3) := by decide +kernel
theorem dX1_tally_51 : decode cX1_tally 51 = .ok (.aload_n 0, 1) := by decide +kernel
theorem dX1_tally_52 : decode cX1_tally 52 = .ok (.getfield 27, 3) := by decide +kernel
theorem dX1_tally_55 : decode cX1_tally 55 = .ok (.iconst 3, 1) := by decide +kernel
theorem dX1_tally_56 : decode cX1_tally 56 = .ok (.invokestatic 47, 3) := by decide +kernel
theorem dX1_tally_59 : decode cX1_tally 59 = .ok (.istore_n 3, 1) := by decide +kernel
theorem dX1_tally_60 : decode cX1_tally 60 = .ok (.iload_n 3, 1) := by decide +kernel
theorem dX1_tally_61 : decode cX1_tally 61 = .ok (.ifCond .le 16, 3) := by decide +kernel
theorem dX1_tally_64 : decode cX1_tally 64 = .ok (.aload_n 0, 1) := by decide +kernel
theorem dX1_tally_65 : decode cX1_tally 65 = .ok (.getfield 33, 3) := by decide +kernel
theorem dX1_tally_68 : decode cX1_tally 68 = .ok (.iload_n 3, 1) := by decide +kernel
theorem dX1_tally_69 : decode cX1_tally 69 = .ok (.irem, 1) := by decide +kernel
theorem dX1_tally_70 : decode cX1_tally 70 = .ok (.ifCond .ne 7, 3) := by decide +kernel
theorem dX1_tally_73 : decode cX1_tally 73 = .ok (.iconst 1, 1) := by decide +kernel
theorem dX1_tally_74 : decode cX1_tally 74 = .ok (.goto 4, 3) := by decide +kernel
theorem dX1_tally_77 : decode cX1_tally 77 = .ok (.iconst 0, 1) := by decide +kernel
theorem dX1_tally_78 : decode cX1_tally 78 = .ok (.istore 4, 2) := by decide +kernel
theorem dX1_tally_80 : decode cX1_tally 80 = .ok (.iconst 0, 1) := by decide +kernel
theorem dX1_tally_81 : decode cX1_tally 81 = .ok (.istore 5, 2) := by decide +kernel
theorem dX1_tally_83 : decode cX1_tally 83 = .ok (.iload 5, 2) := by decide +kernel
theorem dX1_tally_85 : decode cX1_tally 85 = .ok (.iconst 2, 1) := by decide +kernel
theorem dX1_tally_86 : decode cX1_tally 86 = .ok (.if_icmp .ge 58, 3) := by decide +kernel
theorem dX1_tally_89 : decode cX1_tally 89 = .ok (.aload_n 0, 1) := by decide +kernel
theorem dX1_tally_90 : decode cX1_tally 90 = .ok (.getfield 15, 3) := by decide +kernel
theorem dX1_tally_93 : decode cX1_tally 93 = .ok (.iload 5, 2) := by decide +kernel
theorem dX1_tally_95 : decode cX1_tally 95 = .ok (.aload_n 0, 1) := by decide +kernel
theorem dX1_tally_96 : decode cX1_tally 96 = .ok (.getfield 15, 3) := by decide +kernel
theorem dX1_tally_99 : decode cX1_tally 99 = .ok (.iload 5, 2) := by decide +kernel
theorem dX1_tally_101 : decode cX1_tally 101 = .ok (.invokestatic 47, 3) := by decide +kernel
theorem dX1_tally_104 : decode cX1_tally 104 = .ok (.iconst 1, 1) := by decide +kernel
theorem dX1_tally_105 : decode cX1_tally 105 = .ok (.iadd, 1) := by decide +kernel
theorem dX1_tally_106 : decode cX1_tally 106 = .ok (.invokestatic 71, 3) := by decide +kernel
theorem dX1_tally_109 : decode cX1_tally 109 = .ok (.iload 4, 2) := by decide +kernel
theorem dX1_tally_111 : decode cX1_tally 111 = .ok (.ifCond .eq 27, 3) := by decide +kernel
theorem dX1_tally_114 : decode cX1_tally 114 = .ok (.aload_n 0, 1) := by decide +kernel
theorem dX1_tally_115 : decode cX1_tally 115 = .ok (.getfield 9, 3) := by decide +kernel
theorem dX1_tally_118 : decode cX1_tally 118 = .ok (.iload 5, 2) := by decide +kernel
theorem dX1_tally_120 : decode cX1_tally 120 = .ok (.iconst 1, 1) := by decide +kernel
theorem dX1_tally_121 : decode cX1_tally 121 = .ok (.aload_n 0, 1) := by decide +kernel
theorem dX1_tally_122 : decode cX1_tally 122 = .ok (.getfield 9, 3) := by decide +kernel
theorem dX1_tally_125 : decode cX1_tally 125 = .ok (.iload 5, 2) := by decide +kernel
theorem dX1_tally_127 : decode cX1_tally 127 = .ok (.invokestatic 47, 3) := by decide +kernel
theorem dX1_tally_130 : decode cX1_tally 130 = .ok (.iconst 1, 1) := by decide +kernel
theorem dX1_tally_131 : decode cX1_tally 131 = .ok (.isub, 1) := by decide +kernel
theorem dX1_tally_132 : decode cX1_tally 132 = .ok (.invokestatic 62, 3) := by decide +kernel
theorem dX1_tally_135 : decode cX1_tally 135 = .ok (.invokestatic 71, 3) := by decide +kernel
theorem dX1_tally_138 : decode cX1_tally 138 = .ok (.iinc 5 1, 3) := by decide +kernel
theorem dX1_tally_141 : decode cX1_tally 141 = .ok (.goto (-58), 3) := by decide +kernel
theorem dX1_tally_144 : decode cX1_tally 144 = .ok (.return_, 1) := by decide +kernel
abbrev zX1_tally : List Cond := .code yX1_tally cX1_tally 6 none :: BIG
def fX1_tally_l83 (ex : ExT)  (K83 : (ShT × Int32 × Int32) → Option (ShT)) (v83 : ShT × Int32 × Int32) : Option (ShT) := (if 2 ≤ v83.2.2 then some v83.1 else (fX2_at 2 v83.1.2.1 v83.2.2).bind (fun r9 => (fX2_put 2 v83.1.2.1 v83.2.2 (r9 + 1)).bind (fun r10 => (if v83.2.1 = 0 then K83 ((v83.1.1, r10, v83.1.2.2.1, v83.1.2.2.2.1, v83.1.2.2.2.2.1, v83.1.2.2.2.2.2.1, v83.1.2.2.2.2.2.2.1, v83.1.2.2.2.2.2.2.2.1, v83.1.2.2.2.2.2.2.2.2.1, v83.1.2.2.2.2.2.2.2.2.2), v83.2.1, v83.2.2 + 1) else (fX2_at 2 v83.1.1 v83.2.2).bind (fun r12 => (fX2_put 2 v83.1.1 v83.2.2 (imax 1 (r12 - 1))).bind (fun r13 => K83 ((r13, r10, v83.1.2.2.1, v83.1.2.2.2.1, v83.1.2.2.2.2.1, v83.1.2.2.2.2.2.1, v83.1.2.2.2.2.2.2.1, v83.1.2.2.2.2.2.2.2.1, v83.1.2.2.2.2.2.2.2.2.1, v83.1.2.2.2.2.2.2.2.2.2), v83.2.1, v83.2.2 + 1)))))))
def fX1_tally (x : ShT) (ex : ExT) (v : Int32) : Option (ShT) := (fX2_at 6 x.2.2.2.2.2.2.1 v).bind (fun r1 => (fX2_put 6 x.2.2.2.2.2.2.1 v (r1 + 1)).bind (fun r2 => (fX0_spread ex).bind (fun r3 => (fX2_at 4 x.2.2.2.2.2.1 3).bind (fun r4 => (if r4 ≤ 0 then lp (fX1_tally_l83 ex) 2000 ((x.1, x.2.1, x.2.2.1, x.2.2.2.1, x.2.2.2.2.1, x.2.2.2.2.2.1, r2, (x.2.2.2.2.2.2.2.1 + 1), ex.2.2.2.1, (imax x.2.2.2.2.2.2.2.2.2 r3)), 0, 0) else gd (nz r4) ((if ((x.2.2.2.2.2.2.2.1 + 1) - (x.2.2.2.2.2.2.2.1 + 1) / r4 * r4) = 0 then lp (fX1_tally_l83 ex) 2000 ((x.1, x.2.1, x.2.2.1, x.2.2.2.1, x.2.2.2.2.1, x.2.2.2.2.2.1, r2, (x.2.2.2.2.2.2.2.1 + 1), ex.2.2.2.1, (imax x.2.2.2.2.2.2.2.2.2 r3)), 1, 0) else lp (fX1_tally_l83 ex) 2000 ((x.1, x.2.1, x.2.2.1, x.2.2.2.1, x.2.2.2.2.1, x.2.2.2.2.2.1, r2, (x.2.2.2.2.2.2.2.1 + 1), ex.2.2.2.1, (imax x.2.2.2.2.2.2.2.2.2 r3)), 0, 0))))))))
set_option maxHeartbeats 4000000 in
set_option maxRecDepth 100000 in
theorem mtX1_tally (l : Launch) (D : va_G) (t : Nat → ClassId) (xa : Nat) (xb : Nat → Nat) (x : ShT) (ea : Nat) (eb : Nat → Nat) (ex : ExT) (v : Int32) (out : ShT) (h : fX1_tally x ex v = some out)  (sz : Nat) : Met l yX1_tally zX1_tally ({ frames := 1, cells := 0, slots := 0, locals := 22 }) (sPc D t (gS t xa xb x ++ (gE t ea eb ex)) sz [.ref xa, .int v, .ref ea]) (qV D t (gS t xa xb out ++ (gE t ea eb ex)) (va_A (gS t xa xb x ++ (gE t ea eb ex)) sz)) 0 0 (va_A (gS t xa xb x ++ (gE t ea eb ex)) sz) := by
  refine met_of (Qf := fun A => qV D t (gS t xa xb out ++ (gE t ea eb ex)) A) (cc := cX1_tally) (maxL := 6) (ret := none) (by decide) rfl (Nat.le_of_ble_eq_true rfl) ?_
  intro p e s m args below meth c A hx hb hr hml hts hown hlocks hA hP hK hD hE hS ls hl
  have htB : ∀ w ∈ BIG, w.before args s = true := fun w h => hts w (List.mem_cons_of_mem _ h)
  have hown : s.vm.findClass RX1 = some m.cls := hown
  have hl : lv_has ls 6 [(0, .ref xa), (1, .int v), (2, .ref ea)] := hl
  unfold fX1_tally at h
  have J83 : ∀ (fu83 : Nat) (v83 : ShT × Int32 × Int32), lp (fX1_tally_l83 ex) fu83 v83 = some out → ∀ (H : Heap) (locs : List Loc), va_P D vwCl (gS t xa xb v83.1 ++ (gE t ea eb ex)) H → va_D A (gS t xa xb v83.1 ++ (gE t ea eb ex)) → va_S A s.heap H locs → ∀ ls : Array Slot, lv_has ls 6 [(0, .ref xa), (4, .int v83.2.1), (5, .int v83.2.2)] → W p l e ({ frames := 1, cells := 0, slots := 0, locals := 22 }) s m args below meth c H locs 0 0 (MQ below (qV D t (gS t xa xb out ++ (gE t ea eb ex)) A) args s 0 0 A) (F0 m 83 ls []) := by
    intro fu83
    induction fu83 with
    | zero => intro v83 h; cases h
    | succ fu83 ih83 =>
      intro v83 h H locs hP hD hS ls hl
      have h : fX1_tally_l83 ex (lp (fX1_tally_l83 ex) fu83) v83 = some out := h
      unfold fX1_tally_l83 at h
      refine lv_iload hx hb dX1_tally_83 (lv_at hl 2 rfl) ?_
      refine lv_iconst (v := 2) hx hb dX1_tally_85 (by decide) ?_
      refine lv_icmp_ge (tgt := 144) hx hb dX1_tally_86 (by decide) (fun c8 => ?_) (fun c8 => ?_)
      · have h := it_p c8 h
        obtain rfl := os h
        exact ret_v hx hb hr hlocks hP hK hD hS dX1_tally_144
      · have h := it_n c8 h
        refine lv_aload_n hx hb dX1_tally_89 rfl (lv_at hl 0 rfl) ?_
        refine va_get (D := D) (ci := 1) (v := .ref (xb 1)) (C := RX1) (T := TX1) (N := 10) hx hb htB inlX1 hown hK hP 0 rfl rfl 1 (by decide) (htB _ kw29) (fun _ h9 => h9) rfl dX1_tally_90 ?_
        refine lv_iload hx hb dX1_tally_93 (lv_at hl 2 rfl) ?_
        refine lv_aload_n hx hb dX1_tally_95 rfl (lv_at hl 0 rfl) ?_
        refine va_get (D := D) (ci := 1) (v := .ref (xb 1)) (C := RX1) (T := TX1) (N := 10) hx hb htB inlX1 hown hK hP 0 rfl rfl 1 (by decide) (htB _ kw29) (fun _ h9 => h9) rfl dX1_tally_96 ?_
        refine lv_iload hx hb dX1_tally_99 (lv_at hl 2 rfl) ?_
        obtain ⟨r9, h9, h⟩ := ob h
        refine call_i (v := r9) (wc := (gA t (xb 1) 2 v83.1.2.1)) (wc' := (gA t (xb 1) 2 v83.1.2.1)) (ws' := (gS t xa xb v83.1 ++ (gE t ea eb ex))) (cutI (wc := (gA t (xb 1) 2 v83.1.2.1)) (wc' := (gA t (xb 1) 2 v83.1.2.1)) (ws' := (gS t xa xb v83.1 ++ (gE t ea eb ex))) [2] hP hD hS hA rfl rfl rfl rfl) hS (fun hPc hDc => va_runSN (As := [.ref (xb 1), .int v83.2.2]) (rest := [.int v83.2.2, .ref (xb 1)]) ⟨hx, hb, hml, hown, hts⟩ (mtX2_at l D t (xb 1) 2 v83.1.2.1 v83.2.2 r9 h9 (by decide) _) ⟨va_cnB 2 hts (gB kw66) rfl rfl rfl hE.2.2.2.1 (htB _ kw2) (by decide +kernel) ⟨Nat.le_of_ble_eq_true rfl, Nat.le_of_ble_eq_true rfl⟩, (htB _ kw65), trivial⟩ (sPc_S hPc hK hDc hE) rfl rfl hl.1 rfl (lv_room (Nat.le_of_ble_eq_true rfl)) dX1_tally_101 ⟨Nat.zero_le _, Nat.zero_le _⟩) (fun H locs hP hD hS => ?_)
        refine lv_iconst (v := 1) hx hb dX1_tally_104 (by decide) ?_
        refine lv_iadd hx hb dX1_tally_105 ?_
        obtain ⟨r10, h10, h⟩ := ob h
        refine call_v (wc := (gA t (xb 1) 2 v83.1.2.1)) (wc' := (gA t (xb 1) 2 r10)) (ws' := (gS t xa xb (v83.1.1, r10, v83.1.2.2.1, v83.1.2.2.2.1, v83.1.2.2.2.2.1, v83.1.2.2.2.2.2.1, v83.1.2.2.2.2.2.2.1, v83.1.2.2.2.2.2.2.2.1, v83.1.2.2.2.2.2.2.2.2.1, v83.1.2.2.2.2.2.2.2.2.2) ++ (gE t ea eb ex))) (cutI (wc := (gA t (xb 1) 2 v83.1.2.1)) (wc' := (gA t (xb 1) 2 r10)) (ws' := (gS t xa xb (v83.1.1, r10, v83.1.2.2.1, v83.1.2.2.2.1, v83.1.2.2.2.2.1, v83.1.2.2.2.2.2.1, v83.1.2.2.2.2.2.2.1, v83.1.2.2.2.2.2.2.2.1, v83.1.2.2.2.2.2.2.2.2.1, v83.1.2.2.2.2.2.2.2.2.2) ++ (gE t ea eb ex))) [2] hP hD hS hA rfl rfl rfl rfl) hS (fun hPc hDc => va_runSN (As := [.ref (xb 1), .int v83.2.2, .int (r9 + 1)]) (rest := []) ⟨hx, hb, hml, hown, hts⟩ (mtX2_put l D t (xb 1) 2 v83.1.2.1 v83.2.2 (r9 + 1) r10 h10 (by decide) _) ⟨va_cnB 3 hts (gB kw151) rfl rfl rfl hE.2.2.2.2.2 (htB _ kw2) (by decide +kernel) ⟨Nat.le_of_ble_eq_true rfl, Nat.le_of_ble_eq_true rfl⟩, (htB _ kw150), trivial⟩ (sPc_S hPc hK hDc hE) rfl rfl hl.1 rfl (lv_room (Nat.le_of_ble_eq_true rfl)) dX1_tally_106 ⟨Nat.zero_le _, Nat.zero_le _⟩) (fun H locs hP hD hS => ?_)
        refine lv_iload hx hb dX1_tally_109 (lv_at hl 1 rfl) ?_
        refine lv_if_eq (tgt := 138) hx hb dX1_tally_111 (by decide) (fun c11 => ?_) (fun c11 => ?_)
        · have h := it_p c11 h
          refine lv_iinc (v := v83.2.2 + 1) (lv' := [(5, .int (v83.2.2 + 1)), (0, .ref xa), (4, .int v83.2.1)]) hx hb dX1_tally_138 hl (k := 2) rfl rfl (by decide) rfl (fun ls hl => ?_)
          refine lv_goto (tgt := 83) hx hb dX1_tally_141 (by decide) ?_
          exact ih83 ((v83.1.1, r10, v83.1.2.2.1, v83.1.2.2.2.1, v83.1.2.2.2.2.1, v83.1.2.2.2.2.2.1, v83.1.2.2.2.2.2.2.1, v83.1.2.2.2.2.2.2.2.1, v83.1.2.2.2.2.2.2.2.2.1, v83.1.2.2.2.2.2.2.2.2.2), v83.2.1, v83.2.2 + 1) h _ _ hP hD hS _ (lv_sub hl [1, 2, 0] rfl)
        · have h := it_n c11 h
          refine lv_aload_n hx hb dX1_tally_114 rfl (lv_at hl 0 rfl) ?_
          refine va_get (D := D) (ci := 1) (v := .ref (xb 0)) (C := RX1) (T := TX1) (N := 10) hx hb htB inlX1 hown hK hP 0 rfl rfl 0 (by decide) (htB _ kw28) (fun _ h9 => h9) rfl dX1_tally_115 ?_
          refine lv_iload hx hb dX1_tally_118 (lv_at hl 2 rfl) ?_
          refine lv_iconst (v := 1) hx hb dX1_tally_120 (by decide) ?_
          refine lv_aload_n hx hb dX1_tally_121 rfl (lv_at hl 0 rfl) ?_
          refine va_get (D := D) (ci := 1) (v := .ref (xb 0)) (C := RX1) (T := TX1) (N := 10) hx hb htB inlX1 hown hK hP 0 rfl rfl 0 (by decide) (htB _ kw28) (fun _ h9 => h9) rfl dX1_tally_122 ?_
          refine lv_iload hx hb dX1_tally_125 (lv_at hl 2 rfl) ?_
          obtain ⟨r12, h12, h⟩ := ob h
          refine call_i (v := r12) (wc := (gA t (xb 0) 2 v83.1.1)) (wc' := (gA t (xb 0) 2 v83.1.1)) (ws' := (gS t xa xb (v83.1.1, r10, v83.1.2.2.1, v83.1.2.2.2.1, v83.1.2.2.2.2.1, v83.1.2.2.2.2.2.1, v83.1.2.2.2.2.2.2.1, v83.1.2.2.2.2.2.2.2.1, v83.1.2.2.2.2.2.2.2.2.1, v83.1.2.2.2.2.2.2.2.2.2) ++ (gE t ea eb ex))) (cutI (wc := (gA t (xb 0) 2 v83.1.1)) (wc' := (gA t (xb 0) 2 v83.1.1)) (ws' := (gS t xa xb (v83.1.1, r10, v83.1.2.2.1, v83.1.2.2.2.1, v83.1.2.2.2.2.1, v83.1.2.2.2.2.2.1, v83.1.2.2.2.2.2.2.1, v83.1.2.2.2.2.2.2.2.1, v83.1.2.2.2.2.2.2.2.2.1, v83.1.2.2.2.2.2.2.2.2.2) ++ (gE t ea eb ex))) [1] hP hD hS hA rfl rfl rfl rfl) hS (fun hPc hDc => va_runSN (As := [.ref (xb 0), .int v83.2.2]) (rest := [.int 1, .int v83.2.2, .ref (xb 0)]) ⟨hx, hb, hml, hown, hts⟩ (mtX2_at l D t (xb 0) 2 v83.1.1 v83.2.2 r12 h12 (by decide) _) ⟨va_cnB 2 hts (gB kw66) rfl rfl rfl hE.2.2.2.1 (htB _ kw2) (by decide +kernel) ⟨Nat.le_of_ble_eq_true rfl, Nat.le_of_ble_eq_true rfl⟩, (htB _ kw65), trivial⟩ (sPc_S hPc hK hDc hE) rfl rfl hl.1 rfl (lv_room (Nat.le_of_ble_eq_true rfl)) dX1_tally_127 ⟨Nat.zero_le _, Nat.zero_le _⟩) (fun H locs hP hD hS => ?_)
          refine lv_iconst (v := 1) hx hb dX1_tally_130 (by decide) ?_
          refine lv_isub hx hb dX1_tally_131 ?_
          refine va_mmax hx hb (by rw [hml]; exact hl.1.symm) hown (htB _ kw121) (htB _ kw111) (htB _ kw63) (htB _ kw112) (Nat.le_of_ble_eq_true rfl) (Nat.le_of_ble_eq_true rfl) (Nat.zero_le _) (Nat.zero_le _) dX1_tally_132 ?_
          obtain ⟨r13, h13, h⟩ := ob h
          refine call_v (wc := (gA t (xb 0) 2 v83.1.1)) (wc' := (gA t (xb 0) 2 r13)) (ws' := (gS t xa xb (r13, r10, v83.1.2.2.1, v83.1.2.2.2.1, v83.1.2.2.2.2.1, v83.1.2.2.2.2.2.1, v83.1.2.2.2.2.2.2.1, v83.1.2.2.2.2.2.2.2.1, v83.1.2.2.2.2.2.2.2.2.1, v83.1.2.2.2.2.2.2.2.2.2) ++ (gE t ea eb ex))) (cutI (wc := (gA t (xb 0) 2 v83.1.1)) (wc' := (gA t (xb 0) 2 r13)) (ws' := (gS t xa xb (r13, r10, v83.1.2.2.1, v83.1.2.2.2.1, v83.1.2.2.2.2.1, v83.1.2.2.2.2.2.1, v83.1.2.2.2.2.2.2.1, v83.1.2.2.2.2.2.2.2.1, v83.1.2.2.2.2.2.2.2.2.1, v83.1.2.2.2.2.2.2.2.2.2) ++ (gE t ea eb ex))) [1] hP hD hS hA rfl rfl rfl rfl) hS (fun hPc hDc => va_runSN (As := [.ref (xb 0), .int v83.2.2, .int (imax 1 (r12 - 1))]) (rest := []) ⟨hx, hb, hml, hown, hts⟩ (mtX2_put l D t (xb 0) 2 v83.1.1 v83.2.2 (imax 1 (r12 - 1)) r13 h13 (by decide) _) ⟨va_cnB 3 hts (gB kw151) rfl rfl rfl hE.2.2.2.2.2 (htB _ kw2) (by decide +kernel) ⟨Nat.le_of_ble_eq_true rfl, Nat.le_of_ble_eq_true rfl⟩, (htB _ kw150), trivial⟩ (sPc_S hPc hK hDc hE) rfl rfl hl.1 rfl (lv_room (Nat.le_of_ble_eq_true rfl)) dX1_tally_135 ⟨Nat.zero_le _, Nat.zero_le _⟩) (fun H locs hP hD hS => ?_)
          refine lv_iinc (v := v83.2.2 + 1) (lv' := [(5, .int (v83.2.2 + 1)), (0, .ref xa), (4, .int v83.2.1)]) hx hb dX1_tally_138 hl (k := 2) rfl rfl (by decide) rfl (fun ls hl => ?_)
          refine lv_goto (tgt := 83) hx hb dX1_tally_141 (by decide) ?_
          exact ih83 ((r13, r10, v83.1.2.2.1, v83.1.2.2.2.1, v83.1.2.2.2.2.1, v83.1.2.2.2.2.2.1, v83.1.2.2.2.2.2.2.1, v83.1.2.2.2.2.2.2.2.1, v83.1.2.2.2.2.2.2.2.2.1, v83.1.2.2.2.2.2.2.2.2.2), v83.2.1, v83.2.2 + 1) h _ _ hP hD hS _ (lv_sub hl [1, 2, 0] rfl)
  refine lv_aload_n hx hb dX1_tally_0 rfl (lv_at hl 0 rfl) ?_
  refine lv_dup hx hb dX1_tally_1 rfl ?_
  refine va_get (D := D) (ci := 1) (v := .int x.2.2.2.2.2.2.2.1) (C := RX1) (T := TX1) (N := 10) hx hb htB inlX1 hown hK hP 0 rfl rfl 7 (by decide) (htB _ kw35) (fun _ h9 => h9) rfl dX1_tally_2 ?_
  refine lv_iconst (v := 1) hx hb dX1_tally_5 (by decide) ?_
  refine lv_iadd hx hb dX1_tally_6 ?_
  refine va_put (D := D) (ci := 1) (v := .int (x.2.2.2.2.2.2.2.1 + 1)) (ty := .int) (C := RX1) (T := TX1) (N := 10) hx hb htB inlX1 tyX1 tyX1_ok nmX1 hown hK hP hD hS 0 rfl rfl 7 (by decide) (htB _ kw35) (fun _ h9 => h9) rfl (by decide +kernel) rfl rfl (Nat.le_of_ble_eq_true rfl) dX1_tally_7 (fun H locs hP hD hS => ?_)
  have hP : va_P D vwCl (gS t xa xb (x.1, x.2.1, x.2.2.1, x.2.2.2.1, x.2.2.2.2.1, x.2.2.2.2.2.1, x.2.2.2.2.2.2.1, (x.2.2.2.2.2.2.2.1 + 1), x.2.2.2.2.2.2.2.2.1, x.2.2.2.2.2.2.2.2.2) ++ (gE t ea eb ex)) H := hP
  have hD : va_D A (gS t xa xb (x.1, x.2.1, x.2.2.1, x.2.2.2.1, x.2.2.2.2.1, x.2.2.2.2.2.1, x.2.2.2.2.2.2.1, (x.2.2.2.2.2.2.2.1 + 1), x.2.2.2.2.2.2.2.2.1, x.2.2.2.2.2.2.2.2.2) ++ (gE t ea eb ex)) := hD
  refine lv_aload_n hx hb dX1_tally_10 rfl (lv_at hl 0 rfl) ?_
  refine va_get (D := D) (ci := 1) (v := .ref (xb 6)) (C := RX1) (T := TX1) (N := 10) hx hb htB inlX1 hown hK hP 0 rfl rfl 6 (by decide) (htB _ kw34) (fun _ h9 => h9) rfl dX1_tally_11 ?_
  refine lv_iload_n hx hb dX1_tally_14 rfl (lv_at hl 1 rfl) ?_
  refine lv_aload_n hx hb dX1_tally_15 rfl (lv_at hl 0 rfl) ?_
  refine va_get (D := D) (ci := 1) (v := .ref (xb 6)) (C := RX1) (T := TX1) (N := 10) hx hb htB inlX1 hown hK hP 0 rfl rfl 6 (by decide) (htB _ kw34) (fun _ h9 => h9) rfl dX1_tally_16 ?_
  refine lv_iload_n hx hb dX1_tally_19 rfl (lv_at hl 1 rfl) ?_
  obtain ⟨r1, h1, h⟩ := ob h
  refine call_i (v := r1) (wc := (gA t (xb 6) 6 x.2.2.2.2.2.2.1)) (wc' := (gA t (xb 6) 6 x.2.2.2.2.2.2.1)) (ws' := (gS t xa xb (x.1, x.2.1, x.2.2.1, x.2.2.2.1, x.2.2.2.2.1, x.2.2.2.2.2.1, x.2.2.2.2.2.2.1, (x.2.2.2.2.2.2.2.1 + 1), x.2.2.2.2.2.2.2.2.1, x.2.2.2.2.2.2.2.2.2) ++ (gE t ea eb ex))) (cutI (wc := (gA t (xb 6) 6 x.2.2.2.2.2.2.1)) (wc' := (gA t (xb 6) 6 x.2.2.2.2.2.2.1)) (ws' := (gS t xa xb (x.1, x.2.1, x.2.2.1, x.2.2.2.1, x.2.2.2.2.1, x.2.2.2.2.2.1, x.2.2.2.2.2.2.1, (x.2.2.2.2.2.2.2.1 + 1), x.2.2.2.2.2.2.2.2.1, x.2.2.2.2.2.2.2.2.2) ++ (gE t ea eb ex))) [7] hP hD hS hA rfl rfl rfl rfl) hS (fun hPc hDc => va_runSN (As := [.ref (xb 6), .int v]) (rest := [.int v, .ref (xb 6)]) ⟨hx, hb, hml, hown, hts⟩ (mtX2_at l D t (xb 6) 6 x.2.2.2.2.2.2.1 v r1 h1 (by decide) _) ⟨va_cnB 2 hts (gB kw66) rfl rfl rfl hE.2.2.2.1 (htB _ kw2) (by decide +kernel) ⟨Nat.le_of_ble_eq_true rfl, Nat.le_of_ble_eq_true rfl⟩, (htB _ kw65), trivial⟩ (sPc_S hPc hK hDc hE) rfl rfl hl.1 rfl (lv_room (Nat.le_of_ble_eq_true rfl)) dX1_tally_20 ⟨Nat.zero_le _, Nat.zero_le _⟩) (fun H locs hP hD hS => ?_)
  refine lv_iconst (v := 1) hx hb dX1_tally_23 (by decide) ?_
  refine lv_iadd hx hb dX1_tally_24 ?_
  obtain ⟨r2, h2, h⟩ := ob h
  refine call_v (wc := (gA t (xb 6) 6 x.2.2.2.2.2.2.1)) (wc' := (gA t (xb 6) 6 r2)) (ws' := (gS t xa xb (x.1, x.2.1, x.2.2.1, x.2.2.2.1, x.2.2.2.2.1, x.2.2.2.2.2.1, r2, (x.2.2.2.2.2.2.2.1 + 1), x.2.2.2.2.2.2.2.2.1, x.2.2.2.2.2.2.2.2.2) ++ (gE t ea eb ex))) (cutI (wc := (gA t (xb 6) 6 x.2.2.2.2.2.2.1)) (wc' := (gA t (xb 6) 6 r2)) (ws' := (gS t xa xb (x.1, x.2.1, x.2.2.1, x.2.2.2.1, x.2.2.2.2.1, x.2.2.2.2.2.1, r2, (x.2.2.2.2.2.2.2.1 + 1), x.2.2.2.2.2.2.2.2.1, x.2.2.2.2.2.2.2.2.2) ++ (gE t ea eb ex))) [7] hP hD hS hA rfl rfl rfl rfl) hS (fun hPc hDc => va_runSN (As := [.ref (xb 6), .int v, .int (r1 + 1)]) (rest := []) ⟨hx, hb, hml, hown, hts⟩ (mtX2_put l D t (xb 6) 6 x.2.2.2.2.2.2.1 v (r1 + 1) r2 h2 (by decide) _) ⟨va_cnB 3 hts (gB kw151) rfl rfl rfl hE.2.2.2.2.2 (htB _ kw2) (by decide +kernel) ⟨Nat.le_of_ble_eq_true rfl, Nat.le_of_ble_eq_true rfl⟩, (htB _ kw150), trivial⟩ (sPc_S hPc hK hDc hE) rfl rfl hl.1 rfl (lv_room (Nat.le_of_ble_eq_true rfl)) dX1_tally_25 ⟨Nat.zero_le _, Nat.zero_le _⟩) (fun H locs hP hD hS => ?_)
  refine lv_aload_n hx hb dX1_tally_28 rfl (lv_at hl 0 rfl) ?_
  refine lv_aload_n hx hb dX1_tally_29 rfl (lv_at hl 2 rfl) ?_
  refine va_get (D := D) (ci := 0) (v := .int ex.2.2.2.1) (C := RX0) (T := TX0) (N := 10) hx hb htB inlX0 hown hK hP 8 rfl rfl 3 (by decide) (htB _ kw149) (fun _ h9 => h9) rfl dX1_tally_30 ?_
  refine va_put (D := D) (ci := 1) (v := .int ex.2.2.2.1) (ty := .int) (C := RX1) (T := TX1) (N := 10) hx hb htB inlX1 tyX1 tyX1_ok nmX1 hown hK hP hD hS 0 rfl rfl 8 (by decide) (htB _ kw36) (fun _ h9 => h9) rfl (by decide +kernel) rfl rfl (Nat.le_of_ble_eq_true rfl) dX1_tally_33 (fun H locs hP hD hS => ?_)
  have hP : va_P D vwCl (gS t xa xb (x.1, x.2.1, x.2.2.1, x.2.2.2.1, x.2.2.2.2.1, x.2.2.2.2.2.1, r2, (x.2.2.2.2.2.2.2.1 + 1), ex.2.2.2.1, x.2.2.2.2.2.2.2.2.2) ++ (gE t ea eb ex)) H := hP
  have hD : va_D A (gS t xa xb (x.1, x.2.1, x.2.2.1, x.2.2.2.1, x.2.2.2.2.1, x.2.2.2.2.2.1, r2, (x.2.2.2.2.2.2.2.1 + 1), ex.2.2.2.1, x.2.2.2.2.2.2.2.2.2) ++ (gE t ea eb ex)) := hD
  refine lv_aload_n hx hb dX1_tally_36 rfl (lv_at hl 0 rfl) ?_
  refine lv_aload_n hx hb dX1_tally_37 rfl (lv_at hl 0 rfl) ?_
  refine va_get (D := D) (ci := 1) (v := .int x.2.2.2.2.2.2.2.2.2) (C := RX1) (T := TX1) (N := 10) hx hb htB inlX1 hown hK hP 0 rfl rfl 9 (by decide) (htB _ kw37) (fun _ h9 => h9) rfl dX1_tally_38 ?_
  refine lv_aload_n hx hb dX1_tally_41 rfl (lv_at hl 2 rfl) ?_
  obtain ⟨r3, h3, h⟩ := ob h
  refine call_i (v := r3) (wc := (gE t ea eb ex)) (wc' := (gE t ea eb ex)) (ws' := (gS t xa xb (x.1, x.2.1, x.2.2.1, x.2.2.2.1, x.2.2.2.2.1, x.2.2.2.2.2.1, r2, (x.2.2.2.2.2.2.2.1 + 1), ex.2.2.2.1, x.2.2.2.2.2.2.2.2.2) ++ (gE t ea eb ex))) (cutB (bs := [gS t xa xb (x.1, x.2.1, x.2.2.1, x.2.2.2.1, x.2.2.2.2.1, x.2.2.2.2.2.1, r2, (x.2.2.2.2.2.2.2.1 + 1), ex.2.2.2.1, x.2.2.2.2.2.2.2.2.2), gE t ea eb ex]) (cs := [gE t ea eb ex]) (cs' := [gE t ea eb ex]) (bs' := [gS t xa xb (x.1, x.2.1, x.2.2.1, x.2.2.2.1, x.2.2.2.2.1, x.2.2.2.2.2.1, r2, (x.2.2.2.2.2.2.2.1 + 1), ex.2.2.2.1, x.2.2.2.2.2.2.2.2.2), gE t ea eb ex]) [1] hP hD hS hA rfl rfl rfl rfl) hS (fun hPc hDc => va_runV (As := []) (rest := [.int x.2.2.2.2.2.2.2.2.2, .ref xa]) ⟨hx, hb, hml, hown, hts⟩ (mtX0_spread l D t ea eb ex r3 h3 _) (cwV 0 hts (gBV kw152 kw153 kw154 kw16 kw155) rfl rfl rfl (by decide +kernel) ⟨Nat.le_of_ble_eq_true rfl, Nat.le_of_ble_eq_true rfl⟩) (sPc_V hPc hK hDc hE (va_recv hK hP (ci := 0) (q0 := 8) rfl rfl)) rfl rfl hl.1 rfl (lv_room (Nat.le_of_ble_eq_true rfl)) dX1_tally_42 ⟨Nat.zero_le _, Nat.zero_le _⟩) (fun H locs hP hD hS => ?_)
  refine va_mmax hx hb (by rw [hml]; exact hl.1.symm) hown (htB _ kw121) (htB _ kw111) (htB _ kw63) (htB _ kw112) (Nat.le_of_ble_eq_true rfl) (Nat.le_of_ble_eq_true rfl) (Nat.zero_le _) (Nat.zero_le _) dX1_tally_45 ?_
  refine va_put (D := D) (ci := 1) (v := .int (imax x.2.2.2.2.2.2.2.2.2 r3)) (ty := .int) (C := RX1) (T := TX1) (N := 10) hx hb htB inlX1 tyX1 tyX1_ok nmX1 hown hK hP hD hS 0 rfl rfl 9 (by decide) (htB _ kw37) (fun _ h9 => h9) rfl (by decide +kernel) rfl rfl (Nat.le_of_ble_eq_true rfl) dX1_tally_48 (fun H locs hP hD hS => ?_)
  have hP : va_P D vwCl (gS t xa xb (x.1, x.2.1, x.2.2.1, x.2.2.2.1, x.2.2.2.2.1, x.2.2.2.2.2.1, r2, (x.2.2.2.2.2.2.2.1 + 1), ex.2.2.2.1, (imax x.2.2.2.2.2.2.2.2.2 r3)) ++ (gE t ea eb ex)) H := hP
  have hD : va_D A (gS t xa xb (x.1, x.2.1, x.2.2.1, x.2.2.2.1, x.2.2.2.2.1, x.2.2.2.2.2.1, r2, (x.2.2.2.2.2.2.2.1 + 1), ex.2.2.2.1, (imax x.2.2.2.2.2.2.2.2.2 r3)) ++ (gE t ea eb ex)) := hD
  refine lv_aload_n hx hb dX1_tally_51 rfl (lv_at hl 0 rfl) ?_
  refine va_get (D := D) (ci := 1) (v := .ref (xb 5)) (C := RX1) (T := TX1) (N := 10) hx hb htB inlX1 hown hK hP 0 rfl rfl 5 (by decide) (htB _ kw33) (fun _ h9 => h9) rfl dX1_tally_52 ?_
  refine lv_iconst (v := 3) hx hb dX1_tally_55 (by decide) ?_
  obtain ⟨r4, h4, h⟩ := ob h
  refine call_i (v := r4) (wc := (gA t (xb 5) 4 x.2.2.2.2.2.1)) (wc' := (gA t (xb 5) 4 x.2.2.2.2.2.1)) (ws' := (gS t xa xb (x.1, x.2.1, x.2.2.1, x.2.2.2.1, x.2.2.2.2.1, x.2.2.2.2.2.1, r2, (x.2.2.2.2.2.2.2.1 + 1), ex.2.2.2.1, (imax x.2.2.2.2.2.2.2.2.2 r3)) ++ (gE t ea eb ex))) (cutI (wc := (gA t (xb 5) 4 x.2.2.2.2.2.1)) (wc' := (gA t (xb 5) 4 x.2.2.2.2.2.1)) (ws' := (gS t xa xb (x.1, x.2.1, x.2.2.1, x.2.2.2.1, x.2.2.2.2.1, x.2.2.2.2.2.1, r2, (x.2.2.2.2.2.2.2.1 + 1), ex.2.2.2.1, (imax x.2.2.2.2.2.2.2.2.2 r3)) ++ (gE t ea eb ex))) [6] hP hD hS hA rfl rfl rfl rfl) hS (fun hPc hDc => va_runSN (As := [.ref (xb 5), .int 3]) (rest := []) ⟨hx, hb, hml, hown, hts⟩ (mtX2_at l D t (xb 5) 4 x.2.2.2.2.2.1 3 r4 h4 (by decide) _) ⟨va_cnB 2 hts (gB kw66) rfl rfl rfl hE.2.2.2.1 (htB _ kw2) (by decide +kernel) ⟨Nat.le_of_ble_eq_true rfl, Nat.le_of_ble_eq_true rfl⟩, (htB _ kw65), trivial⟩ (sPc_S hPc hK hDc hE) rfl rfl hl.1 rfl (lv_room (Nat.le_of_ble_eq_true rfl)) dX1_tally_56 ⟨Nat.zero_le _, Nat.zero_le _⟩) (fun H locs hP hD hS => ?_)
  refine lv_istore_n (lv' := [(3, .int r4), (0, .ref xa), (1, .int v), (2, .ref ea)]) hx hb dX1_tally_59 rfl hl (by decide) rfl (fun ls hl => ?_)
  refine lv_iload_n hx hb dX1_tally_60 rfl (lv_at hl 0 rfl) ?_
  refine lv_if_le (tgt := 77) hx hb dX1_tally_61 (by decide) (fun c5 => ?_) (fun c5 => ?_)
  · have h := it_p c5 h
    refine lv_iconst (v := 0) hx hb dX1_tally_77 (by decide) ?_
    refine lv_istore (lv' := [(4, .int 0), (3, .int r4), (0, .ref xa), (1, .int v), (2, .ref ea)]) hx hb dX1_tally_78 hl (by decide) rfl (fun ls hl => ?_)
    refine lv_iconst (v := 0) hx hb dX1_tally_80 (by decide) ?_
    refine lv_istore (lv' := [(5, .int 0), (4, .int 0), (3, .int r4), (0, .ref xa), (1, .int v), (2, .ref ea)]) hx hb dX1_tally_81 hl (by decide) rfl (fun ls hl => ?_)
    exact J83 2000 ((x.1, x.2.1, x.2.2.1, x.2.2.2.1, x.2.2.2.2.1, x.2.2.2.2.2.1, r2, (x.2.2.2.2.2.2.2.1 + 1), ex.2.2.2.1, (imax x.2.2.2.2.2.2.2.2.2 r3)), 0, 0) h _ _ hP hD hS _ (lv_sub hl [3, 1, 0] rfl)
  · have h := it_n c5 h
    refine lv_aload_n hx hb dX1_tally_64 rfl (lv_at hl 1 rfl) ?_
    refine va_get (D := D) (ci := 1) (v := .int (x.2.2.2.2.2.2.2.1 + 1)) (C := RX1) (T := TX1) (N := 10) hx hb htB inlX1 hown hK hP 0 rfl rfl 7 (by decide) (htB _ kw35) (fun _ h9 => h9) rfl dX1_tally_65 ?_
    refine lv_iload_n hx hb dX1_tally_68 rfl (lv_at hl 0 rfl) ?_
    obtain ⟨g6, h⟩ := og h
    refine lv_irem hx hb dX1_tally_69 (nz_ne g6) ?_
    refine lv_if_ne (tgt := 77) hx hb dX1_tally_70 (by decide) (fun c7 => ?_) (fun c7 => ?_)
    · have h := it_n c7 h
      refine lv_iconst (v := 0) hx hb dX1_tally_77 (by decide) ?_
      refine lv_istore (lv' := [(4, .int 0), (3, .int r4), (0, .ref xa), (1, .int v), (2, .ref ea)]) hx hb dX1_tally_78 hl (by decide) rfl (fun ls hl => ?_)
      refine lv_iconst (v := 0) hx hb dX1_tally_80 (by decide) ?_
      refine lv_istore (lv' := [(5, .int 0), (4, .int 0), (3, .int r4), (0, .ref xa), (1, .int v), (2, .ref ea)]) hx hb dX1_tally_81 hl (by decide) rfl (fun ls hl => ?_)
      exact J83 2000 ((x.1, x.2.1, x.2.2.1, x.2.2.2.1, x.2.2.2.2.1, x.2.2.2.2.2.1, r2, (x.2.2.2.2.2.2.2.1 + 1), ex.2.2.2.1, (imax x.2.2.2.2.2.2.2.2.2 r3)), 0, 0) h _ _ hP hD hS _ (lv_sub hl [3, 1, 0] rfl)
    · have h := it_p c7 h
      refine lv_iconst (v := 1) hx hb dX1_tally_73 (by decide) ?_
      refine lv_goto (tgt := 78) hx hb dX1_tally_74 (by decide) ?_
      refine lv_istore (lv' := [(4, .int 1), (3, .int r4), (0, .ref xa), (1, .int v), (2, .ref ea)]) hx hb dX1_tally_78 hl (by decide) rfl (fun ls hl => ?_)
      refine lv_iconst (v := 0) hx hb dX1_tally_80 (by decide) ?_
      refine lv_istore (lv' := [(5, .int 0), (4, .int 1), (3, .int r4), (0, .ref xa), (1, .int v), (2, .ref ea)]) hx hb dX1_tally_81 hl (by decide) rfl (fun ls hl => ?_)
      exact J83 2000 ((x.1, x.2.1, x.2.2.1, x.2.2.2.1, x.2.2.2.2.1, x.2.2.2.2.2.1, r2, (x.2.2.2.2.2.2.2.1 + 1), ex.2.2.2.1, (imax x.2.2.2.2.2.2.2.2.2 r3)), 1, 0) h _ _ hP hD hS _ (lv_sub hl [3, 1, 0] rfl)
end
section
theorem dX0_runCurtains_0 : decode cX0_runCurtains 0 = .ok (.aload_n 1, 1) := by decide +kernel
theorem dX0_runCurtains_1 : decode cX0_runCurtains 1 = .ok (.iconst 0, 1) := by decide +kernel
theorem dX0_runCurtains_2 : decode cX0_runCurtains 2 = .ok (.invokevirtual 44, 3) := by decide +kernel
theorem dX0_runCurtains_5 : decode cX0_runCurtains 5 = .ok (.istore_n 3, 1) := by decide +kernel
theorem dX0_runCurtains_6 : decode cX0_runCurtains 6 = .ok (.aload_n 1, 1) := by decide +kernel
theorem dX0_runCurtains_7 : decode cX0_runCurtains 7 = .ok (.iconst 1, 1) := by decide +kernel
theorem dX0_runCurtains_8 : decode cX0_runCurtains 8 = .ok (.invokevirtual 44, 3) := by decide +kernel
theorem dX0_runCurtains_11 : decode cX0_runCurtains 11 = .ok (.istore 4, 2) := by decide +kernel
theorem dX0_runCurtains_13 : decode cX0_runCurtains 13 = .ok (.iconst 0, 1) := by decide +kernel
theorem dX0_runCurtains_14 : decode cX0_runCurtains 14 = .ok (.istore 5, 2) := by decide +kernel
theorem dX0_runCurtains_16 : decode cX0_runCurtains 16 = .ok (.aload_n 1, 1) := by decide +kernel
theorem dX0_runCurtains_17 : decode cX0_runCurtains 17 = .ok (.iload_n 2, 1) := by decide +kernel
theorem dX0_runCurtains_18 : decode cX0_runCurtains 18 = .ok (.invokevirtual 49, 3) := by decide +kernel
theorem dX0_runCurtains_21 : decode cX0_runCurtains 21 = .ok (.istore 6, 2) := by decide +kernel
theorem dX0_runCurtains_23 : decode cX0_runCurtains 23 = .ok (.iconst 0, 1) := by decide +kernel
theorem dX0_runCurtains_24 : decode cX0_runCurtains 24 = .ok (.istore 7, 2) := by decide +kernel
theorem dX0_runCurtains_26 : decode cX0_runCurtains 26 = .ok (.iload 7, 2) := by decide +kernel
theorem dX0_runCurtains_28 : decode cX0_runCurtains 28 = .ok (.aload_n 0, 1) := by decide +kernel
theorem dX0_runCurtains_29 : decode cX0_runCurtains 29 = .ok (.getfield 9, 3) := by decide +kernel
theorem dX0_runCurtains_32 : decode cX0_runCurtains 32 = .ok (.arraylength, 1) := by decide +kernel
theorem dX0_runCurtains_33 : decode cX0_runCurtains 33 = .ok (.if_icmp .ge 75, 3) := by decide +kernel
theorem dX0_runCurtains_36 : decode cX0_runCurtains 36 = .ok (.iload 7, 2) := by decide +kernel
theorem dX0_runCurtains_38 : decode cX0_runCurtains 38 = .ok (.aload_n 0, 1) := by decide +kernel
theorem dX0_runCurtains_39 : decode cX0_runCurtains 39 = .ok (.getfield 15, 3) := by decide +kernel
theorem dX0_runCurtains_42 : decode cX0_runCurtains 42 = .ok (.arraylength, 1) := by decide +kernel
theorem dX0_runCurtains_43 : decode cX0_runCurtains 43 = .ok (.if_icmp .ge 65, 3) := by decide +kernel
theorem dX0_runCurtains_46 : decode cX0_runCurtains 46 = .ok (.iload 5, 2) := by decide +kernel
theorem dX0_runCurtains_48 : decode cX0_runCurtains 48 = .ok (.iload_n 3, 1) := by decide +kernel
theorem dX0_runCurtains_49 : decode cX0_runCurtains 49 = .ok (.aload_n 1, 1) := by decide +kernel
theorem dX0_runCurtains_50 : decode cX0_runCurtains 50 = .ok (.getfield 52, 3) := by decide +kernel
theorem dX0_runCurtains_53 : decode cX0_runCurtains 53 = .ok (.iload 7, 2) := by decide +kernel
theorem dX0_runCurtains_55 : decode cX0_runCurtains 55 = .ok (.invokestatic 55, 3) := by decide +kernel
theorem dX0_runCurtains_58 : decode cX0_runCurtains 58 = .ok (.iadd, 1) := by decide +kernel
theorem dX0_runCurtains_59 : decode cX0_runCurtains 59 = .ok (.iadd, 1) := by decide +kernel
theorem dX0_runCurtains_60 : decode cX0_runCurtains 60 = .ok (.istore 5, 2) := by decide +kernel
theorem dX0_runCurtains_62 : decode cX0_runCurtains 62 = .ok (.iload 5, 2) := by decide +kernel
theorem dX0_runCurtains_64 : decode cX0_runCurtains 64 = .ok (.iload 6, 2) := by decide +kernel
theorem dX0_runCurtains_66 : decode cX0_runCurtains 66 = .ok (.iload 4, 2) := by decide +kernel
theorem dX0_runCurtains_68 : decode cX0_runCurtains 68 = .ok (.iadd, 1) := by decide +kernel
theorem dX0_runCurtains_69 : decode cX0_runCurtains 69 = .ok (.aload_n 1, 1) := by decide +kernel
theorem dX0_runCurtains_70 : decode cX0_runCurtains 70 = .ok (.getfield 59, 3) := by decide +kernel
theorem dX0_runCurtains_73 : decode cX0_runCurtains 73 = .ok (.iload 7, 2) := by decide +kernel
theorem dX0_runCurtains_75 : decode cX0_runCurtains 75 = .ok (.invokestatic 55, 3) := by decide +kernel
theorem dX0_runCurtains_78 : decode cX0_runCurtains 78 = .ok (.iadd, 1) := by decide +kernel
theorem dX0_runCurtains_79 : decode cX0_runCurtains 79 = .ok (.invokestatic 62, 3) := by decide +kernel
theorem dX0_runCurtains_82 : decode cX0_runCurtains 82 = .ok (.istore 6, 2) := by decide +kernel
theorem dX0_runCurtains_84 : decode cX0_runCurtains 84 = .ok (.aload_n 0, 1) := by decide +kernel
theorem dX0_runCurtains_85 : decode cX0_runCurtains 85 = .ok (.getfield 9, 3) := by decide +kernel
theorem dX0_runCurtains_88 : decode cX0_runCurtains 88 = .ok (.iload 7, 2) := by decide +kernel
theorem dX0_runCurtains_90 : decode cX0_runCurtains 90 = .ok (.iload 5, 2) := by decide +kernel
theorem dX0_runCurtains_92 : decode cX0_runCurtains 92 = .ok (.iastore, 1) := by decide +kernel
theorem dX0_runCurtains_93 : decode cX0_runCurtains 93 = .ok (.aload_n 0, 1) := by decide +kernel
theorem dX0_runCurtains_94 : decode cX0_runCurtains 94 = .ok (.getfield 15, 3) := by decide +kernel
theorem dX0_runCurtains_97 : decode cX0_runCurtains 97 = .ok (.iload 7, 2) := by decide +kernel
theorem dX0_runCurtains_99 : decode cX0_runCurtains 99 = .ok (.iload 6, 2) := by decide +kernel
theorem dX0_runCurtains_101 : decode cX0_runCurtains 101 = .ok (.iastore, 1) := by decide +kernel
theorem dX0_runCurtains_102 : decode cX0_runCurtains 102 = .ok (.iinc 7 1, 3) := by decide +kernel
theorem dX0_runCurtains_105 : decode cX0_runCurtains 105 = .ok (.goto (-79), 3) := by decide +kernel
theorem dX0_runCurtains_108 : decode cX0_runCurtains 108 = .ok (.return_, 1) := by decide +kernel
abbrev zX0_runCurtains : List Cond := .code yX0_runCurtains cX0_runCurtains 8 none :: BIG
def fX0_runCurtains_l26 (x : ShT)  (K26 : (ExT × Int32 × Int32 × Int32 × Int32 × Int32) → Option (ExT)) (v26 : ExT × Int32 × Int32 × Int32 × Int32 × Int32) : Option (ExT) := (if 24 ≤ v26.2.2.2.2.2 then some v26.1 else (if 24 ≤ v26.2.2.2.2.2 then some v26.1 else (fX2_at 24 x.2.2.1 v26.2.2.2.2.2).bind (fun r6 => (fX2_at 24 x.2.2.2.1 v26.2.2.2.2.2).bind (fun r7 => gd (pin v26.2.2.2.2.2 24) (K26 (((upd v26.1.1 (Int32.toNatClampNeg v26.2.2.2.2.2) (v26.2.2.2.1 + (v26.2.1 + r6))), (upd v26.1.2.1 (Int32.toNatClampNeg v26.2.2.2.2.2) (imax (v26.2.2.2.1 + (v26.2.1 + r6)) ((v26.2.2.2.2.1 + v26.2.2.1) + r7))), v26.1.2.2.1, v26.1.2.2.2.1, v26.1.2.2.2.2.1, v26.1.2.2.2.2.2.1, v26.1.2.2.2.2.2.2.1, v26.1.2.2.2.2.2.2.2.1, v26.1.2.2.2.2.2.2.2.2.1, v26.1.2.2.2.2.2.2.2.2.2), v26.2.1, v26.2.2.1, v26.2.2.2.1 + (v26.2.1 + r6), imax (v26.2.2.2.1 + (v26.2.1 + r6)) ((v26.2.2.2.2.1 + v26.2.2.1) + r7), v26.2.2.2.2.2 + 1))))))
def fX0_runCurtains (ex : ExT) (x : ShT) (v : Int32) : Option (ExT) := (fX1_ticksWithoutDrag x 0).bind (fun r1 => (fX1_ticksWithoutDrag x 1).bind (fun r2 => (fX1_startOfSecond x v).bind (fun r3 => lp (fX0_runCurtains_l26 x) 2000 (ex, r1, r2, 0, r3, 0))))
set_option maxHeartbeats 4000000 in
set_option maxRecDepth 100000 in
theorem mtX0_runCurtains (l : Launch) (D : va_G) (t : Nat → ClassId) (ea : Nat) (eb : Nat → Nat) (ex : ExT) (xa : Nat) (xb : Nat → Nat) (x : ShT) (v : Int32) (out : ExT) (h : fX0_runCurtains ex x v = some out)  (sz : Nat) : Met l yX0_runCurtains zX0_runCurtains ({ frames := 2, cells := 0, slots := 0, locals := 44 }) (sPc D t (gE t ea eb ex ++ (gS t xa xb x)) sz [.ref ea, .ref xa, .int v]) (qV D t (gE t ea eb out ++ (gS t xa xb x)) (va_A (gE t ea eb ex ++ (gS t xa xb x)) sz)) 0 0 (va_A (gE t ea eb ex ++ (gS t xa xb x)) sz) := by
  refine met_of (Qf := fun A => qV D t (gE t ea eb out ++ (gS t xa xb x)) A) (cc := cX0_runCurtains) (maxL := 8) (ret := none) (by decide) rfl (Nat.le_of_ble_eq_true rfl) ?_
  intro p e s m args below meth c A hx hb hr hml hts hown hlocks hA hP hK hD hE hS ls hl
  have htB : ∀ w ∈ BIG, w.before args s = true := fun w h => hts w (List.mem_cons_of_mem _ h)
  have hown : s.vm.findClass RX0 = some m.cls := hown
  have hl : lv_has ls 8 [(0, .ref ea), (1, .ref xa), (2, .int v)] := hl
  unfold fX0_runCurtains at h
  have J26 : ∀ (fu26 : Nat) (v26 : ExT × Int32 × Int32 × Int32 × Int32 × Int32), lp (fX0_runCurtains_l26 x) fu26 v26 = some out → ∀ (H : Heap) (locs : List Loc), va_P D vwCl (gE t ea eb v26.1 ++ (gS t xa xb x)) H → va_D A (gE t ea eb v26.1 ++ (gS t xa xb x)) → va_S A s.heap H locs → ∀ ls : Array Slot, lv_has ls 8 [(0, .ref ea), (1, .ref xa), (3, .int v26.2.1), (4, .int v26.2.2.1), (5, .int v26.2.2.2.1), (6, .int v26.2.2.2.2.1), (7, .int v26.2.2.2.2.2)] → W p l e ({ frames := 2, cells := 0, slots := 0, locals := 44 }) s m args below meth c H locs 0 0 (MQ below (qV D t (gE t ea eb out ++ (gS t xa xb x)) A) args s 0 0 A) (F0 m 26 ls []) := by
    intro fu26
    induction fu26 with
    | zero => intro v26 h; cases h
    | succ fu26 ih26 =>
      intro v26 h H locs hP hD hS ls hl
      have h : fX0_runCurtains_l26 x (lp (fX0_runCurtains_l26 x) fu26) v26 = some out := h
      unfold fX0_runCurtains_l26 at h
      refine lv_iload hx hb dX0_runCurtains_26 (lv_at hl 6 rfl) ?_
      refine lv_aload_n hx hb dX0_runCurtains_28 rfl (lv_at hl 0 rfl) ?_
      refine va_get (D := D) (ci := 0) (v := .ref (eb 0)) (C := RX0) (T := TX0) (N := 10) hx hb htB inlX0 hown hK hP 0 rfl rfl 0 (by decide) (htB _ kw42) (fun _ h9 => h9) rfl dX0_runCurtains_29 ?_
      refine va_alen (v := 24) hx hb hK hP 1 0 rfl rfl rfl dX0_runCurtains_32 ?_
      refine lv_icmp_ge (tgt := 108) hx hb dX0_runCurtains_33 (by decide) (fun c4 => ?_) (fun c4 => ?_)
      · have h := it_p c4 h
        obtain rfl := os h
        exact ret_v hx hb hr hlocks hP hK hD hS dX0_runCurtains_108
      · have h := it_n c4 h
        refine lv_iload hx hb dX0_runCurtains_36 (lv_at hl 6 rfl) ?_
        refine lv_aload_n hx hb dX0_runCurtains_38 rfl (lv_at hl 0 rfl) ?_
        refine va_get (D := D) (ci := 0) (v := .ref (eb 1)) (C := RX0) (T := TX0) (N := 10) hx hb htB inlX0 hown hK hP 0 rfl rfl 1 (by decide) (htB _ kw43) (fun _ h9 => h9) rfl dX0_runCurtains_39 ?_
        refine va_alen (v := 24) hx hb hK hP 2 0 rfl rfl rfl dX0_runCurtains_42 ?_
        refine lv_icmp_ge (tgt := 108) hx hb dX0_runCurtains_43 (by decide) (fun c5 => ?_) (fun c5 => ?_)
        · have h := it_p c5 h
          obtain rfl := os h
          exact ret_v hx hb hr hlocks hP hK hD hS dX0_runCurtains_108
        · have h := it_n c5 h
          refine lv_iload hx hb dX0_runCurtains_46 (lv_at hl 4 rfl) ?_
          refine lv_iload_n hx hb dX0_runCurtains_48 rfl (lv_at hl 2 rfl) ?_
          refine lv_aload_n hx hb dX0_runCurtains_49 rfl (lv_at hl 1 rfl) ?_
          refine va_get (D := D) (ci := 1) (v := .ref (xb 2)) (C := RX1) (T := TX1) (N := 10) hx hb htB inlX1 hown hK hP 4 rfl rfl 2 (by decide) (htB _ kw108) (fun _ h9 => h9) rfl dX0_runCurtains_50 ?_
          refine lv_iload hx hb dX0_runCurtains_53 (lv_at hl 6 rfl) ?_
          obtain ⟨r6, h6, h⟩ := ob h
          refine call_i (v := r6) (wc := (gA t (xb 2) 24 x.2.2.1)) (wc' := (gA t (xb 2) 24 x.2.2.1)) (ws' := (gE t ea eb v26.1 ++ (gS t xa xb x))) (cutI (wc := (gA t (xb 2) 24 x.2.2.1)) (wc' := (gA t (xb 2) 24 x.2.2.1)) (ws' := (gE t ea eb v26.1 ++ (gS t xa xb x))) [7] hP hD hS hA rfl rfl rfl rfl) hS (fun hPc hDc => va_runSN (As := [.ref (xb 2), .int v26.2.2.2.2.2]) (rest := [.int v26.2.1, .int v26.2.2.2.1]) ⟨hx, hb, hml, hown, hts⟩ (mtX2_at l D t (xb 2) 24 x.2.2.1 v26.2.2.2.2.2 r6 h6 (by decide) _) ⟨va_cnB 2 hts (gB kw66) rfl rfl rfl hE.2.1 (htB _ kw2) (by decide +kernel) ⟨Nat.le_of_ble_eq_true rfl, Nat.le_of_ble_eq_true rfl⟩, (htB _ kw65), trivial⟩ (sPc_S hPc hK hDc hE) rfl rfl hl.1 rfl (lv_room (Nat.le_of_ble_eq_true rfl)) dX0_runCurtains_55 ⟨Nat.zero_le _, Nat.zero_le _⟩) (fun H locs hP hD hS => ?_)
          refine lv_iadd hx hb dX0_runCurtains_58 ?_
          refine lv_iadd hx hb dX0_runCurtains_59 ?_
          refine lv_istore (lv' := [(5, .int (v26.2.2.2.1 + (v26.2.1 + r6))), (0, .ref ea), (1, .ref xa), (3, .int v26.2.1), (4, .int v26.2.2.1), (6, .int v26.2.2.2.2.1), (7, .int v26.2.2.2.2.2)]) hx hb dX0_runCurtains_60 hl (by decide) rfl (fun ls hl => ?_)
          refine lv_iload hx hb dX0_runCurtains_62 (lv_at hl 0 rfl) ?_
          refine lv_iload hx hb dX0_runCurtains_64 (lv_at hl 5 rfl) ?_
          refine lv_iload hx hb dX0_runCurtains_66 (lv_at hl 4 rfl) ?_
          refine lv_iadd hx hb dX0_runCurtains_68 ?_
          refine lv_aload_n hx hb dX0_runCurtains_69 rfl (lv_at hl 2 rfl) ?_
          refine va_get (D := D) (ci := 1) (v := .ref (xb 3)) (C := RX1) (T := TX1) (N := 10) hx hb htB inlX1 hown hK hP 4 rfl rfl 3 (by decide) (htB _ kw109) (fun _ h9 => h9) rfl dX0_runCurtains_70 ?_
          refine lv_iload hx hb dX0_runCurtains_73 (lv_at hl 6 rfl) ?_
          obtain ⟨r7, h7, h⟩ := ob h
          refine call_i (v := r7) (wc := (gA t (xb 3) 24 x.2.2.2.1)) (wc' := (gA t (xb 3) 24 x.2.2.2.1)) (ws' := (gE t ea eb v26.1 ++ (gS t xa xb x))) (cutI (wc := (gA t (xb 3) 24 x.2.2.2.1)) (wc' := (gA t (xb 3) 24 x.2.2.2.1)) (ws' := (gE t ea eb v26.1 ++ (gS t xa xb x))) [8] hP hD hS hA rfl rfl rfl rfl) hS (fun hPc hDc => va_runSN (As := [.ref (xb 3), .int v26.2.2.2.2.2]) (rest := [.int (v26.2.2.2.2.1 + v26.2.2.1), .int (v26.2.2.2.1 + (v26.2.1 + r6))]) ⟨hx, hb, hml, hown, hts⟩ (mtX2_at l D t (xb 3) 24 x.2.2.2.1 v26.2.2.2.2.2 r7 h7 (by decide) _) ⟨va_cnB 2 hts (gB kw66) rfl rfl rfl hE.2.1 (htB _ kw2) (by decide +kernel) ⟨Nat.le_of_ble_eq_true rfl, Nat.le_of_ble_eq_true rfl⟩, (htB _ kw65), trivial⟩ (sPc_S hPc hK hDc hE) rfl rfl hl.1 rfl (lv_room (Nat.le_of_ble_eq_true rfl)) dX0_runCurtains_75 ⟨Nat.zero_le _, Nat.zero_le _⟩) (fun H locs hP hD hS => ?_)
          refine lv_iadd hx hb dX0_runCurtains_78 ?_
          refine va_mmax hx hb (by rw [hml]; exact hl.1.symm) hown (htB _ kw110) (htB _ kw111) (htB _ kw63) (htB _ kw112) (Nat.le_of_ble_eq_true rfl) (Nat.le_of_ble_eq_true rfl) (Nat.zero_le _) (Nat.zero_le _) dX0_runCurtains_79 ?_
          refine lv_istore (lv' := [(6, .int (imax (v26.2.2.2.1 + (v26.2.1 + r6)) ((v26.2.2.2.2.1 + v26.2.2.1) + r7))), (5, .int (v26.2.2.2.1 + (v26.2.1 + r6))), (0, .ref ea), (1, .ref xa), (3, .int v26.2.1), (4, .int v26.2.2.1), (7, .int v26.2.2.2.2.2)]) hx hb dX0_runCurtains_82 hl (by decide) rfl (fun ls hl => ?_)
          refine lv_aload_n hx hb dX0_runCurtains_84 rfl (lv_at hl 2 rfl) ?_
          refine va_get (D := D) (ci := 0) (v := .ref (eb 0)) (C := RX0) (T := TX0) (N := 10) hx hb htB inlX0 hown hK hP 0 rfl rfl 0 (by decide) (htB _ kw42) (fun _ h9 => h9) rfl dX0_runCurtains_85 ?_
          refine lv_iload hx hb dX0_runCurtains_88 (lv_at hl 6 rfl) ?_
          refine lv_iload hx hb dX0_runCurtains_90 (lv_at hl 1 rfl) ?_
          obtain ⟨g8, h⟩ := og h
          refine va_iast hx hb hK hP hD hS 1 0 rfl rfl (pin_in g8) dX0_runCurtains_92 (fun H locs hP hD hS => ?_)
          have hP : va_P D vwCl (gE t ea eb ((upd v26.1.1 (Int32.toNatClampNeg v26.2.2.2.2.2) (v26.2.2.2.1 + (v26.2.1 + r6))), v26.1.2.1, v26.1.2.2.1, v26.1.2.2.2.1, v26.1.2.2.2.2.1, v26.1.2.2.2.2.2.1, v26.1.2.2.2.2.2.2.1, v26.1.2.2.2.2.2.2.2.1, v26.1.2.2.2.2.2.2.2.2.1, v26.1.2.2.2.2.2.2.2.2.2) ++ (gS t xa xb x)) H := hP
          have hD : va_D A (gE t ea eb ((upd v26.1.1 (Int32.toNatClampNeg v26.2.2.2.2.2) (v26.2.2.2.1 + (v26.2.1 + r6))), v26.1.2.1, v26.1.2.2.1, v26.1.2.2.2.1, v26.1.2.2.2.2.1, v26.1.2.2.2.2.2.1, v26.1.2.2.2.2.2.2.1, v26.1.2.2.2.2.2.2.2.1, v26.1.2.2.2.2.2.2.2.2.1, v26.1.2.2.2.2.2.2.2.2.2) ++ (gS t xa xb x)) := hD
          refine lv_aload_n hx hb dX0_runCurtains_93 rfl (lv_at hl 2 rfl) ?_
          refine va_get (D := D) (ci := 0) (v := .ref (eb 1)) (C := RX0) (T := TX0) (N := 10) hx hb htB inlX0 hown hK hP 0 rfl rfl 1 (by decide) (htB _ kw43) (fun _ h9 => h9) rfl dX0_runCurtains_94 ?_
          refine lv_iload hx hb dX0_runCurtains_97 (lv_at hl 6 rfl) ?_
          refine lv_iload hx hb dX0_runCurtains_99 (lv_at hl 0 rfl) ?_
          refine va_iast hx hb hK hP hD hS 2 0 rfl rfl (pin_in g8) dX0_runCurtains_101 (fun H locs hP hD hS => ?_)
          have hP : va_P D vwCl (gE t ea eb ((upd v26.1.1 (Int32.toNatClampNeg v26.2.2.2.2.2) (v26.2.2.2.1 + (v26.2.1 + r6))), (upd v26.1.2.1 (Int32.toNatClampNeg v26.2.2.2.2.2) (imax (v26.2.2.2.1 + (v26.2.1 + r6)) ((v26.2.2.2.2.1 + v26.2.2.1) + r7))), v26.1.2.2.1, v26.1.2.2.2.1, v26.1.2.2.2.2.1, v26.1.2.2.2.2.2.1, v26.1.2.2.2.2.2.2.1, v26.1.2.2.2.2.2.2.2.1, v26.1.2.2.2.2.2.2.2.2.1, v26.1.2.2.2.2.2.2.2.2.2) ++ (gS t xa xb x)) H := hP
          have hD : va_D A (gE t ea eb ((upd v26.1.1 (Int32.toNatClampNeg v26.2.2.2.2.2) (v26.2.2.2.1 + (v26.2.1 + r6))), (upd v26.1.2.1 (Int32.toNatClampNeg v26.2.2.2.2.2) (imax (v26.2.2.2.1 + (v26.2.1 + r6)) ((v26.2.2.2.2.1 + v26.2.2.1) + r7))), v26.1.2.2.1, v26.1.2.2.2.1, v26.1.2.2.2.2.1, v26.1.2.2.2.2.2.1, v26.1.2.2.2.2.2.2.1, v26.1.2.2.2.2.2.2.2.1, v26.1.2.2.2.2.2.2.2.2.1, v26.1.2.2.2.2.2.2.2.2.2) ++ (gS t xa xb x)) := hD
          refine lv_iinc (v := v26.2.2.2.2.2 + 1) (lv' := [(7, .int (v26.2.2.2.2.2 + 1)), (6, .int (imax (v26.2.2.2.1 + (v26.2.1 + r6)) ((v26.2.2.2.2.1 + v26.2.2.1) + r7))), (5, .int (v26.2.2.2.1 + (v26.2.1 + r6))), (0, .ref ea), (1, .ref xa), (3, .int v26.2.1), (4, .int v26.2.2.1)]) hx hb dX0_runCurtains_102 hl (k := 6) rfl rfl (by decide) rfl (fun ls hl => ?_)
          refine lv_goto (tgt := 26) hx hb dX0_runCurtains_105 (by decide) ?_
          exact ih26 (((upd v26.1.1 (Int32.toNatClampNeg v26.2.2.2.2.2) (v26.2.2.2.1 + (v26.2.1 + r6))), (upd v26.1.2.1 (Int32.toNatClampNeg v26.2.2.2.2.2) (imax (v26.2.2.2.1 + (v26.2.1 + r6)) ((v26.2.2.2.2.1 + v26.2.2.1) + r7))), v26.1.2.2.1, v26.1.2.2.2.1, v26.1.2.2.2.2.1, v26.1.2.2.2.2.2.1, v26.1.2.2.2.2.2.2.1, v26.1.2.2.2.2.2.2.2.1, v26.1.2.2.2.2.2.2.2.2.1, v26.1.2.2.2.2.2.2.2.2.2), v26.2.1, v26.2.2.1, v26.2.2.2.1 + (v26.2.1 + r6), imax (v26.2.2.2.1 + (v26.2.1 + r6)) ((v26.2.2.2.2.1 + v26.2.2.1) + r7), v26.2.2.2.2.2 + 1) h _ _ hP hD hS _ (lv_sub hl [3, 4, 5, 6, 2, 1, 0] rfl)
  refine lv_aload_n hx hb dX0_runCurtains_0 rfl (lv_at hl 1 rfl) ?_
  refine lv_iconst (v := 0) hx hb dX0_runCurtains_1 (by decide) ?_
  obtain ⟨r1, h1, h⟩ := ob h
  refine call_i (v := r1) (wc := (gS t xa xb x)) (wc' := (gS t xa xb x)) (ws' := (gE t ea eb ex ++ (gS t xa xb x))) (cutB (bs := [gE t ea eb ex, gS t xa xb x]) (cs := [gS t xa xb x]) (cs' := [gS t xa xb x]) (bs' := [gE t ea eb ex, gS t xa xb x]) [1] hP hD hS hA rfl rfl rfl rfl) hS (fun hPc hDc => va_runV (As := [.int 0]) (rest := []) ⟨hx, hb, hml, hown, hts⟩ (mtX1_ticksWithoutDrag l D t xa xb x 0 r1 h1 _) (cwV 1 hts (gBV kw113 kw114 kw115 kw11 kw116) rfl rfl rfl (by decide +kernel) ⟨Nat.le_of_ble_eq_true rfl, Nat.le_of_ble_eq_true rfl⟩) (sPc_V hPc hK hDc hE (va_recv hK hP (ci := 1) (q0 := 4) rfl rfl)) rfl rfl hl.1 rfl (lv_room (Nat.le_of_ble_eq_true rfl)) dX0_runCurtains_2 ⟨Nat.zero_le _, Nat.zero_le _⟩) (fun H locs hP hD hS => ?_)
  refine lv_istore_n (lv' := [(3, .int r1), (0, .ref ea), (1, .ref xa), (2, .int v)]) hx hb dX0_runCurtains_5 rfl hl (by decide) rfl (fun ls hl => ?_)
  refine lv_aload_n hx hb dX0_runCurtains_6 rfl (lv_at hl 2 rfl) ?_
  refine lv_iconst (v := 1) hx hb dX0_runCurtains_7 (by decide) ?_
  obtain ⟨r2, h2, h⟩ := ob h
  refine call_i (v := r2) (wc := (gS t xa xb x)) (wc' := (gS t xa xb x)) (ws' := (gE t ea eb ex ++ (gS t xa xb x))) (cutB (bs := [gE t ea eb ex, gS t xa xb x]) (cs := [gS t xa xb x]) (cs' := [gS t xa xb x]) (bs' := [gE t ea eb ex, gS t xa xb x]) [1] hP hD hS hA rfl rfl rfl rfl) hS (fun hPc hDc => va_runV (As := [.int 1]) (rest := []) ⟨hx, hb, hml, hown, hts⟩ (mtX1_ticksWithoutDrag l D t xa xb x 1 r2 h2 _) (cwV 1 hts (gBV kw113 kw114 kw115 kw11 kw116) rfl rfl rfl (by decide +kernel) ⟨Nat.le_of_ble_eq_true rfl, Nat.le_of_ble_eq_true rfl⟩) (sPc_V hPc hK hDc hE (va_recv hK hP (ci := 1) (q0 := 4) rfl rfl)) rfl rfl hl.1 rfl (lv_room (Nat.le_of_ble_eq_true rfl)) dX0_runCurtains_8 ⟨Nat.zero_le _, Nat.zero_le _⟩) (fun H locs hP hD hS => ?_)
  refine lv_istore (lv' := [(4, .int r2), (3, .int r1), (0, .ref ea), (1, .ref xa), (2, .int v)]) hx hb dX0_runCurtains_11 hl (by decide) rfl (fun ls hl => ?_)
  refine lv_iconst (v := 0) hx hb dX0_runCurtains_13 (by decide) ?_
  refine lv_istore (lv' := [(5, .int 0), (4, .int r2), (3, .int r1), (0, .ref ea), (1, .ref xa), (2, .int v)]) hx hb dX0_runCurtains_14 hl (by decide) rfl (fun ls hl => ?_)
  refine lv_aload_n hx hb dX0_runCurtains_16 rfl (lv_at hl 4 rfl) ?_
  refine lv_iload_n hx hb dX0_runCurtains_17 rfl (lv_at hl 5 rfl) ?_
  obtain ⟨r3, h3, h⟩ := ob h
  refine call_i (v := r3) (wc := (gS t xa xb x)) (wc' := (gS t xa xb x)) (ws' := (gE t ea eb ex ++ (gS t xa xb x))) (cutB (bs := [gE t ea eb ex, gS t xa xb x]) (cs := [gS t xa xb x]) (cs' := [gS t xa xb x]) (bs' := [gE t ea eb ex, gS t xa xb x]) [1] hP hD hS hA rfl rfl rfl rfl) hS (fun hPc hDc => va_runV (As := [.int v]) (rest := []) ⟨hx, hb, hml, hown, hts⟩ (mtX1_startOfSecond l D t xa xb x v r3 h3 _) (cwV 1 hts (gBV kw117 kw118 kw119 kw11 kw120) rfl rfl rfl (by decide +kernel) ⟨Nat.le_of_ble_eq_true rfl, Nat.le_of_ble_eq_true rfl⟩) (sPc_V hPc hK hDc hE (va_recv hK hP (ci := 1) (q0 := 4) rfl rfl)) rfl rfl hl.1 rfl (lv_room (Nat.le_of_ble_eq_true rfl)) dX0_runCurtains_18 ⟨Nat.zero_le _, Nat.zero_le _⟩) (fun H locs hP hD hS => ?_)
  refine lv_istore (lv' := [(6, .int r3), (5, .int 0), (4, .int r2), (3, .int r1), (0, .ref ea), (1, .ref xa), (2, .int v)]) hx hb dX0_runCurtains_21 hl (by decide) rfl (fun ls hl => ?_)
  refine lv_iconst (v := 0) hx hb dX0_runCurtains_23 (by decide) ?_
  refine lv_istore (lv' := [(7, .int 0), (6, .int r3), (5, .int 0), (4, .int r2), (3, .int r1), (0, .ref ea), (1, .ref xa), (2, .int v)]) hx hb dX0_runCurtains_24 hl (by decide) rfl (fun ls hl => ?_)
  exact J26 2000 (ex, r1, r2, 0, r3, 0) h _ _ hP hD hS _ (lv_sub hl [5, 6, 4, 3, 2, 1, 0] rfl)

theorem dX0_openColumns_0 : decode cX0_openColumns 0 = .ok (.aload_n 0, 1) := by decide +kernel
theorem dX0_openColumns_1 : decode cX0_openColumns 1 = .ok (.getfield 9, 3) := by decide +kernel
theorem dX0_openColumns_4 : decode cX0_openColumns 4 = .ok (.bipush 23, 2) := by decide +kernel
theorem dX0_openColumns_6 : decode cX0_openColumns 6 = .ok (.invokestatic 55, 3) := by decide +kernel
theorem dX0_openColumns_9 : decode cX0_openColumns 9 = .ok (.istore_n 2, 1) := by decide +kernel
theorem dX0_openColumns_10 : decode cX0_openColumns 10 = .ok (.iload_n 2, 1) := by decide +kernel
theorem dX0_openColumns_11 : decode cX0_openColumns 11 = .ok (.aload_n 1, 1) := by decide +kernel
theorem dX0_openColumns_12 : decode cX0_openColumns 12 = .ok (.getfield 68, 3) := by decide +kernel
theorem dX0_openColumns_15 : decode cX0_openColumns 15 = .ok (.iconst 2, 1) := by decide +kernel
theorem dX0_openColumns_16 : decode cX0_openColumns 16 = .ok (.invokestatic 55, 3) := by decide +kernel
theorem dX0_openColumns_19 : decode cX0_openColumns 19 = .ok (.iadd, 1) := by decide +kernel
theorem dX0_openColumns_20 : decode cX0_openColumns 20 = .ok (.istore_n 3, 1) := by decide +kernel
theorem dX0_openColumns_21 : decode cX0_openColumns 21 = .ok (.bipush 24, 2) := by decide +kernel
theorem dX0_openColumns_23 : decode cX0_openColumns 23 = .ok (.aload_n 1, 1) := by decide +kernel
theorem dX0_openColumns_24 : decode cX0_openColumns 24 = .ok (.invokevirtual 71, 3) := by decide +kernel
theorem dX0_openColumns_27 : decode cX0_openColumns 27 = .ok (.isub, 1) := by decide +kernel
theorem dX0_openColumns_28 : decode cX0_openColumns 28 = .ok (.istore 4, 2) := by decide +kernel
theorem dX0_openColumns_30 : decode cX0_openColumns 30 = .ok (.iconst 0, 1) := by decide +kernel
theorem dX0_openColumns_31 : decode cX0_openColumns 31 = .ok (.istore 5, 2) := by decide +kernel
theorem dX0_openColumns_33 : decode cX0_openColumns 33 = .ok (.iload 5, 2) := by decide +kernel
theorem dX0_openColumns_35 : decode cX0_openColumns 35 = .ok (.aload_n 0, 1) := by decide +kernel
theorem dX0_openColumns_36 : decode cX0_openColumns 36 = .ok (.getfield 18, 3) := by decide +kernel
theorem dX0_openColumns_39 : decode cX0_openColumns 39 = .ok (.arraylength, 1) := by decide +kernel
theorem dX0_openColumns_40 : decode cX0_openColumns 40 = .ok (.if_icmp .ge 71, 3) := by decide +kernel
theorem dX0_openColumns_43 : decode cX0_openColumns 43 = .ok (.aload_n 0, 1) := by decide +kernel
theorem dX0_openColumns_44 : decode cX0_openColumns 44 = .ok (.getfield 15, 3) := by decide +kernel
theorem dX0_openColumns_47 : decode cX0_openColumns 47 = .ok (.iload 5, 2) := by decide +kernel
theorem dX0_openColumns_49 : decode cX0_openColumns 49 = .ok (.invokestatic 55, 3) := by decide +kernel
theorem dX0_openColumns_52 : decode cX0_openColumns 52 = .ok (.istore 6, 2) := by decide +kernel
theorem dX0_openColumns_54 : decode cX0_openColumns 54 = .ok (.iload 6, 2) := by decide +kernel
theorem dX0_openColumns_56 : decode cX0_openColumns 56 = .ok (.aload_n 0, 1) := by decide +kernel
theorem dX0_openColumns_57 : decode cX0_openColumns 57 = .ok (.getfield 9, 3) := by decide +kernel
theorem dX0_openColumns_60 : decode cX0_openColumns 60 = .ok (.iload 5, 2) := by decide +kernel
theorem dX0_openColumns_62 : decode cX0_openColumns 62 = .ok (.invokestatic 55, 3) := by decide +kernel
theorem dX0_openColumns_65 : decode cX0_openColumns 65 = .ok (.isub, 1) := by decide +kernel
theorem dX0_openColumns_66 : decode cX0_openColumns 66 = .ok (.istore 7, 2) := by decide +kernel
theorem dX0_openColumns_68 : decode cX0_openColumns 68 = .ok (.iload 5, 2) := by decide +kernel
theorem dX0_openColumns_70 : decode cX0_openColumns 70 = .ok (.iload 4, 2) := by decide +kernel
theorem dX0_openColumns_72 : decode cX0_openColumns 72 = .ok (.if_icmp .ge 7, 3) := by decide +kernel
theorem dX0_openColumns_75 : decode cX0_openColumns 75 = .ok (.iconst 0, 1) := by decide +kernel
theorem dX0_openColumns_76 : decode cX0_openColumns 76 = .ok (.goto 11, 3) := by decide +kernel
theorem dX0_openColumns_79 : decode cX0_openColumns 79 = .ok (.iload 6, 2) := by decide +kernel
theorem dX0_openColumns_81 : decode cX0_openColumns 81 = .ok (.iload_n 3, 1) := by decide +kernel
theorem dX0_openColumns_82 : decode cX0_openColumns 82 = .ok (.invokestatic 75, 3) := by decide +kernel
theorem dX0_openColumns_85 : decode cX0_openColumns 85 = .ok (.iload_n 2, 1) := by decide +kernel
theorem dX0_openColumns_86 : decode cX0_openColumns 86 = .ok (.isub, 1) := by decide +kernel
theorem dX0_openColumns_87 : decode cX0_openColumns 87 = .ok (.istore 8, 2) := by decide +kernel
theorem dX0_openColumns_89 : decode cX0_openColumns 89 = .ok (.aload_n 0, 1) := by decide +kernel
theorem dX0_openColumns_90 : decode cX0_openColumns 90 = .ok (.getfield 18, 3) := by decide +kernel
theorem dX0_openColumns_93 : decode cX0_openColumns 93 = .ok (.iload 5, 2) := by decide +kernel
theorem dX0_openColumns_95 : decode cX0_openColumns 95 = .ok (.iload 7, 2) := by decide +kernel
theorem dX0_openColumns_97 : decode cX0_openColumns 97 = .ok (.iconst 0, 1) := by decide +kernel
theorem dX0_openColumns_98 : decode cX0_openColumns 98 = .ok (.iload 8, 2) := by decide +kernel
theorem dX0_openColumns_100 : decode cX0_openColumns 100 = .ok (.invokestatic 62, 3) := by decide +kernel
theorem dX0_openColumns_103 : decode cX0_openColumns 103 = .ok (.isub, 1) := by decide +kernel
theorem dX0_openColumns_104 : decode cX0_openColumns 104 = .ok (.iastore, 1) := by decide +kernel
theorem dX0_openColumns_105 : decode cX0_openColumns 105 = .ok (.iinc 5 1, 3) := by decide +kernel
theorem dX0_openColumns_108 : decode cX0_openColumns 108 = .ok (.goto (-75), 3) := by decide +kernel
theorem dX0_openColumns_111 : decode cX0_openColumns 111 = .ok (.return_, 1) := by decide +kernel
abbrev zX0_openColumns : List Cond := .code yX0_openColumns cX0_openColumns 9 none :: BIG
def fX0_openColumns_j87 (x : ShT) (K33 : (ExT × Int32 × Int32 × Int32 × Int32) → Option (ExT)) (v87 : ExT × Int32 × Int32 × Int32 × Int32 × Int32 × Int32) : Option (ExT) := gd (pin v87.2.2.2.2.1 24) (K33 ((v87.1.1, v87.1.2.1, (upd v87.1.2.2.1 (Int32.toNatClampNeg v87.2.2.2.2.1) (v87.2.2.2.2.2.1 - (imax 0 v87.2.2.2.2.2.2))), v87.1.2.2.2.1, v87.1.2.2.2.2.1, v87.1.2.2.2.2.2.1, v87.1.2.2.2.2.2.2.1, v87.1.2.2.2.2.2.2.2.1, v87.1.2.2.2.2.2.2.2.2.1, v87.1.2.2.2.2.2.2.2.2.2), v87.2.1, v87.2.2.1, v87.2.2.2.1, v87.2.2.2.2.1 + 1))
def fX0_openColumns_l33 (x : ShT)  (K33 : (ExT × Int32 × Int32 × Int32 × Int32) → Option (ExT)) (v33 : ExT × Int32 × Int32 × Int32 × Int32) : Option (ExT) := (if 24 ≤ v33.2.2.2.2 then some v33.1 else (fX2_at 24 v33.1.2.1 v33.2.2.2.2).bind (fun r5 => (fX2_at 24 v33.1.1 v33.2.2.2.2).bind (fun r6 => (if v33.2.2.2.1 ≤ v33.2.2.2.2 then fX0_openColumns_j87 x K33 (v33.1, v33.2.1, v33.2.2.1, v33.2.2.2.1, v33.2.2.2.2, r5 - r6, (imin r5 v33.2.2.1) - v33.2.1) else fX0_openColumns_j87 x K33 (v33.1, v33.2.1, v33.2.2.1, v33.2.2.2.1, v33.2.2.2.2, r5 - r6, 0)))))
def fX0_openColumns (ex : ExT) (x : ShT) : Option (ExT) := (fX2_at 24 ex.1 23).bind (fun r1 => (fX2_at 4 x.2.2.2.2.2.1 2).bind (fun r2 => (fX1_bounceColumns x).bind (fun r3 => lp (fX0_openColumns_l33 x) 2000 (ex, r1, r1 + r2, 24 - r3, 0))))
set_option maxHeartbeats 4000000 in
set_option maxRecDepth 100000 in
theorem mtX0_openColumns (l : Launch) (D : va_G) (t : Nat → ClassId) (ea : Nat) (eb : Nat → Nat) (ex : ExT) (xa : Nat) (xb : Nat → Nat) (x : ShT) (out : ExT) (h : fX0_openColumns ex x = some out)  (sz : Nat) : Met l yX0_openColumns zX0_openColumns ({ frames := 2, cells := 0, slots := 0, locals := 42 }) (sPc D t (gE t ea eb ex ++ (gS t xa xb x)) sz [.ref ea, .ref xa]) (qV D t (gE t ea eb out ++ (gS t xa xb x)) (va_A (gE t ea eb ex ++ (gS t xa xb x)) sz)) 0 0 (va_A (gE t ea eb ex ++ (gS t xa xb x)) sz) := by
  refine met_of (Qf := fun A => qV D t (gE t ea eb out ++ (gS t xa xb x)) A) (cc := cX0_openColumns) (maxL := 9) (ret := none) (by decide) rfl (Nat.le_of_ble_eq_true rfl) ?_
  intro p e s m args below meth c A hx hb hr hml hts hown hlocks hA hP hK hD hE hS ls hl
  have htB : ∀ w ∈ BIG, w.before args s = true := fun w h => hts w (List.mem_cons_of_mem _ h)
  have hown : s.vm.findClass RX0 = some m.cls := hown
  have hl : lv_has ls 9 [(0, .ref ea), (1, .ref xa)] := hl
  unfold fX0_openColumns at h
  have J33 : ∀ (fu33 : Nat) (v33 : ExT × Int32 × Int32 × Int32 × Int32), lp (fX0_openColumns_l33 x) fu33 v33 = some out → ∀ (H : Heap) (locs : List Loc), va_P D vwCl (gE t ea eb v33.1 ++ (gS t xa xb x)) H → va_D A (gE t ea eb v33.1 ++ (gS t xa xb x)) → va_S A s.heap H locs → ∀ ls : Array Slot, lv_has ls 9 [(0, .ref ea), (2, .int v33.2.1), (3, .int v33.2.2.1), (4, .int v33.2.2.2.1), (5, .int v33.2.2.2.2)] → W p l e ({ frames := 2, cells := 0, slots := 0, locals := 42 }) s m args below meth c H locs 0 0 (MQ below (qV D t (gE t ea eb out ++ (gS t xa xb x)) A) args s 0 0 A) (F0 m 33 ls []) := by
    intro fu33
    induction fu33 with
    | zero => intro v33 h; cases h
    | succ fu33 ih33 =>
      intro v33 h H locs hP hD hS ls hl
      have h : fX0_openColumns_l33 x (lp (fX0_openColumns_l33 x) fu33) v33 = some out := h
      unfold fX0_openColumns_l33 at h
      have J87 : ∀ v87 : ExT × Int32 × Int32 × Int32 × Int32 × Int32 × Int32, fX0_openColumns_j87 x (lp (fX0_openColumns_l33 x) fu33) v87 = some out → ∀ (H : Heap) (locs : List Loc), va_P D vwCl (gE t ea eb v87.1 ++ (gS t xa xb x)) H → va_D A (gE t ea eb v87.1 ++ (gS t xa xb x)) → va_S A s.heap H locs → ∀ ls : Array Slot, lv_has ls 9 [(0, .ref ea), (2, .int v87.2.1), (3, .int v87.2.2.1), (4, .int v87.2.2.2.1), (5, .int v87.2.2.2.2.1), (7, .int v87.2.2.2.2.2.1)] → W p l e ({ frames := 2, cells := 0, slots := 0, locals := 42 }) s m args below meth c H locs 0 0 (MQ below (qV D t (gE t ea eb out ++ (gS t xa xb x)) A) args s 0 0 A) (F0 m 87 ls [.int v87.2.2.2.2.2.2]) := by
        intro v87 h H locs hP hD hS ls hl
        unfold fX0_openColumns_j87 at h
        refine lv_istore (lv' := [(8, .int v87.2.2.2.2.2.2), (0, .ref ea), (2, .int v87.2.1), (3, .int v87.2.2.1), (4, .int v87.2.2.2.1), (5, .int v87.2.2.2.2.1), (7, .int v87.2.2.2.2.2.1)]) hx hb dX0_openColumns_87 hl (by decide) rfl (fun ls hl => ?_)
        refine lv_aload_n hx hb dX0_openColumns_89 rfl (lv_at hl 1 rfl) ?_
        refine va_get (D := D) (ci := 0) (v := .ref (eb 2)) (C := RX0) (T := TX0) (N := 10) hx hb htB inlX0 hown hK hP 0 rfl rfl 2 (by decide) (htB _ kw44) (fun _ h9 => h9) rfl dX0_openColumns_90 ?_
        refine lv_iload hx hb dX0_openColumns_93 (lv_at hl 5 rfl) ?_
        refine lv_iload hx hb dX0_openColumns_95 (lv_at hl 6 rfl) ?_
        refine lv_iconst (v := 0) hx hb dX0_openColumns_97 (by decide) ?_
        refine lv_iload hx hb dX0_openColumns_98 (lv_at hl 0 rfl) ?_
        refine va_mmax hx hb (by rw [hml]; exact hl.1.symm) hown (htB _ kw110) (htB _ kw111) (htB _ kw63) (htB _ kw112) (Nat.le_of_ble_eq_true rfl) (Nat.le_of_ble_eq_true rfl) (Nat.zero_le _) (Nat.zero_le _) dX0_openColumns_100 ?_
        refine lv_isub hx hb dX0_openColumns_103 ?_
        obtain ⟨g8, h⟩ := og h
        refine va_iast hx hb hK hP hD hS 3 0 rfl rfl (pin_in g8) dX0_openColumns_104 (fun H locs hP hD hS => ?_)
        have hP : va_P D vwCl (gE t ea eb (v87.1.1, v87.1.2.1, (upd v87.1.2.2.1 (Int32.toNatClampNeg v87.2.2.2.2.1) (v87.2.2.2.2.2.1 - (imax 0 v87.2.2.2.2.2.2))), v87.1.2.2.2.1, v87.1.2.2.2.2.1, v87.1.2.2.2.2.2.1, v87.1.2.2.2.2.2.2.1, v87.1.2.2.2.2.2.2.2.1, v87.1.2.2.2.2.2.2.2.2.1, v87.1.2.2.2.2.2.2.2.2.2) ++ (gS t xa xb x)) H := hP
        have hD : va_D A (gE t ea eb (v87.1.1, v87.1.2.1, (upd v87.1.2.2.1 (Int32.toNatClampNeg v87.2.2.2.2.1) (v87.2.2.2.2.2.1 - (imax 0 v87.2.2.2.2.2.2))), v87.1.2.2.2.1, v87.1.2.2.2.2.1, v87.1.2.2.2.2.2.1, v87.1.2.2.2.2.2.2.1, v87.1.2.2.2.2.2.2.2.1, v87.1.2.2.2.2.2.2.2.2.1, v87.1.2.2.2.2.2.2.2.2.2) ++ (gS t xa xb x)) := hD
        refine lv_iinc (v := v87.2.2.2.2.1 + 1) (lv' := [(5, .int (v87.2.2.2.2.1 + 1)), (8, .int v87.2.2.2.2.2.2), (0, .ref ea), (2, .int v87.2.1), (3, .int v87.2.2.1), (4, .int v87.2.2.2.1), (7, .int v87.2.2.2.2.2.1)]) hx hb dX0_openColumns_105 hl (k := 5) rfl rfl (by decide) rfl (fun ls hl => ?_)
        refine lv_goto (tgt := 33) hx hb dX0_openColumns_108 (by decide) ?_
        exact ih33 ((v87.1.1, v87.1.2.1, (upd v87.1.2.2.1 (Int32.toNatClampNeg v87.2.2.2.2.1) (v87.2.2.2.2.2.1 - (imax 0 v87.2.2.2.2.2.2))), v87.1.2.2.2.1, v87.1.2.2.2.2.1, v87.1.2.2.2.2.2.1, v87.1.2.2.2.2.2.2.1, v87.1.2.2.2.2.2.2.2.1, v87.1.2.2.2.2.2.2.2.2.1, v87.1.2.2.2.2.2.2.2.2.2), v87.2.1, v87.2.2.1, v87.2.2.2.1, v87.2.2.2.2.1 + 1) h _ _ hP hD hS _ (lv_sub hl [2, 3, 4, 5, 0] rfl)
      refine lv_iload hx hb dX0_openColumns_33 (lv_at hl 4 rfl) ?_
      refine lv_aload_n hx hb dX0_openColumns_35 rfl (lv_at hl 0 rfl) ?_
      refine va_get (D := D) (ci := 0) (v := .ref (eb 2)) (C := RX0) (T := TX0) (N := 10) hx hb htB inlX0 hown hK hP 0 rfl rfl 2 (by decide) (htB _ kw44) (fun _ h9 => h9) rfl dX0_openColumns_36 ?_
      refine va_alen (v := 24) hx hb hK hP 3 0 rfl rfl rfl dX0_openColumns_39 ?_
      refine lv_icmp_ge (tgt := 111) hx hb dX0_openColumns_40 (by decide) (fun c4 => ?_) (fun c4 => ?_)
      · have h := it_p c4 h
        obtain rfl := os h
        exact ret_v hx hb hr hlocks hP hK hD hS dX0_openColumns_111
      · have h := it_n c4 h
        refine lv_aload_n hx hb dX0_openColumns_43 rfl (lv_at hl 0 rfl) ?_
        refine va_get (D := D) (ci := 0) (v := .ref (eb 1)) (C := RX0) (T := TX0) (N := 10) hx hb htB inlX0 hown hK hP 0 rfl rfl 1 (by decide) (htB _ kw43) (fun _ h9 => h9) rfl dX0_openColumns_44 ?_
        refine lv_iload hx hb dX0_openColumns_47 (lv_at hl 4 rfl) ?_
        obtain ⟨r5, h5, h⟩ := ob h
        refine call_i (v := r5) (wc := (gA t (eb 1) 24 v33.1.2.1)) (wc' := (gA t (eb 1) 24 v33.1.2.1)) (ws' := (gE t ea eb v33.1 ++ (gS t xa xb x))) (cutI (wc := (gA t (eb 1) 24 v33.1.2.1)) (wc' := (gA t (eb 1) 24 v33.1.2.1)) (ws' := (gE t ea eb v33.1 ++ (gS t xa xb x))) [2] hP hD hS hA rfl rfl rfl rfl) hS (fun hPc hDc => va_runSN (As := [.ref (eb 1), .int v33.2.2.2.2]) (rest := []) ⟨hx, hb, hml, hown, hts⟩ (mtX2_at l D t (eb 1) 24 v33.1.2.1 v33.2.2.2.2 r5 h5 (by decide) _) ⟨va_cnB 2 hts (gB kw66) rfl rfl rfl hE.2.1 (htB _ kw2) (by decide +kernel) ⟨Nat.le_of_ble_eq_true rfl, Nat.le_of_ble_eq_true rfl⟩, (htB _ kw65), trivial⟩ (sPc_S hPc hK hDc hE) rfl rfl hl.1 rfl (lv_room (Nat.le_of_ble_eq_true rfl)) dX0_openColumns_49 ⟨Nat.zero_le _, Nat.zero_le _⟩) (fun H locs hP hD hS => ?_)
        refine lv_istore (lv' := [(6, .int r5), (0, .ref ea), (2, .int v33.2.1), (3, .int v33.2.2.1), (4, .int v33.2.2.2.1), (5, .int v33.2.2.2.2)]) hx hb dX0_openColumns_52 hl (by decide) rfl (fun ls hl => ?_)
        refine lv_iload hx hb dX0_openColumns_54 (lv_at hl 0 rfl) ?_
        refine lv_aload_n hx hb dX0_openColumns_56 rfl (lv_at hl 1 rfl) ?_
        refine va_get (D := D) (ci := 0) (v := .ref (eb 0)) (C := RX0) (T := TX0) (N := 10) hx hb htB inlX0 hown hK hP 0 rfl rfl 0 (by decide) (htB _ kw42) (fun _ h9 => h9) rfl dX0_openColumns_57 ?_
        refine lv_iload hx hb dX0_openColumns_60 (lv_at hl 5 rfl) ?_
        obtain ⟨r6, h6, h⟩ := ob h
        refine call_i (v := r6) (wc := (gA t (eb 0) 24 v33.1.1)) (wc' := (gA t (eb 0) 24 v33.1.1)) (ws' := (gE t ea eb v33.1 ++ (gS t xa xb x))) (cutI (wc := (gA t (eb 0) 24 v33.1.1)) (wc' := (gA t (eb 0) 24 v33.1.1)) (ws' := (gE t ea eb v33.1 ++ (gS t xa xb x))) [1] hP hD hS hA rfl rfl rfl rfl) hS (fun hPc hDc => va_runSN (As := [.ref (eb 0), .int v33.2.2.2.2]) (rest := [.int r5]) ⟨hx, hb, hml, hown, hts⟩ (mtX2_at l D t (eb 0) 24 v33.1.1 v33.2.2.2.2 r6 h6 (by decide) _) ⟨va_cnB 2 hts (gB kw66) rfl rfl rfl hE.2.1 (htB _ kw2) (by decide +kernel) ⟨Nat.le_of_ble_eq_true rfl, Nat.le_of_ble_eq_true rfl⟩, (htB _ kw65), trivial⟩ (sPc_S hPc hK hDc hE) rfl rfl hl.1 rfl (lv_room (Nat.le_of_ble_eq_true rfl)) dX0_openColumns_62 ⟨Nat.zero_le _, Nat.zero_le _⟩) (fun H locs hP hD hS => ?_)
        refine lv_isub hx hb dX0_openColumns_65 ?_
        refine lv_istore (lv' := [(7, .int (r5 - r6)), (6, .int r5), (0, .ref ea), (2, .int v33.2.1), (3, .int v33.2.2.1), (4, .int v33.2.2.2.1), (5, .int v33.2.2.2.2)]) hx hb dX0_openColumns_66 hl (by decide) rfl (fun ls hl => ?_)
        refine lv_iload hx hb dX0_openColumns_68 (lv_at hl 6 rfl) ?_
        refine lv_iload hx hb dX0_openColumns_70 (lv_at hl 5 rfl) ?_
        refine lv_icmp_ge (tgt := 79) hx hb dX0_openColumns_72 (by decide) (fun c7 => ?_) (fun c7 => ?_)
        · have h := it_p c7 h
          refine lv_iload hx hb dX0_openColumns_79 (lv_at hl 1 rfl) ?_
          refine lv_iload_n hx hb dX0_openColumns_81 rfl (lv_at hl 4 rfl) ?_
          refine va_mmin hx hb (by rw [hml]; exact hl.1.symm) hown (htB _ kw129) (htB _ kw62) (htB _ kw63) (htB _ kw64) (Nat.le_of_ble_eq_true rfl) (Nat.le_of_ble_eq_true rfl) (Nat.zero_le _) (Nat.zero_le _) dX0_openColumns_82 ?_
          refine lv_iload_n hx hb dX0_openColumns_85 rfl (lv_at hl 3 rfl) ?_
          refine lv_isub hx hb dX0_openColumns_86 ?_
          exact J87 (v33.1, v33.2.1, v33.2.2.1, v33.2.2.2.1, v33.2.2.2.2, r5 - r6, (imin r5 v33.2.2.1) - v33.2.1) h _ _ hP hD hS _ (lv_sub hl [2, 3, 4, 5, 6, 0] rfl)
        · have h := it_n c7 h
          refine lv_iconst (v := 0) hx hb dX0_openColumns_75 (by decide) ?_
          refine lv_goto (tgt := 87) hx hb dX0_openColumns_76 (by decide) ?_
          exact J87 (v33.1, v33.2.1, v33.2.2.1, v33.2.2.2.1, v33.2.2.2.2, r5 - r6, 0) h _ _ hP hD hS _ (lv_sub hl [2, 3, 4, 5, 6, 0] rfl)
  refine lv_aload_n hx hb dX0_openColumns_0 rfl (lv_at hl 0 rfl) ?_
  refine va_get (D := D) (ci := 0) (v := .ref (eb 0)) (C := RX0) (T := TX0) (N := 10) hx hb htB inlX0 hown hK hP 0 rfl rfl 0 (by decide) (htB _ kw42) (fun _ h9 => h9) rfl dX0_openColumns_1 ?_
  refine lv_bipush (v := 23) hx hb dX0_openColumns_4 (by decide) ?_
  obtain ⟨r1, h1, h⟩ := ob h
  refine call_i (v := r1) (wc := (gA t (eb 0) 24 ex.1)) (wc' := (gA t (eb 0) 24 ex.1)) (ws' := (gE t ea eb ex ++ (gS t xa xb x))) (cutI (wc := (gA t (eb 0) 24 ex.1)) (wc' := (gA t (eb 0) 24 ex.1)) (ws' := (gE t ea eb ex ++ (gS t xa xb x))) [1] hP hD hS hA rfl rfl rfl rfl) hS (fun hPc hDc => va_runSN (As := [.ref (eb 0), .int 23]) (rest := []) ⟨hx, hb, hml, hown, hts⟩ (mtX2_at l D t (eb 0) 24 ex.1 23 r1 h1 (by decide) _) ⟨va_cnB 2 hts (gB kw66) rfl rfl rfl hE.2.1 (htB _ kw2) (by decide +kernel) ⟨Nat.le_of_ble_eq_true rfl, Nat.le_of_ble_eq_true rfl⟩, (htB _ kw65), trivial⟩ (sPc_S hPc hK hDc hE) rfl rfl hl.1 rfl (lv_room (Nat.le_of_ble_eq_true rfl)) dX0_openColumns_6 ⟨Nat.zero_le _, Nat.zero_le _⟩) (fun H locs hP hD hS => ?_)
  refine lv_istore_n (lv' := [(2, .int r1), (0, .ref ea), (1, .ref xa)]) hx hb dX0_openColumns_9 rfl hl (by decide) rfl (fun ls hl => ?_)
  refine lv_iload_n hx hb dX0_openColumns_10 rfl (lv_at hl 0 rfl) ?_
  refine lv_aload_n hx hb dX0_openColumns_11 rfl (lv_at hl 2 rfl) ?_
  refine va_get (D := D) (ci := 1) (v := .ref (xb 5)) (C := RX1) (T := TX1) (N := 10) hx hb htB inlX1 hown hK hP 4 rfl rfl 5 (by decide) (htB _ kw128) (fun _ h9 => h9) rfl dX0_openColumns_12 ?_
  refine lv_iconst (v := 2) hx hb dX0_openColumns_15 (by decide) ?_
  obtain ⟨r2, h2, h⟩ := ob h
  refine call_i (v := r2) (wc := (gA t (xb 5) 4 x.2.2.2.2.2.1)) (wc' := (gA t (xb 5) 4 x.2.2.2.2.2.1)) (ws' := (gE t ea eb ex ++ (gS t xa xb x))) (cutI (wc := (gA t (xb 5) 4 x.2.2.2.2.2.1)) (wc' := (gA t (xb 5) 4 x.2.2.2.2.2.1)) (ws' := (gE t ea eb ex ++ (gS t xa xb x))) [10] hP hD hS hA rfl rfl rfl rfl) hS (fun hPc hDc => va_runSN (As := [.ref (xb 5), .int 2]) (rest := [.int r1]) ⟨hx, hb, hml, hown, hts⟩ (mtX2_at l D t (xb 5) 4 x.2.2.2.2.2.1 2 r2 h2 (by decide) _) ⟨va_cnB 2 hts (gB kw66) rfl rfl rfl hE.2.1 (htB _ kw2) (by decide +kernel) ⟨Nat.le_of_ble_eq_true rfl, Nat.le_of_ble_eq_true rfl⟩, (htB _ kw65), trivial⟩ (sPc_S hPc hK hDc hE) rfl rfl hl.1 rfl (lv_room (Nat.le_of_ble_eq_true rfl)) dX0_openColumns_16 ⟨Nat.zero_le _, Nat.zero_le _⟩) (fun H locs hP hD hS => ?_)
  refine lv_iadd hx hb dX0_openColumns_19 ?_
  refine lv_istore_n (lv' := [(3, .int (r1 + r2)), (2, .int r1), (0, .ref ea), (1, .ref xa)]) hx hb dX0_openColumns_20 rfl hl (by decide) rfl (fun ls hl => ?_)
  refine lv_bipush (v := 24) hx hb dX0_openColumns_21 (by decide) ?_
  refine lv_aload_n hx hb dX0_openColumns_23 rfl (lv_at hl 3 rfl) ?_
  obtain ⟨r3, h3, h⟩ := ob h
  refine call_i (v := r3) (wc := (gS t xa xb x)) (wc' := (gS t xa xb x)) (ws' := (gE t ea eb ex ++ (gS t xa xb x))) (cutB (bs := [gE t ea eb ex, gS t xa xb x]) (cs := [gS t xa xb x]) (cs' := [gS t xa xb x]) (bs' := [gE t ea eb ex, gS t xa xb x]) [1] hP hD hS hA rfl rfl rfl rfl) hS (fun hPc hDc => va_runV (As := []) (rest := [.int 24]) ⟨hx, hb, hml, hown, hts⟩ (mtX1_bounceColumns l D t xa xb x r3 h3 _) (cwV 0 hts (gBV kw130 kw58 kw59 kw11 kw60) rfl rfl rfl (by decide +kernel) ⟨Nat.le_of_ble_eq_true rfl, Nat.le_of_ble_eq_true rfl⟩) (sPc_V hPc hK hDc hE (va_recv hK hP (ci := 1) (q0 := 4) rfl rfl)) rfl rfl hl.1 rfl (lv_room (Nat.le_of_ble_eq_true rfl)) dX0_openColumns_24 ⟨Nat.zero_le _, Nat.zero_le _⟩) (fun H locs hP hD hS => ?_)
  refine lv_isub hx hb dX0_openColumns_27 ?_
  refine lv_istore (lv' := [(4, .int (24 - r3)), (3, .int (r1 + r2)), (2, .int r1), (0, .ref ea), (1, .ref xa)]) hx hb dX0_openColumns_28 hl (by decide) rfl (fun ls hl => ?_)
  refine lv_iconst (v := 0) hx hb dX0_openColumns_30 (by decide) ?_
  refine lv_istore (lv' := [(5, .int 0), (4, .int (24 - r3)), (3, .int (r1 + r2)), (2, .int r1), (0, .ref ea), (1, .ref xa)]) hx hb dX0_openColumns_31 hl (by decide) rfl (fun ls hl => ?_)
  exact J33 2000 (ex, r1, r1 + r2, 24 - r3, 0) h _ _ hP hD hS _ (lv_sub hl [4, 3, 2, 1, 0] rfl)

theorem dX0_sumUp_0 : decode cX0_sumUp 0 = .ok (.aload_n 0, 1) := by decide +kernel
theorem dX0_sumUp_1 : decode cX0_sumUp 1 = .ok (.iconst 0, 1) := by decide +kernel
theorem dX0_sumUp_2 : decode cX0_sumUp 2 = .ok (.putfield 78, 3) := by decide +kernel
theorem dX0_sumUp_5 : decode cX0_sumUp 5 = .ok (.aload_n 0, 1) := by decide +kernel
theorem dX0_sumUp_6 : decode cX0_sumUp 6 = .ok (.aload_n 0, 1) := by decide +kernel
theorem dX0_sumUp_7 : decode cX0_sumUp 7 = .ok (.getfield 18, 3) := by decide +kernel
theorem dX0_sumUp_10 : decode cX0_sumUp 10 = .ok (.iconst 0, 1) := by decide +kernel
theorem dX0_sumUp_11 : decode cX0_sumUp 11 = .ok (.invokestatic 55, 3) := by decide +kernel
theorem dX0_sumUp_14 : decode cX0_sumUp 14 = .ok (.putfield 25, 3) := by decide +kernel
theorem dX0_sumUp_17 : decode cX0_sumUp 17 = .ok (.aload_n 0, 1) := by decide +kernel
theorem dX0_sumUp_18 : decode cX0_sumUp 18 = .ok (.aload_n 0, 1) := by decide +kernel
theorem dX0_sumUp_19 : decode cX0_sumUp 19 = .ok (.getfield 25, 3) := by decide +kernel
theorem dX0_sumUp_22 : decode cX0_sumUp 22 = .ok (.putfield 21, 3) := by decide +kernel
theorem dX0_sumUp_25 : decode cX0_sumUp 25 = .ok (.aload_n 0, 1) := by decide +kernel
theorem dX0_sumUp_26 : decode cX0_sumUp 26 = .ok (.iconst 0, 1) := by decide +kernel
theorem dX0_sumUp_27 : decode cX0_sumUp 27 = .ok (.putfield 81, 3) := by decide +kernel
theorem dX0_sumUp_30 : decode cX0_sumUp 30 = .ok (.aload_n 0, 1) := by decide +kernel
theorem dX0_sumUp_31 : decode cX0_sumUp 31 = .ok (.iconst 0, 1) := by decide +kernel
theorem dX0_sumUp_32 : decode cX0_sumUp 32 = .ok (.putfield 84, 3) := by decide +kernel
theorem dX0_sumUp_35 : decode cX0_sumUp 35 = .ok (.aload_n 0, 1) := by decide +kernel
theorem dX0_sumUp_36 : decode cX0_sumUp 36 = .ok (.iconst 0, 1) := by decide +kernel
theorem dX0_sumUp_37 : decode cX0_sumUp 37 = .ok (.putfield 87, 3) := by decide +kernel
theorem dX0_sumUp_40 : decode cX0_sumUp 40 = .ok (.aload_n 0, 1) := by decide +kernel
theorem dX0_sumUp_41 : decode cX0_sumUp 41 = .ok (.iconst 0, 1) := by decide +kernel
theorem dX0_sumUp_42 : decode cX0_sumUp 42 = .ok (.putfield 90, 3) := by decide +kernel
theorem dX0_sumUp_45 : decode cX0_sumUp 45 = .ok (.iconst 0, 1) := by decide +kernel
theorem dX0_sumUp_46 : decode cX0_sumUp 46 = .ok (.istore_n 2, 1) := by decide +kernel
theorem dX0_sumUp_47 : decode cX0_sumUp 47 = .ok (.iload_n 2, 1) := by decide +kernel
theorem dX0_sumUp_48 : decode cX0_sumUp 48 = .ok (.aload_n 0, 1) := by decide +kernel
theorem dX0_sumUp_49 : decode cX0_sumUp 49 = .ok (.getfield 18, 3) := by decide +kernel
theorem dX0_sumUp_52 : decode cX0_sumUp 52 = .ok (.arraylength, 1) := by decide +kernel
theorem dX0_sumUp_53 : decode cX0_sumUp 53 = .ok (.if_icmp .ge 117, 3) := by decide +kernel
theorem dX0_sumUp_56 : decode cX0_sumUp 56 = .ok (.aload_n 0, 1) := by decide +kernel
theorem dX0_sumUp_57 : decode cX0_sumUp 57 = .ok (.getfield 18, 3) := by decide +kernel
theorem dX0_sumUp_60 : decode cX0_sumUp 60 = .ok (.iload_n 2, 1) := by decide +kernel
theorem dX0_sumUp_61 : decode cX0_sumUp 61 = .ok (.iaload, 1) := by decide +kernel
theorem dX0_sumUp_62 : decode cX0_sumUp 62 = .ok (.iload_n 1, 1) := by decide +kernel
theorem dX0_sumUp_63 : decode cX0_sumUp 63 = .ok (.isub, 1) := by decide +kernel
theorem dX0_sumUp_64 : decode cX0_sumUp 64 = .ok (.invokestatic 93, 3) := by decide +kernel
theorem dX0_sumUp_67 : decode cX0_sumUp 67 = .ok (.istore_n 3, 1) := by decide +kernel
theorem dX0_sumUp_68 : decode cX0_sumUp 68 = .ok (.aload_n 0, 1) := by decide +kernel
theorem dX0_sumUp_69 : decode cX0_sumUp 69 = .ok (.dup, 1) := by decide +kernel
theorem dX0_sumUp_70 : decode cX0_sumUp 70 = .ok (.getfield 78, 3) := by decide +kernel
theorem dX0_sumUp_73 : decode cX0_sumUp 73 = .ok (.aload_n 0, 1) := by decide +kernel
theorem dX0_sumUp_74 : decode cX0_sumUp 74 = .ok (.getfield 18, 3) := by decide +kernel
theorem dX0_sumUp_77 : decode cX0_sumUp 77 = .ok (.iload_n 2, 1) := by decide +kernel
theorem dX0_sumUp_78 : decode cX0_sumUp 78 = .ok (.iaload, 1) := by decide +kernel
theorem dX0_sumUp_79 : decode cX0_sumUp 79 = .ok (.iadd, 1) := by decide +kernel
theorem dX0_sumUp_80 : decode cX0_sumUp 80 = .ok (.putfield 78, 3) := by decide +kernel
theorem dX0_sumUp_83 : decode cX0_sumUp 83 = .ok (.aload_n 0, 1) := by decide +kernel
theorem dX0_sumUp_84 : decode cX0_sumUp 84 = .ok (.dup, 1) := by decide +kernel
theorem dX0_sumUp_85 : decode cX0_sumUp 85 = .ok (.getfield 81, 3) := by decide +kernel
theorem dX0_sumUp_88 : decode cX0_sumUp 88 = .ok (.iload_n 3, 1) := by decide +kernel
theorem dX0_sumUp_89 : decode cX0_sumUp 89 = .ok (.iadd, 1) := by decide +kernel
theorem dX0_sumUp_90 : decode cX0_sumUp 90 = .ok (.putfield 81, 3) := by decide +kernel
theorem dX0_sumUp_93 : decode cX0_sumUp 93 = .ok (.aload_n 0, 1) := by decide +kernel
theorem dX0_sumUp_94 : decode cX0_sumUp 94 = .ok (.aload_n 0, 1) := by decide +kernel
theorem dX0_sumUp_95 : decode cX0_sumUp 95 = .ok (.getfield 25, 3) := by decide +kernel
theorem dX0_sumUp_98 : decode cX0_sumUp 98 = .ok (.aload_n 0, 1) := by decide +kernel
theorem dX0_sumUp_99 : decode cX0_sumUp 99 = .ok (.getfield 18, 3) := by decide +kernel
theorem dX0_sumUp_102 : decode cX0_sumUp 102 = .ok (.iload_n 2, 1) := by decide +kernel
theorem dX0_sumUp_103 : decode cX0_sumUp 103 = .ok (.iaload, 1) := by decide +kernel
theorem dX0_sumUp_104 : decode cX0_sumUp 104 = .ok (.invokestatic 75, 3) := by decide +kernel
theorem dX0_sumUp_107 : decode cX0_sumUp 107 = .ok (.putfield 25, 3) := by decide +kernel
theorem dX0_sumUp_110 : decode cX0_sumUp 110 = .ok (.aload_n 0, 1) := by decide +kernel
theorem dX0_sumUp_111 : decode cX0_sumUp 111 = .ok (.aload_n 0, 1) := by decide +kernel
theorem dX0_sumUp_112 : decode cX0_sumUp 112 = .ok (.getfield 21, 3) := by decide +kernel
theorem dX0_sumUp_115 : decode cX0_sumUp 115 = .ok (.aload_n 0, 1) := by decide +kernel
theorem dX0_sumUp_116 : decode cX0_sumUp 116 = .ok (.getfield 18, 3) := by decide +kernel
theorem dX0_sumUp_119 : decode cX0_sumUp 119 = .ok (.iload_n 2, 1) := by decide +kernel
theorem dX0_sumUp_120 : decode cX0_sumUp 120 = .ok (.iaload, 1) := by decide +kernel
theorem dX0_sumUp_121 : decode cX0_sumUp 121 = .ok (.invokestatic 62, 3) := by decide +kernel
theorem dX0_sumUp_124 : decode cX0_sumUp 124 = .ok (.putfield 21, 3) := by decide +kernel
theorem dX0_sumUp_127 : decode cX0_sumUp 127 = .ok (.iload_n 3, 1) := by decide +kernel
theorem dX0_sumUp_128 : decode cX0_sumUp 128 = .ok (.aload_n 0, 1) := by decide +kernel
theorem dX0_sumUp_129 : decode cX0_sumUp 129 = .ok (.getfield 84, 3) := by decide +kernel
theorem dX0_sumUp_132 : decode cX0_sumUp 132 = .ok (.if_icmp .le 13, 3) := by decide +kernel
theorem dX0_sumUp_135 : decode cX0_sumUp 135 = .ok (.aload_n 0, 1) := by decide +kernel
theorem dX0_sumUp_136 : decode cX0_sumUp 136 = .ok (.iload_n 3, 1) := by decide +kernel
theorem dX0_sumUp_137 : decode cX0_sumUp 137 = .ok (.putfield 84, 3) := by decide +kernel
theorem dX0_sumUp_140 : decode cX0_sumUp 140 = .ok (.aload_n 0, 1) := by decide +kernel
theorem dX0_sumUp_141 : decode cX0_sumUp 141 = .ok (.iload_n 2, 1) := by decide +kernel
theorem dX0_sumUp_142 : decode cX0_sumUp 142 = .ok (.putfield 87, 3) := by decide +kernel
theorem dX0_sumUp_145 : decode cX0_sumUp 145 = .ok (.aload_n 0, 1) := by decide +kernel
theorem dX0_sumUp_146 : decode cX0_sumUp 146 = .ok (.getfield 18, 3) := by decide +kernel
theorem dX0_sumUp_149 : decode cX0_sumUp 149 = .ok (.iload_n 2, 1) := by decide +kernel
theorem dX0_sumUp_150 : decode cX0_sumUp 150 = .ok (.iaload, 1) := by decide +kernel
theorem dX0_sumUp_151 : decode cX0_sumUp 151 = .ok (.ifCond .ne 13, 3) := by decide +kernel
theorem dX0_sumUp_154 : decode cX0_sumUp 154 = .ok (.aload_n 0, 1) := by decide +kernel
theorem dX0_sumUp_155 : decode cX0_sumUp 155 = .ok (.dup, 1) := by decide +kernel
theorem dX0_sumUp_156 : decode cX0_sumUp 156 = .ok (.getfield 90, 3) := by decide +kernel
theorem dX0_sumUp_159 : decode cX0_sumUp 159 = .ok (.iconst 1, 1) := by decide +kernel
theorem dX0_sumUp_160 : decode cX0_sumUp 160 = .ok (.iadd, 1) := by decide +kernel
theorem dX0_sumUp_161 : decode cX0_sumUp 161 = .ok (.putfield 90, 3) := by decide +kernel
theorem dX0_sumUp_164 : decode cX0_sumUp 164 = .ok (.iinc 2 1, 3) := by decide +kernel
theorem dX0_sumUp_167 : decode cX0_sumUp 167 = .ok (.goto (-120), 3) := by decide +kernel
theorem dX0_sumUp_170 : decode cX0_sumUp 170 = .ok (.return_, 1) := by decide +kernel
abbrev zX0_sumUp : List Cond := .code yX0_sumUp cX0_sumUp 4 none :: BIG
def fX0_sumUp_j145  (K47 : (ExT × Int32 × Int32) → Option (ExT)) (v145 : ExT × Int32 × Int32) : Option (ExT) := gd (pin v145.2.2 24) ((if (v145.1.2.2.1 (Int32.toNatClampNeg v145.2.2)) = 0 then K47 ((v145.1.1, v145.1.2.1, v145.1.2.2.1, v145.1.2.2.2.1, v145.1.2.2.2.2.1, v145.1.2.2.2.2.2.1, v145.1.2.2.2.2.2.2.1, v145.1.2.2.2.2.2.2.2.1, v145.1.2.2.2.2.2.2.2.2.1, (v145.1.2.2.2.2.2.2.2.2.2 + 1)), v145.2.1, v145.2.2 + 1) else K47 (v145.1, v145.2.1, v145.2.2 + 1)))
def fX0_sumUp_l47   (K47 : (ExT × Int32 × Int32) → Option (ExT)) (v47 : ExT × Int32 × Int32) : Option (ExT) := (if 24 ≤ v47.2.2 then some v47.1 else gd (pin v47.2.2 24) ((if (iabs ((v47.1.2.2.1 (Int32.toNatClampNeg v47.2.2)) - v47.2.1)) ≤ v47.1.2.2.2.2.2.2.2.1 then fX0_sumUp_j145 K47 ((v47.1.1, v47.1.2.1, v47.1.2.2.1, (v47.1.2.2.2.1 + (v47.1.2.2.1 (Int32.toNatClampNeg v47.2.2))), (imin v47.1.2.2.2.2.1 (v47.1.2.2.1 (Int32.toNatClampNeg v47.2.2))), (imax v47.1.2.2.2.2.2.1 (v47.1.2.2.1 (Int32.toNatClampNeg v47.2.2))), (v47.1.2.2.2.2.2.2.1 + (iabs ((v47.1.2.2.1 (Int32.toNatClampNeg v47.2.2)) - v47.2.1))), v47.1.2.2.2.2.2.2.2.1, v47.1.2.2.2.2.2.2.2.2.1, v47.1.2.2.2.2.2.2.2.2.2), v47.2.1, v47.2.2) else fX0_sumUp_j145 K47 ((v47.1.1, v47.1.2.1, v47.1.2.2.1, (v47.1.2.2.2.1 + (v47.1.2.2.1 (Int32.toNatClampNeg v47.2.2))), (imin v47.1.2.2.2.2.1 (v47.1.2.2.1 (Int32.toNatClampNeg v47.2.2))), (imax v47.1.2.2.2.2.2.1 (v47.1.2.2.1 (Int32.toNatClampNeg v47.2.2))), (v47.1.2.2.2.2.2.2.1 + (iabs ((v47.1.2.2.1 (Int32.toNatClampNeg v47.2.2)) - v47.2.1))), (iabs ((v47.1.2.2.1 (Int32.toNatClampNeg v47.2.2)) - v47.2.1)), v47.2.2, v47.1.2.2.2.2.2.2.2.2.2), v47.2.1, v47.2.2))))
def fX0_sumUp (ex : ExT) (w : Int32) : Option (ExT) := (fX2_at 24 ex.2.2.1 0).bind (fun r1 => lp (fX0_sumUp_l47) 2000 ((ex.1, ex.2.1, ex.2.2.1, 0, r1, r1, 0, 0, 0, 0), w, 0))
set_option maxHeartbeats 4000000 in
set_option maxRecDepth 100000 in
theorem mtX0_sumUp (l : Launch) (D : va_G) (t : Nat → ClassId) (ea : Nat) (eb : Nat → Nat) (ex : ExT) (w : Int32) (out : ExT) (h : fX0_sumUp ex w = some out)  (sz : Nat) : Met l yX0_sumUp zX0_sumUp ({ frames := 1, cells := 0, slots := 0, locals := 21 }) (sPc D t (gE t ea eb ex) sz [.ref ea, .int w]) (qV D t (gE t ea eb out) (va_A (gE t ea eb ex) sz)) 0 0 (va_A (gE t ea eb ex) sz) := by
  refine met_of (Qf := fun A => qV D t (gE t ea eb out) A) (cc := cX0_sumUp) (maxL := 4) (ret := none) (by decide) rfl (Nat.le_of_ble_eq_true rfl) ?_
  intro p e s m args below meth c A hx hb hr hml hts hown hlocks hA hP hK hD hE hS ls hl
  have htB : ∀ w ∈ BIG, w.before args s = true := fun w h => hts w (List.mem_cons_of_mem _ h)
  have hown : s.vm.findClass RX0 = some m.cls := hown
  have hl : lv_has ls 4 [(0, .ref ea), (1, .int w)] := hl
  unfold fX0_sumUp at h
  have J47 : ∀ (fu47 : Nat) (v47 : ExT × Int32 × Int32), lp (fX0_sumUp_l47) fu47 v47 = some out → ∀ (H : Heap) (locs : List Loc), va_P D vwCl (gE t ea eb v47.1) H → va_D A (gE t ea eb v47.1) → va_S A s.heap H locs → ∀ ls : Array Slot, lv_has ls 4 [(0, .ref ea), (1, .int v47.2.1), (2, .int v47.2.2)] → W p l e ({ frames := 1, cells := 0, slots := 0, locals := 21 }) s m args below meth c H locs 0 0 (MQ below (qV D t (gE t ea eb out) A) args s 0 0 A) (F0 m 47 ls []) := by
    intro fu47
    induction fu47 with
    | zero => intro v47 h; cases h
    | succ fu47 ih47 =>
      intro v47 h H locs hP hD hS ls hl
      have h : fX0_sumUp_l47 (lp (fX0_sumUp_l47) fu47) v47 = some out := h
      unfold fX0_sumUp_l47 at h
      have J145 : ∀ v145 : ExT × Int32 × Int32, fX0_sumUp_j145 (lp (fX0_sumUp_l47) fu47) v145 = some out → ∀ (H : Heap) (locs : List Loc), va_P D vwCl (gE t ea eb v145.1) H → va_D A (gE t ea eb v145.1) → va_S A s.heap H locs → ∀ ls : Array Slot, lv_has ls 4 [(0, .ref ea), (1, .int v145.2.1), (2, .int v145.2.2)] → W p l e ({ frames := 1, cells := 0, slots := 0, locals := 21 }) s m args below meth c H locs 0 0 (MQ below (qV D t (gE t ea eb out) A) args s 0 0 A) (F0 m 145 ls []) := by
        intro v145 h H locs hP hD hS ls hl
        unfold fX0_sumUp_j145 at h
        refine lv_aload_n hx hb dX0_sumUp_145 rfl (lv_at hl 0 rfl) ?_
        refine va_get (D := D) (ci := 0) (v := .ref (eb 2)) (C := RX0) (T := TX0) (N := 10) hx hb htB inlX0 hown hK hP 0 rfl rfl 2 (by decide) (htB _ kw44) (fun _ h9 => h9) rfl dX0_sumUp_146 ?_
        refine lv_iload_n hx hb dX0_sumUp_149 rfl (lv_at hl 2 rfl) ?_
        obtain ⟨g5, h⟩ := og h
        refine va_iald hx hb hK hP 3 0 rfl rfl (pin_in g5) dX0_sumUp_150 ?_
        refine lv_if_ne (tgt := 164) hx hb dX0_sumUp_151 (by decide) (fun c6 => ?_) (fun c6 => ?_)
        · have h := it_n c6 h
          refine lv_iinc (v := v145.2.2 + 1) (lv' := [(2, .int (v145.2.2 + 1)), (0, .ref ea), (1, .int v145.2.1)]) hx hb dX0_sumUp_164 hl (k := 2) rfl rfl (by decide) rfl (fun ls hl => ?_)
          refine lv_goto (tgt := 47) hx hb dX0_sumUp_167 (by decide) ?_
          exact ih47 (v145.1, v145.2.1, v145.2.2 + 1) h _ _ hP hD hS _ (lv_sub hl [1, 2, 0] rfl)
        · have h := it_p c6 h
          refine lv_aload_n hx hb dX0_sumUp_154 rfl (lv_at hl 0 rfl) ?_
          refine lv_dup hx hb dX0_sumUp_155 rfl ?_
          refine va_get (D := D) (ci := 0) (v := .int v145.1.2.2.2.2.2.2.2.2.2) (C := RX0) (T := TX0) (N := 10) hx hb htB inlX0 hown hK hP 0 rfl rfl 9 (by decide) (htB _ kw141) (fun _ h9 => h9) rfl dX0_sumUp_156 ?_
          refine lv_iconst (v := 1) hx hb dX0_sumUp_159 (by decide) ?_
          refine lv_iadd hx hb dX0_sumUp_160 ?_
          refine va_put (D := D) (ci := 0) (v := .int (v145.1.2.2.2.2.2.2.2.2.2 + 1)) (ty := .int) (C := RX0) (T := TX0) (N := 10) hx hb htB inlX0 tyX0 tyX0_ok nmX0 hown hK hP hD hS 0 rfl rfl 9 (by decide) (htB _ kw141) (fun _ h9 => h9) rfl (by decide +kernel) rfl rfl (Nat.le_of_ble_eq_true rfl) dX0_sumUp_161 (fun H locs hP hD hS => ?_)
          have hP : va_P D vwCl (gE t ea eb (v145.1.1, v145.1.2.1, v145.1.2.2.1, v145.1.2.2.2.1, v145.1.2.2.2.2.1, v145.1.2.2.2.2.2.1, v145.1.2.2.2.2.2.2.1, v145.1.2.2.2.2.2.2.2.1, v145.1.2.2.2.2.2.2.2.2.1, (v145.1.2.2.2.2.2.2.2.2.2 + 1))) H := hP
          have hD : va_D A (gE t ea eb (v145.1.1, v145.1.2.1, v145.1.2.2.1, v145.1.2.2.2.1, v145.1.2.2.2.2.1, v145.1.2.2.2.2.2.1, v145.1.2.2.2.2.2.2.1, v145.1.2.2.2.2.2.2.2.1, v145.1.2.2.2.2.2.2.2.2.1, (v145.1.2.2.2.2.2.2.2.2.2 + 1))) := hD
          refine lv_iinc (v := v145.2.2 + 1) (lv' := [(2, .int (v145.2.2 + 1)), (0, .ref ea), (1, .int v145.2.1)]) hx hb dX0_sumUp_164 hl (k := 2) rfl rfl (by decide) rfl (fun ls hl => ?_)
          refine lv_goto (tgt := 47) hx hb dX0_sumUp_167 (by decide) ?_
          exact ih47 ((v145.1.1, v145.1.2.1, v145.1.2.2.1, v145.1.2.2.2.1, v145.1.2.2.2.2.1, v145.1.2.2.2.2.2.1, v145.1.2.2.2.2.2.2.1, v145.1.2.2.2.2.2.2.2.1, v145.1.2.2.2.2.2.2.2.2.1, (v145.1.2.2.2.2.2.2.2.2.2 + 1)), v145.2.1, v145.2.2 + 1) h _ _ hP hD hS _ (lv_sub hl [1, 2, 0] rfl)
      refine lv_iload_n hx hb dX0_sumUp_47 rfl (lv_at hl 2 rfl) ?_
      refine lv_aload_n hx hb dX0_sumUp_48 rfl (lv_at hl 0 rfl) ?_
      refine va_get (D := D) (ci := 0) (v := .ref (eb 2)) (C := RX0) (T := TX0) (N := 10) hx hb htB inlX0 hown hK hP 0 rfl rfl 2 (by decide) (htB _ kw44) (fun _ h9 => h9) rfl dX0_sumUp_49 ?_
      refine va_alen (v := 24) hx hb hK hP 3 0 rfl rfl rfl dX0_sumUp_52 ?_
      refine lv_icmp_ge (tgt := 170) hx hb dX0_sumUp_53 (by decide) (fun c2 => ?_) (fun c2 => ?_)
      · have h := it_p c2 h
        obtain rfl := os h
        exact ret_v hx hb hr hlocks hP hK hD hS dX0_sumUp_170
      · have h := it_n c2 h
        refine lv_aload_n hx hb dX0_sumUp_56 rfl (lv_at hl 0 rfl) ?_
        refine va_get (D := D) (ci := 0) (v := .ref (eb 2)) (C := RX0) (T := TX0) (N := 10) hx hb htB inlX0 hown hK hP 0 rfl rfl 2 (by decide) (htB _ kw44) (fun _ h9 => h9) rfl dX0_sumUp_57 ?_
        refine lv_iload_n hx hb dX0_sumUp_60 rfl (lv_at hl 2 rfl) ?_
        obtain ⟨g3, h⟩ := og h
        refine va_iald hx hb hK hP 3 0 rfl rfl (pin_in g3) dX0_sumUp_61 ?_
        refine lv_iload_n hx hb dX0_sumUp_62 rfl (lv_at hl 1 rfl) ?_
        refine lv_isub hx hb dX0_sumUp_63 ?_
        refine va_mabs hx hb (by rw [hml]; exact hl.1.symm) hown (htB _ kw142) (htB _ kw143) (htB _ kw63) (htB _ kw144) (Nat.le_of_ble_eq_true rfl) (Nat.le_of_ble_eq_true rfl) (Nat.zero_le _) (Nat.zero_le _) dX0_sumUp_64 ?_
        refine lv_istore_n (lv' := [(3, .int (iabs ((v47.1.2.2.1 (Int32.toNatClampNeg v47.2.2)) - v47.2.1))), (0, .ref ea), (1, .int v47.2.1), (2, .int v47.2.2)]) hx hb dX0_sumUp_67 rfl hl (by decide) rfl (fun ls hl => ?_)
        refine lv_aload_n hx hb dX0_sumUp_68 rfl (lv_at hl 1 rfl) ?_
        refine lv_dup hx hb dX0_sumUp_69 rfl ?_
        refine va_get (D := D) (ci := 0) (v := .int v47.1.2.2.2.1) (C := RX0) (T := TX0) (N := 10) hx hb htB inlX0 hown hK hP 0 rfl rfl 3 (by decide) (htB _ kw135) (fun _ h9 => h9) rfl dX0_sumUp_70 ?_
        refine lv_aload_n hx hb dX0_sumUp_73 rfl (lv_at hl 1 rfl) ?_
        refine va_get (D := D) (ci := 0) (v := .ref (eb 2)) (C := RX0) (T := TX0) (N := 10) hx hb htB inlX0 hown hK hP 0 rfl rfl 2 (by decide) (htB _ kw44) (fun _ h9 => h9) rfl dX0_sumUp_74 ?_
        refine lv_iload_n hx hb dX0_sumUp_77 rfl (lv_at hl 3 rfl) ?_
        refine va_iald hx hb hK hP 3 0 rfl rfl (pin_in g3) dX0_sumUp_78 ?_
        refine lv_iadd hx hb dX0_sumUp_79 ?_
        refine va_put (D := D) (ci := 0) (v := .int (v47.1.2.2.2.1 + (v47.1.2.2.1 (Int32.toNatClampNeg v47.2.2)))) (ty := .int) (C := RX0) (T := TX0) (N := 10) hx hb htB inlX0 tyX0 tyX0_ok nmX0 hown hK hP hD hS 0 rfl rfl 3 (by decide) (htB _ kw135) (fun _ h9 => h9) rfl (by decide +kernel) rfl rfl (Nat.le_of_ble_eq_true rfl) dX0_sumUp_80 (fun H locs hP hD hS => ?_)
        have hP : va_P D vwCl (gE t ea eb (v47.1.1, v47.1.2.1, v47.1.2.2.1, (v47.1.2.2.2.1 + (v47.1.2.2.1 (Int32.toNatClampNeg v47.2.2))), v47.1.2.2.2.2.1, v47.1.2.2.2.2.2.1, v47.1.2.2.2.2.2.2.1, v47.1.2.2.2.2.2.2.2.1, v47.1.2.2.2.2.2.2.2.2.1, v47.1.2.2.2.2.2.2.2.2.2)) H := hP
        have hD : va_D A (gE t ea eb (v47.1.1, v47.1.2.1, v47.1.2.2.1, (v47.1.2.2.2.1 + (v47.1.2.2.1 (Int32.toNatClampNeg v47.2.2))), v47.1.2.2.2.2.1, v47.1.2.2.2.2.2.1, v47.1.2.2.2.2.2.2.1, v47.1.2.2.2.2.2.2.2.1, v47.1.2.2.2.2.2.2.2.2.1, v47.1.2.2.2.2.2.2.2.2.2)) := hD
        refine lv_aload_n hx hb dX0_sumUp_83 rfl (lv_at hl 1 rfl) ?_
        refine lv_dup hx hb dX0_sumUp_84 rfl ?_
        refine va_get (D := D) (ci := 0) (v := .int v47.1.2.2.2.2.2.2.1) (C := RX0) (T := TX0) (N := 10) hx hb htB inlX0 hown hK hP 0 rfl rfl 6 (by decide) (htB _ kw138) (fun _ h9 => h9) rfl dX0_sumUp_85 ?_
        refine lv_iload_n hx hb dX0_sumUp_88 rfl (lv_at hl 0 rfl) ?_
        refine lv_iadd hx hb dX0_sumUp_89 ?_
        refine va_put (D := D) (ci := 0) (v := .int (v47.1.2.2.2.2.2.2.1 + (iabs ((v47.1.2.2.1 (Int32.toNatClampNeg v47.2.2)) - v47.2.1)))) (ty := .int) (C := RX0) (T := TX0) (N := 10) hx hb htB inlX0 tyX0 tyX0_ok nmX0 hown hK hP hD hS 0 rfl rfl 6 (by decide) (htB _ kw138) (fun _ h9 => h9) rfl (by decide +kernel) rfl rfl (Nat.le_of_ble_eq_true rfl) dX0_sumUp_90 (fun H locs hP hD hS => ?_)
        have hP : va_P D vwCl (gE t ea eb (v47.1.1, v47.1.2.1, v47.1.2.2.1, (v47.1.2.2.2.1 + (v47.1.2.2.1 (Int32.toNatClampNeg v47.2.2))), v47.1.2.2.2.2.1, v47.1.2.2.2.2.2.1, (v47.1.2.2.2.2.2.2.1 + (iabs ((v47.1.2.2.1 (Int32.toNatClampNeg v47.2.2)) - v47.2.1))), v47.1.2.2.2.2.2.2.2.1, v47.1.2.2.2.2.2.2.2.2.1, v47.1.2.2.2.2.2.2.2.2.2)) H := hP
        have hD : va_D A (gE t ea eb (v47.1.1, v47.1.2.1, v47.1.2.2.1, (v47.1.2.2.2.1 + (v47.1.2.2.1 (Int32.toNatClampNeg v47.2.2))), v47.1.2.2.2.2.1, v47.1.2.2.2.2.2.1, (v47.1.2.2.2.2.2.2.1 + (iabs ((v47.1.2.2.1 (Int32.toNatClampNeg v47.2.2)) - v47.2.1))), v47.1.2.2.2.2.2.2.2.1, v47.1.2.2.2.2.2.2.2.2.1, v47.1.2.2.2.2.2.2.2.2.2)) := hD
        refine lv_aload_n hx hb dX0_sumUp_93 rfl (lv_at hl 1 rfl) ?_
        refine lv_aload_n hx hb dX0_sumUp_94 rfl (lv_at hl 1 rfl) ?_
        refine va_get (D := D) (ci := 0) (v := .int v47.1.2.2.2.2.1) (C := RX0) (T := TX0) (N := 10) hx hb htB inlX0 hown hK hP 0 rfl rfl 4 (by decide) (htB _ kw136) (fun _ h9 => h9) rfl dX0_sumUp_95 ?_
        refine lv_aload_n hx hb dX0_sumUp_98 rfl (lv_at hl 1 rfl) ?_
        refine va_get (D := D) (ci := 0) (v := .ref (eb 2)) (C := RX0) (T := TX0) (N := 10) hx hb htB inlX0 hown hK hP 0 rfl rfl 2 (by decide) (htB _ kw44) (fun _ h9 => h9) rfl dX0_sumUp_99 ?_
        refine lv_iload_n hx hb dX0_sumUp_102 rfl (lv_at hl 3 rfl) ?_
        refine va_iald hx hb hK hP 3 0 rfl rfl (pin_in g3) dX0_sumUp_103 ?_
        refine va_mmin hx hb (by rw [hml]; exact hl.1.symm) hown (htB _ kw129) (htB _ kw62) (htB _ kw63) (htB _ kw64) (Nat.le_of_ble_eq_true rfl) (Nat.le_of_ble_eq_true rfl) (Nat.zero_le _) (Nat.zero_le _) dX0_sumUp_104 ?_
        refine va_put (D := D) (ci := 0) (v := .int (imin v47.1.2.2.2.2.1 (v47.1.2.2.1 (Int32.toNatClampNeg v47.2.2)))) (ty := .int) (C := RX0) (T := TX0) (N := 10) hx hb htB inlX0 tyX0 tyX0_ok nmX0 hown hK hP hD hS 0 rfl rfl 4 (by decide) (htB _ kw136) (fun _ h9 => h9) rfl (by decide +kernel) rfl rfl (Nat.le_of_ble_eq_true rfl) dX0_sumUp_107 (fun H locs hP hD hS => ?_)
        have hP : va_P D vwCl (gE t ea eb (v47.1.1, v47.1.2.1, v47.1.2.2.1, (v47.1.2.2.2.1 + (v47.1.2.2.1 (Int32.toNatClampNeg v47.2.2))), (imin v47.1.2.2.2.2.1 (v47.1.2.2.1 (Int32.toNatClampNeg v47.2.2))), v47.1.2.2.2.2.2.1, (v47.1.2.2.2.2.2.2.1 + (iabs ((v47.1.2.2.1 (Int32.toNatClampNeg v47.2.2)) - v47.2.1))), v47.1.2.2.2.2.2.2.2.1, v47.1.2.2.2.2.2.2.2.2.1, v47.1.2.2.2.2.2.2.2.2.2)) H := hP
        have hD : va_D A (gE t ea eb (v47.1.1, v47.1.2.1, v47.1.2.2.1, (v47.1.2.2.2.1 + (v47.1.2.2.1 (Int32.toNatClampNeg v47.2.2))), (imin v47.1.2.2.2.2.1 (v47.1.2.2.1 (Int32.toNatClampNeg v47.2.2))), v47.1.2.2.2.2.2.1, (v47.1.2.2.2.2.2.2.1 + (iabs ((v47.1.2.2.1 (Int32.toNatClampNeg v47.2.2)) - v47.2.1))), v47.1.2.2.2.2.2.2.2.1, v47.1.2.2.2.2.2.2.2.2.1, v47.1.2.2.2.2.2.2.2.2.2)) := hD
        refine lv_aload_n hx hb dX0_sumUp_110 rfl (lv_at hl 1 rfl) ?_
        refine lv_aload_n hx hb dX0_sumUp_111 rfl (lv_at hl 1 rfl) ?_
        refine va_get (D := D) (ci := 0) (v := .int v47.1.2.2.2.2.2.1) (C := RX0) (T := TX0) (N := 10) hx hb htB inlX0 hown hK hP 0 rfl rfl 5 (by decide) (htB _ kw137) (fun _ h9 => h9) rfl dX0_sumUp_112 ?_
        refine lv_aload_n hx hb dX0_sumUp_115 rfl (lv_at hl 1 rfl) ?_
        refine va_get (D := D) (ci := 0) (v := .ref (eb 2)) (C := RX0) (T := TX0) (N := 10) hx hb htB inlX0 hown hK hP 0 rfl rfl 2 (by decide) (htB _ kw44) (fun _ h9 => h9) rfl dX0_sumUp_116 ?_
        refine lv_iload_n hx hb dX0_sumUp_119 rfl (lv_at hl 3 rfl) ?_
        refine va_iald hx hb hK hP 3 0 rfl rfl (pin_in g3) dX0_sumUp_120 ?_
        refine va_mmax hx hb (by rw [hml]; exact hl.1.symm) hown (htB _ kw110) (htB _ kw111) (htB _ kw63) (htB _ kw112) (Nat.le_of_ble_eq_true rfl) (Nat.le_of_ble_eq_true rfl) (Nat.zero_le _) (Nat.zero_le _) dX0_sumUp_121 ?_
        refine va_put (D := D) (ci := 0) (v := .int (imax v47.1.2.2.2.2.2.1 (v47.1.2.2.1 (Int32.toNatClampNeg v47.2.2)))) (ty := .int) (C := RX0) (T := TX0) (N := 10) hx hb htB inlX0 tyX0 tyX0_ok nmX0 hown hK hP hD hS 0 rfl rfl 5 (by decide) (htB _ kw137) (fun _ h9 => h9) rfl (by decide +kernel) rfl rfl (Nat.le_of_ble_eq_true rfl) dX0_sumUp_124 (fun H locs hP hD hS => ?_)
        have hP : va_P D vwCl (gE t ea eb (v47.1.1, v47.1.2.1, v47.1.2.2.1, (v47.1.2.2.2.1 + (v47.1.2.2.1 (Int32.toNatClampNeg v47.2.2))), (imin v47.1.2.2.2.2.1 (v47.1.2.2.1 (Int32.toNatClampNeg v47.2.2))), (imax v47.1.2.2.2.2.2.1 (v47.1.2.2.1 (Int32.toNatClampNeg v47.2.2))), (v47.1.2.2.2.2.2.2.1 + (iabs ((v47.1.2.2.1 (Int32.toNatClampNeg v47.2.2)) - v47.2.1))), v47.1.2.2.2.2.2.2.2.1, v47.1.2.2.2.2.2.2.2.2.1, v47.1.2.2.2.2.2.2.2.2.2)) H := hP
        have hD : va_D A (gE t ea eb (v47.1.1, v47.1.2.1, v47.1.2.2.1, (v47.1.2.2.2.1 + (v47.1.2.2.1 (Int32.toNatClampNeg v47.2.2))), (imin v47.1.2.2.2.2.1 (v47.1.2.2.1 (Int32.toNatClampNeg v47.2.2))), (imax v47.1.2.2.2.2.2.1 (v47.1.2.2.1 (Int32.toNatClampNeg v47.2.2))), (v47.1.2.2.2.2.2.2.1 + (iabs ((v47.1.2.2.1 (Int32.toNatClampNeg v47.2.2)) - v47.2.1))), v47.1.2.2.2.2.2.2.2.1, v47.1.2.2.2.2.2.2.2.2.1, v47.1.2.2.2.2.2.2.2.2.2)) := hD
        refine lv_iload_n hx hb dX0_sumUp_127 rfl (lv_at hl 0 rfl) ?_
        refine lv_aload_n hx hb dX0_sumUp_128 rfl (lv_at hl 1 rfl) ?_
        refine va_get (D := D) (ci := 0) (v := .int v47.1.2.2.2.2.2.2.2.1) (C := RX0) (T := TX0) (N := 10) hx hb htB inlX0 hown hK hP 0 rfl rfl 7 (by decide) (htB _ kw139) (fun _ h9 => h9) rfl dX0_sumUp_129 ?_
        refine lv_icmp_le (tgt := 145) hx hb dX0_sumUp_132 (by decide) (fun c4 => ?_) (fun c4 => ?_)
        · have h := it_p c4 h
          exact J145 ((v47.1.1, v47.1.2.1, v47.1.2.2.1, (v47.1.2.2.2.1 + (v47.1.2.2.1 (Int32.toNatClampNeg v47.2.2))), (imin v47.1.2.2.2.2.1 (v47.1.2.2.1 (Int32.toNatClampNeg v47.2.2))), (imax v47.1.2.2.2.2.2.1 (v47.1.2.2.1 (Int32.toNatClampNeg v47.2.2))), (v47.1.2.2.2.2.2.2.1 + (iabs ((v47.1.2.2.1 (Int32.toNatClampNeg v47.2.2)) - v47.2.1))), v47.1.2.2.2.2.2.2.2.1, v47.1.2.2.2.2.2.2.2.2.1, v47.1.2.2.2.2.2.2.2.2.2), v47.2.1, v47.2.2) h _ _ hP hD hS _ (lv_sub hl [1, 2, 3] rfl)
        · have h := it_n c4 h
          refine lv_aload_n hx hb dX0_sumUp_135 rfl (lv_at hl 1 rfl) ?_
          refine lv_iload_n hx hb dX0_sumUp_136 rfl (lv_at hl 0 rfl) ?_
          refine va_put (D := D) (ci := 0) (v := .int (iabs ((v47.1.2.2.1 (Int32.toNatClampNeg v47.2.2)) - v47.2.1))) (ty := .int) (C := RX0) (T := TX0) (N := 10) hx hb htB inlX0 tyX0 tyX0_ok nmX0 hown hK hP hD hS 0 rfl rfl 7 (by decide) (htB _ kw139) (fun _ h9 => h9) rfl (by decide +kernel) rfl rfl (Nat.le_of_ble_eq_true rfl) dX0_sumUp_137 (fun H locs hP hD hS => ?_)
          have hP : va_P D vwCl (gE t ea eb (v47.1.1, v47.1.2.1, v47.1.2.2.1, (v47.1.2.2.2.1 + (v47.1.2.2.1 (Int32.toNatClampNeg v47.2.2))), (imin v47.1.2.2.2.2.1 (v47.1.2.2.1 (Int32.toNatClampNeg v47.2.2))), (imax v47.1.2.2.2.2.2.1 (v47.1.2.2.1 (Int32.toNatClampNeg v47.2.2))), (v47.1.2.2.2.2.2.2.1 + (iabs ((v47.1.2.2.1 (Int32.toNatClampNeg v47.2.2)) - v47.2.1))), (iabs ((v47.1.2.2.1 (Int32.toNatClampNeg v47.2.2)) - v47.2.1)), v47.1.2.2.2.2.2.2.2.2.1, v47.1.2.2.2.2.2.2.2.2.2)) H := hP
          have hD : va_D A (gE t ea eb (v47.1.1, v47.1.2.1, v47.1.2.2.1, (v47.1.2.2.2.1 + (v47.1.2.2.1 (Int32.toNatClampNeg v47.2.2))), (imin v47.1.2.2.2.2.1 (v47.1.2.2.1 (Int32.toNatClampNeg v47.2.2))), (imax v47.1.2.2.2.2.2.1 (v47.1.2.2.1 (Int32.toNatClampNeg v47.2.2))), (v47.1.2.2.2.2.2.2.1 + (iabs ((v47.1.2.2.1 (Int32.toNatClampNeg v47.2.2)) - v47.2.1))), (iabs ((v47.1.2.2.1 (Int32.toNatClampNeg v47.2.2)) - v47.2.1)), v47.1.2.2.2.2.2.2.2.2.1, v47.1.2.2.2.2.2.2.2.2.2)) := hD
          refine lv_aload_n hx hb dX0_sumUp_140 rfl (lv_at hl 1 rfl) ?_
          refine lv_iload_n hx hb dX0_sumUp_141 rfl (lv_at hl 3 rfl) ?_
          refine va_put (D := D) (ci := 0) (v := .int v47.2.2) (ty := .int) (C := RX0) (T := TX0) (N := 10) hx hb htB inlX0 tyX0 tyX0_ok nmX0 hown hK hP hD hS 0 rfl rfl 8 (by decide) (htB _ kw140) (fun _ h9 => h9) rfl (by decide +kernel) rfl rfl (Nat.le_of_ble_eq_true rfl) dX0_sumUp_142 (fun H locs hP hD hS => ?_)
          have hP : va_P D vwCl (gE t ea eb (v47.1.1, v47.1.2.1, v47.1.2.2.1, (v47.1.2.2.2.1 + (v47.1.2.2.1 (Int32.toNatClampNeg v47.2.2))), (imin v47.1.2.2.2.2.1 (v47.1.2.2.1 (Int32.toNatClampNeg v47.2.2))), (imax v47.1.2.2.2.2.2.1 (v47.1.2.2.1 (Int32.toNatClampNeg v47.2.2))), (v47.1.2.2.2.2.2.2.1 + (iabs ((v47.1.2.2.1 (Int32.toNatClampNeg v47.2.2)) - v47.2.1))), (iabs ((v47.1.2.2.1 (Int32.toNatClampNeg v47.2.2)) - v47.2.1)), v47.2.2, v47.1.2.2.2.2.2.2.2.2.2)) H := hP
          have hD : va_D A (gE t ea eb (v47.1.1, v47.1.2.1, v47.1.2.2.1, (v47.1.2.2.2.1 + (v47.1.2.2.1 (Int32.toNatClampNeg v47.2.2))), (imin v47.1.2.2.2.2.1 (v47.1.2.2.1 (Int32.toNatClampNeg v47.2.2))), (imax v47.1.2.2.2.2.2.1 (v47.1.2.2.1 (Int32.toNatClampNeg v47.2.2))), (v47.1.2.2.2.2.2.2.1 + (iabs ((v47.1.2.2.1 (Int32.toNatClampNeg v47.2.2)) - v47.2.1))), (iabs ((v47.1.2.2.1 (Int32.toNatClampNeg v47.2.2)) - v47.2.1)), v47.2.2, v47.1.2.2.2.2.2.2.2.2.2)) := hD
          exact J145 ((v47.1.1, v47.1.2.1, v47.1.2.2.1, (v47.1.2.2.2.1 + (v47.1.2.2.1 (Int32.toNatClampNeg v47.2.2))), (imin v47.1.2.2.2.2.1 (v47.1.2.2.1 (Int32.toNatClampNeg v47.2.2))), (imax v47.1.2.2.2.2.2.1 (v47.1.2.2.1 (Int32.toNatClampNeg v47.2.2))), (v47.1.2.2.2.2.2.2.1 + (iabs ((v47.1.2.2.1 (Int32.toNatClampNeg v47.2.2)) - v47.2.1))), (iabs ((v47.1.2.2.1 (Int32.toNatClampNeg v47.2.2)) - v47.2.1)), v47.2.2, v47.1.2.2.2.2.2.2.2.2.2), v47.2.1, v47.2.2) h _ _ hP hD hS _ (lv_sub hl [1, 2, 3] rfl)
  refine lv_aload_n hx hb dX0_sumUp_0 rfl (lv_at hl 0 rfl) ?_
  refine lv_iconst (v := 0) hx hb dX0_sumUp_1 (by decide) ?_
  refine va_put (D := D) (ci := 0) (v := .int 0) (ty := .int) (C := RX0) (T := TX0) (N := 10) hx hb htB inlX0 tyX0 tyX0_ok nmX0 hown hK hP hD hS 0 rfl rfl 3 (by decide) (htB _ kw135) (fun _ h9 => h9) rfl (by decide +kernel) rfl rfl (Nat.le_of_ble_eq_true rfl) dX0_sumUp_2 (fun H locs hP hD hS => ?_)
  have hP : va_P D vwCl (gE t ea eb (ex.1, ex.2.1, ex.2.2.1, 0, ex.2.2.2.2.1, ex.2.2.2.2.2.1, ex.2.2.2.2.2.2.1, ex.2.2.2.2.2.2.2.1, ex.2.2.2.2.2.2.2.2.1, ex.2.2.2.2.2.2.2.2.2)) H := hP
  have hD : va_D A (gE t ea eb (ex.1, ex.2.1, ex.2.2.1, 0, ex.2.2.2.2.1, ex.2.2.2.2.2.1, ex.2.2.2.2.2.2.1, ex.2.2.2.2.2.2.2.1, ex.2.2.2.2.2.2.2.2.1, ex.2.2.2.2.2.2.2.2.2)) := hD
  refine lv_aload_n hx hb dX0_sumUp_5 rfl (lv_at hl 0 rfl) ?_
  refine lv_aload_n hx hb dX0_sumUp_6 rfl (lv_at hl 0 rfl) ?_
  refine va_get (D := D) (ci := 0) (v := .ref (eb 2)) (C := RX0) (T := TX0) (N := 10) hx hb htB inlX0 hown hK hP 0 rfl rfl 2 (by decide) (htB _ kw44) (fun _ h9 => h9) rfl dX0_sumUp_7 ?_
  refine lv_iconst (v := 0) hx hb dX0_sumUp_10 (by decide) ?_
  obtain ⟨r1, h1, h⟩ := ob h
  refine call_i (v := r1) (wc := (gA t (eb 2) 24 ex.2.2.1)) (wc' := (gA t (eb 2) 24 ex.2.2.1)) (ws' := (gE t ea eb (ex.1, ex.2.1, ex.2.2.1, 0, ex.2.2.2.2.1, ex.2.2.2.2.2.1, ex.2.2.2.2.2.2.1, ex.2.2.2.2.2.2.2.1, ex.2.2.2.2.2.2.2.2.1, ex.2.2.2.2.2.2.2.2.2))) (cutI (wc := (gA t (eb 2) 24 ex.2.2.1)) (wc' := (gA t (eb 2) 24 ex.2.2.1)) (ws' := (gE t ea eb (ex.1, ex.2.1, ex.2.2.1, 0, ex.2.2.2.2.1, ex.2.2.2.2.2.1, ex.2.2.2.2.2.2.1, ex.2.2.2.2.2.2.2.1, ex.2.2.2.2.2.2.2.2.1, ex.2.2.2.2.2.2.2.2.2))) [3] hP hD hS hA rfl rfl rfl rfl) hS (fun hPc hDc => va_runSN (As := [.ref (eb 2), .int 0]) (rest := [.ref ea]) ⟨hx, hb, hml, hown, hts⟩ (mtX2_at l D t (eb 2) 24 ex.2.2.1 0 r1 h1 (by decide) _) ⟨va_cnB 2 hts (gB kw66) rfl rfl rfl hE.2.1 (htB _ kw2) (by decide +kernel) ⟨Nat.le_of_ble_eq_true rfl, Nat.le_of_ble_eq_true rfl⟩, (htB _ kw65), trivial⟩ (sPc_S hPc hK hDc hE) rfl rfl hl.1 rfl (lv_room (Nat.le_of_ble_eq_true rfl)) dX0_sumUp_11 ⟨Nat.zero_le _, Nat.zero_le _⟩) (fun H locs hP hD hS => ?_)
  refine va_put (D := D) (ci := 0) (v := .int r1) (ty := .int) (C := RX0) (T := TX0) (N := 10) hx hb htB inlX0 tyX0 tyX0_ok nmX0 hown hK hP hD hS 0 rfl rfl 4 (by decide) (htB _ kw136) (fun _ h9 => h9) rfl (by decide +kernel) rfl rfl (Nat.le_of_ble_eq_true rfl) dX0_sumUp_14 (fun H locs hP hD hS => ?_)
  have hP : va_P D vwCl (gE t ea eb (ex.1, ex.2.1, ex.2.2.1, 0, r1, ex.2.2.2.2.2.1, ex.2.2.2.2.2.2.1, ex.2.2.2.2.2.2.2.1, ex.2.2.2.2.2.2.2.2.1, ex.2.2.2.2.2.2.2.2.2)) H := hP
  have hD : va_D A (gE t ea eb (ex.1, ex.2.1, ex.2.2.1, 0, r1, ex.2.2.2.2.2.1, ex.2.2.2.2.2.2.1, ex.2.2.2.2.2.2.2.1, ex.2.2.2.2.2.2.2.2.1, ex.2.2.2.2.2.2.2.2.2)) := hD
  refine lv_aload_n hx hb dX0_sumUp_17 rfl (lv_at hl 0 rfl) ?_
  refine lv_aload_n hx hb dX0_sumUp_18 rfl (lv_at hl 0 rfl) ?_
  refine va_get (D := D) (ci := 0) (v := .int r1) (C := RX0) (T := TX0) (N := 10) hx hb htB inlX0 hown hK hP 0 rfl rfl 4 (by decide) (htB _ kw136) (fun _ h9 => h9) rfl dX0_sumUp_19 ?_
  refine va_put (D := D) (ci := 0) (v := .int r1) (ty := .int) (C := RX0) (T := TX0) (N := 10) hx hb htB inlX0 tyX0 tyX0_ok nmX0 hown hK hP hD hS 0 rfl rfl 5 (by decide) (htB _ kw137) (fun _ h9 => h9) rfl (by decide +kernel) rfl rfl (Nat.le_of_ble_eq_true rfl) dX0_sumUp_22 (fun H locs hP hD hS => ?_)
  have hP : va_P D vwCl (gE t ea eb (ex.1, ex.2.1, ex.2.2.1, 0, r1, r1, ex.2.2.2.2.2.2.1, ex.2.2.2.2.2.2.2.1, ex.2.2.2.2.2.2.2.2.1, ex.2.2.2.2.2.2.2.2.2)) H := hP
  have hD : va_D A (gE t ea eb (ex.1, ex.2.1, ex.2.2.1, 0, r1, r1, ex.2.2.2.2.2.2.1, ex.2.2.2.2.2.2.2.1, ex.2.2.2.2.2.2.2.2.1, ex.2.2.2.2.2.2.2.2.2)) := hD
  refine lv_aload_n hx hb dX0_sumUp_25 rfl (lv_at hl 0 rfl) ?_
  refine lv_iconst (v := 0) hx hb dX0_sumUp_26 (by decide) ?_
  refine va_put (D := D) (ci := 0) (v := .int 0) (ty := .int) (C := RX0) (T := TX0) (N := 10) hx hb htB inlX0 tyX0 tyX0_ok nmX0 hown hK hP hD hS 0 rfl rfl 6 (by decide) (htB _ kw138) (fun _ h9 => h9) rfl (by decide +kernel) rfl rfl (Nat.le_of_ble_eq_true rfl) dX0_sumUp_27 (fun H locs hP hD hS => ?_)
  have hP : va_P D vwCl (gE t ea eb (ex.1, ex.2.1, ex.2.2.1, 0, r1, r1, 0, ex.2.2.2.2.2.2.2.1, ex.2.2.2.2.2.2.2.2.1, ex.2.2.2.2.2.2.2.2.2)) H := hP
  have hD : va_D A (gE t ea eb (ex.1, ex.2.1, ex.2.2.1, 0, r1, r1, 0, ex.2.2.2.2.2.2.2.1, ex.2.2.2.2.2.2.2.2.1, ex.2.2.2.2.2.2.2.2.2)) := hD
  refine lv_aload_n hx hb dX0_sumUp_30 rfl (lv_at hl 0 rfl) ?_
  refine lv_iconst (v := 0) hx hb dX0_sumUp_31 (by decide) ?_
  refine va_put (D := D) (ci := 0) (v := .int 0) (ty := .int) (C := RX0) (T := TX0) (N := 10) hx hb htB inlX0 tyX0 tyX0_ok nmX0 hown hK hP hD hS 0 rfl rfl 7 (by decide) (htB _ kw139) (fun _ h9 => h9) rfl (by decide +kernel) rfl rfl (Nat.le_of_ble_eq_true rfl) dX0_sumUp_32 (fun H locs hP hD hS => ?_)
  have hP : va_P D vwCl (gE t ea eb (ex.1, ex.2.1, ex.2.2.1, 0, r1, r1, 0, 0, ex.2.2.2.2.2.2.2.2.1, ex.2.2.2.2.2.2.2.2.2)) H := hP
  have hD : va_D A (gE t ea eb (ex.1, ex.2.1, ex.2.2.1, 0, r1, r1, 0, 0, ex.2.2.2.2.2.2.2.2.1, ex.2.2.2.2.2.2.2.2.2)) := hD
  refine lv_aload_n hx hb dX0_sumUp_35 rfl (lv_at hl 0 rfl) ?_
  refine lv_iconst (v := 0) hx hb dX0_sumUp_36 (by decide) ?_
  refine va_put (D := D) (ci := 0) (v := .int 0) (ty := .int) (C := RX0) (T := TX0) (N := 10) hx hb htB inlX0 tyX0 tyX0_ok nmX0 hown hK hP hD hS 0 rfl rfl 8 (by decide) (htB _ kw140) (fun _ h9 => h9) rfl (by decide +kernel) rfl rfl (Nat.le_of_ble_eq_true rfl) dX0_sumUp_37 (fun H locs hP hD hS => ?_)
  have hP : va_P D vwCl (gE t ea eb (ex.1, ex.2.1, ex.2.2.1, 0, r1, r1, 0, 0, 0, ex.2.2.2.2.2.2.2.2.2)) H := hP
  have hD : va_D A (gE t ea eb (ex.1, ex.2.1, ex.2.2.1, 0, r1, r1, 0, 0, 0, ex.2.2.2.2.2.2.2.2.2)) := hD
  refine lv_aload_n hx hb dX0_sumUp_40 rfl (lv_at hl 0 rfl) ?_
  refine lv_iconst (v := 0) hx hb dX0_sumUp_41 (by decide) ?_
  refine va_put (D := D) (ci := 0) (v := .int 0) (ty := .int) (C := RX0) (T := TX0) (N := 10) hx hb htB inlX0 tyX0 tyX0_ok nmX0 hown hK hP hD hS 0 rfl rfl 9 (by decide) (htB _ kw141) (fun _ h9 => h9) rfl (by decide +kernel) rfl rfl (Nat.le_of_ble_eq_true rfl) dX0_sumUp_42 (fun H locs hP hD hS => ?_)
  have hP : va_P D vwCl (gE t ea eb (ex.1, ex.2.1, ex.2.2.1, 0, r1, r1, 0, 0, 0, 0)) H := hP
  have hD : va_D A (gE t ea eb (ex.1, ex.2.1, ex.2.2.1, 0, r1, r1, 0, 0, 0, 0)) := hD
  refine lv_iconst (v := 0) hx hb dX0_sumUp_45 (by decide) ?_
  refine lv_istore_n (lv' := [(2, .int 0), (0, .ref ea), (1, .int w)]) hx hb dX0_sumUp_46 rfl hl (by decide) rfl (fun ls hl => ?_)
  exact J47 2000 ((ex.1, ex.2.1, ex.2.2.1, 0, r1, r1, 0, 0, 0, 0), w, 0) h _ _ hP hD hS _ (lv_sub hl [1, 2, 0] rfl)

theorem dX0_expose_0 : decode cX0_expose 0 = .ok (.aload_n 0, 1) := by decide +kernel
theorem dX0_expose_1 : decode cX0_expose 1 = .ok (.aload_n 1, 1) := by decide +kernel
theorem dX0_expose_2 : decode cX0_expose 2 = .ok (.iload_n 2, 1) := by decide +kernel
theorem dX0_expose_3 : decode cX0_expose 3 = .ok (.invokevirtual 28, 3) := by decide +kernel
theorem dX0_expose_6 : decode cX0_expose 6 = .ok (.aload_n 0, 1) := by decide +kernel
theorem dX0_expose_7 : decode cX0_expose 7 = .ok (.aload_n 1, 1) := by decide +kernel
theorem dX0_expose_8 : decode cX0_expose 8 = .ok (.invokevirtual 32, 3) := by decide +kernel
theorem dX0_expose_11 : decode cX0_expose 11 = .ok (.aload_n 0, 1) := by decide +kernel
theorem dX0_expose_12 : decode cX0_expose 12 = .ok (.iload_n 2, 1) := by decide +kernel
theorem dX0_expose_13 : decode cX0_expose 13 = .ok (.invokestatic 36, 3) := by decide +kernel
theorem dX0_expose_16 : decode cX0_expose 16 = .ok (.invokevirtual 40, 3) := by decide +kernel
theorem dX0_expose_19 : decode cX0_expose 19 = .ok (.return_, 1) := by decide +kernel
abbrev zX0_expose : List Cond := .code yX0_expose cX0_expose 3 none :: BIG
def fX0_expose (ex : ExT) (x : ShT) (v : Int32) : Option (ExT) := (fX0_runCurtains ex x v).bind (fun r1 => (fX0_openColumns r1 x).bind (fun r2 => (fX2_wantedLight v).bind (fun r3 => (fX0_sumUp r2 r3).bind (fun r4 => some r4))))
set_option maxHeartbeats 4000000 in
set_option maxRecDepth 100000 in
theorem mtX0_expose (l : Launch) (D : va_G) (t : Nat → ClassId) (ea : Nat) (eb : Nat → Nat) (ex : ExT) (xa : Nat) (xb : Nat → Nat) (x : ShT) (v : Int32) (out : ExT) (h : fX0_expose ex x v = some out)  (sz : Nat) : Met l yX0_expose zX0_expose ({ frames := 3, cells := 0, slots := 0, locals := 71 }) (sPc D t (gE t ea eb ex ++ (gS t xa xb x)) sz [.ref ea, .ref xa, .int v]) (qV D t (gE t ea eb out ++ (gS t xa xb x)) (va_A (gE t ea eb ex ++ (gS t xa xb x)) sz)) 0 0 (va_A (gE t ea eb ex ++ (gS t xa xb x)) sz) := by
  refine met_of (Qf := fun A => qV D t (gE t ea eb out ++ (gS t xa xb x)) A) (cc := cX0_expose) (maxL := 3) (ret := none) (by decide) rfl (Nat.le_of_ble_eq_true rfl) ?_
  intro p e s m args below meth c A hx hb hr hml hts hown hlocks hA hP hK hD hE hS ls hl
  have htB : ∀ w ∈ BIG, w.before args s = true := fun w h => hts w (List.mem_cons_of_mem _ h)
  have hown : s.vm.findClass RX0 = some m.cls := hown
  have hl : lv_has ls 3 [(0, .ref ea), (1, .ref xa), (2, .int v)] := hl
  unfold fX0_expose at h
  refine lv_aload_n hx hb dX0_expose_0 rfl (lv_at hl 0 rfl) ?_
  refine lv_aload_n hx hb dX0_expose_1 rfl (lv_at hl 1 rfl) ?_
  refine lv_iload_n hx hb dX0_expose_2 rfl (lv_at hl 2 rfl) ?_
  obtain ⟨r1, h1, h⟩ := ob h
  refine call_v (wc := (gE t ea eb ex ++ (gS t xa xb x))) (wc' := (gE t ea eb r1 ++ (gS t xa xb x))) (ws' := (gE t ea eb r1 ++ (gS t xa xb x))) (cutB (bs := [gE t ea eb ex, gS t xa xb x]) (cs := [gE t ea eb ex, gS t xa xb x]) (cs' := [gE t ea eb r1, gS t xa xb x]) (bs' := [gE t ea eb r1, gS t xa xb x]) [0, 1] hP hD hS hA rfl rfl rfl rfl) hS (fun hPc hDc => va_runV (As := [.ref xa, .int v]) (rest := []) ⟨hx, hb, hml, hown, hts⟩ (mtX0_runCurtains l D t ea eb ex xa xb x v r1 h1 _) (cwV 2 hts (gBV kw104 kw105 kw106 kw16 kw107) rfl rfl rfl (by decide +kernel) ⟨Nat.le_of_ble_eq_true rfl, Nat.le_of_ble_eq_true rfl⟩) (sPc_V hPc hK hDc hE (va_recv hK hP (ci := 0) (q0 := 0) rfl rfl)) rfl rfl hl.1 rfl (lv_room (Nat.le_of_ble_eq_true rfl)) dX0_expose_3 ⟨Nat.zero_le _, Nat.zero_le _⟩) (fun H locs hP hD hS => ?_)
  refine lv_aload_n hx hb dX0_expose_6 rfl (lv_at hl 0 rfl) ?_
  refine lv_aload_n hx hb dX0_expose_7 rfl (lv_at hl 1 rfl) ?_
  obtain ⟨r2, h2, h⟩ := ob h
  refine call_v (wc := (gE t ea eb r1 ++ (gS t xa xb x))) (wc' := (gE t ea eb r2 ++ (gS t xa xb x))) (ws' := (gE t ea eb r2 ++ (gS t xa xb x))) (cutB (bs := [gE t ea eb r1, gS t xa xb x]) (cs := [gE t ea eb r1, gS t xa xb x]) (cs' := [gE t ea eb r2, gS t xa xb x]) (bs' := [gE t ea eb r2, gS t xa xb x]) [0, 1] hP hD hS hA rfl rfl rfl rfl) hS (fun hPc hDc => va_runV (As := [.ref xa]) (rest := []) ⟨hx, hb, hml, hown, hts⟩ (mtX0_openColumns l D t ea eb r1 xa xb x r2 h2 _) (cwV 1 hts (gBV kw124 kw125 kw126 kw16 kw127) rfl rfl rfl (by decide +kernel) ⟨Nat.le_of_ble_eq_true rfl, Nat.le_of_ble_eq_true rfl⟩) (sPc_V hPc hK hDc hE (va_recv hK hP (ci := 0) (q0 := 0) rfl rfl)) rfl rfl hl.1 rfl (lv_room (Nat.le_of_ble_eq_true rfl)) dX0_expose_8 ⟨Nat.zero_le _, Nat.zero_le _⟩) (fun H locs hP hD hS => ?_)
  refine lv_aload_n hx hb dX0_expose_11 rfl (lv_at hl 0 rfl) ?_
  refine lv_iload_n hx hb dX0_expose_12 rfl (lv_at hl 2 rfl) ?_
  obtain ⟨r3, h3, h⟩ := ob h
  refine call_i (v := r3) (wc := ([] : va_W)) (wc' := ([] : va_W)) (ws' := (gE t ea eb r2 ++ (gS t xa xb x))) (cutB (bs := [gE t ea eb r2, gS t xa xb x]) (cs := []) (cs' := []) (bs' := [gE t ea eb r2, gS t xa xb x]) [] hP hD hS hA rfl rfl rfl rfl) hS (fun hPc hDc => va_runSN (As := [.int v]) (rest := [.ref ea]) ⟨hx, hb, hml, hown, hts⟩ (mtX2_wantedLight l D t v r3 h3 _) ⟨va_cnB 1 hts (gB kw123) rfl rfl rfl hE.1 (htB _ kw2) (by decide +kernel) ⟨Nat.le_of_ble_eq_true rfl, Nat.le_of_ble_eq_true rfl⟩, (htB _ kw122), trivial⟩ (sPc_S hPc hK hDc hE) rfl rfl hl.1 rfl (lv_room (Nat.le_of_ble_eq_true rfl)) dX0_expose_13 ⟨Nat.zero_le _, Nat.zero_le _⟩) (fun H locs hP hD hS => ?_)
  obtain ⟨r4, h4, h⟩ := ob h
  refine call_v (wc := (gE t ea eb r2)) (wc' := (gE t ea eb r4)) (ws' := (gE t ea eb r4 ++ (gS t xa xb x))) (cutB (bs := [gE t ea eb r2, gS t xa xb x]) (cs := [gE t ea eb r2]) (cs' := [gE t ea eb r4]) (bs' := [gE t ea eb r4, gS t xa xb x]) [0] hP hD hS hA rfl rfl rfl rfl) hS (fun hPc hDc => va_runV (As := [.int r3]) (rest := []) ⟨hx, hb, hml, hown, hts⟩ (mtX0_sumUp l D t ea eb r2 r3 r4 h4 _) (cwV 1 hts (gBV kw131 kw132 kw133 kw16 kw134) rfl rfl rfl (by decide +kernel) ⟨Nat.le_of_ble_eq_true rfl, Nat.le_of_ble_eq_true rfl⟩) (sPc_V hPc hK hDc hE (va_recv hK hP (ci := 0) (q0 := 0) rfl rfl)) rfl rfl hl.1 rfl (lv_room (Nat.le_of_ble_eq_true rfl)) dX0_expose_16 ⟨Nat.zero_le _, Nat.zero_le _⟩) (fun H locs hP hD hS => ?_)
  obtain rfl := os h
  exact ret_v hx hb hr hlocks hP hK hD hS dX0_expose_19
end
section
theorem dX2_fire_0 : decode cX2_fire 0 = .ok (.iconst 0, 1) := by decide +kernel
theorem dX2_fire_1 : decode cX2_fire 1 = .ok (.istore 4, 2) := by decide +kernel
theorem dX2_fire_3 : decode cX2_fire 3 = .ok (.iload 4, 2) := by decide +kernel
theorem dX2_fire_5 : decode cX2_fire 5 = .ok (.iload_n 3, 1) := by decide +kernel
theorem dX2_fire_6 : decode cX2_fire 6 = .ok (.if_icmp .ge 27, 3) := by decide +kernel
theorem dX2_fire_9 : decode cX2_fire 9 = .ok (.aload_n 0, 1) := by decide +kernel
theorem dX2_fire_10 : decode cX2_fire 10 = .ok (.getfield 22, 3) := by decide +kernel
theorem dX2_fire_13 : decode cX2_fire 13 = .ok (.aload_n 1, 1) := by decide +kernel
theorem dX2_fire_14 : decode cX2_fire 14 = .ok (.iload_n 2, 1) := by decide +kernel
theorem dX2_fire_15 : decode cX2_fire 15 = .ok (.invokevirtual 143, 3) := by decide +kernel
theorem dX2_fire_18 : decode cX2_fire 18 = .ok (.aload_n 1, 1) := by decide +kernel
theorem dX2_fire_19 : decode cX2_fire 19 = .ok (.iload_n 2, 1) := by decide +kernel
theorem dX2_fire_20 : decode cX2_fire 20 = .ok (.aload_n 0, 1) := by decide +kernel
theorem dX2_fire_21 : decode cX2_fire 21 = .ok (.getfield 22, 3) := by decide +kernel
theorem dX2_fire_24 : decode cX2_fire 24 = .ok (.invokevirtual 197, 3) := by decide +kernel
theorem dX2_fire_27 : decode cX2_fire 27 = .ok (.iinc 4 1, 3) := by decide +kernel
theorem dX2_fire_30 : decode cX2_fire 30 = .ok (.goto (-27), 3) := by decide +kernel
theorem dX2_fire_33 : decode cX2_fire 33 = .ok (.return_, 1) := by decide +kernel
abbrev zX2_fire : List Cond := .code yX2_fire cX2_fire 5 none :: BIG
def fX2_fire_l3 (bo : BoT)  (K3 : (ExT × ShT × Int32 × Int32 × Int32) → Option (ExT × ShT)) (v3 : ExT × ShT × Int32 × Int32 × Int32) : Option (ExT × ShT) := (if v3.2.2.2.1 ≤ v3.2.2.2.2 then some (v3.1, v3.2.1) else (fX0_expose v3.1 v3.2.1 v3.2.2.1).bind (fun r2 => (fX1_tally v3.2.1 r2 v3.2.2.1).bind (fun r3 => K3 (r2, r3, v3.2.2.1, v3.2.2.2.1, v3.2.2.2.2 + 1))))
def fX2_fire (bo : BoT) (ex : ExT) (x : ShT) (v : Int32) (n : Int32) : Option (ExT × ShT) := lp (fX2_fire_l3 bo) 2000 (ex, x, v, n, 0)
set_option maxHeartbeats 4000000 in
set_option maxRecDepth 100000 in
theorem mtX2_fire (l : Launch) (D : va_G) (t : Nat → ClassId) (bh : Nat) (bk : Nat → Nat) (bo : BoT) (eb : Nat → Nat) (ex : ExT) (xa : Nat) (xb : Nat → Nat) (x : ShT) (v : Int32) (n : Int32) (out : ExT × ShT) (h : fX2_fire bo ex x v n = some out)  (sz : Nat) : Met l yX2_fire zX2_fire ({ frames := 4, cells := 0, slots := 0, locals := 93 }) (sPc D t (gBo bh bk bo ++ (gE t (bk 2) eb ex ++ (gS t xa xb x))) sz [.ref bh, .ref xa, .int v, .int n]) (qV D t (gBo bh bk bo ++ (gE t (bk 2) eb out.1 ++ (gS t xa xb out.2))) (va_A (gBo bh bk bo ++ (gE t (bk 2) eb ex ++ (gS t xa xb x))) sz)) 0 0 (va_A (gBo bh bk bo ++ (gE t (bk 2) eb ex ++ (gS t xa xb x))) sz) := by
  refine met_of (Qf := fun A => qV D t (gBo bh bk bo ++ (gE t (bk 2) eb out.1 ++ (gS t xa xb out.2))) A) (cc := cX2_fire) (maxL := 5) (ret := none) (by decide) rfl (Nat.le_of_ble_eq_true rfl) ?_
  intro p e s m args below meth c A hx hb hr hml hts hown hlocks hA hP hK hD hE hS ls hl
  have htB : ∀ w ∈ BIG, w.before args s = true := fun w h => hts w (List.mem_cons_of_mem _ h)
  have hown : s.vm.findClass RX2 = some m.cls := hown
  have hl : lv_has ls 5 [(0, .ref bh), (1, .ref xa), (2, .int v), (3, .int n)] := hl
  unfold fX2_fire at h
  have J3 : ∀ (fu3 : Nat) (v3 : ExT × ShT × Int32 × Int32 × Int32), lp (fX2_fire_l3 bo) fu3 v3 = some out → ∀ (H : Heap) (locs : List Loc), va_P D vwCl (gBo bh bk bo ++ (gE t (bk 2) eb v3.1 ++ (gS t xa xb v3.2.1))) H → va_D A (gBo bh bk bo ++ (gE t (bk 2) eb v3.1 ++ (gS t xa xb v3.2.1))) → va_S A s.heap H locs → ∀ ls : Array Slot, lv_has ls 5 [(0, .ref bh), (1, .ref xa), (2, .int v3.2.2.1), (3, .int v3.2.2.2.1), (4, .int v3.2.2.2.2)] → W p l e ({ frames := 4, cells := 0, slots := 0, locals := 93 }) s m args below meth c H locs 0 0 (MQ below (qV D t (gBo bh bk bo ++ (gE t (bk 2) eb out.1 ++ (gS t xa xb out.2))) A) args s 0 0 A) (F0 m 3 ls []) := by
    intro fu3
    induction fu3 with
    | zero => intro v3 h; cases h
    | succ fu3 ih3 =>
      intro v3 h H locs hP hD hS ls hl
      have h : fX2_fire_l3 bo (lp (fX2_fire_l3 bo) fu3) v3 = some out := h
      unfold fX2_fire_l3 at h
      refine lv_iload hx hb dX2_fire_3 (lv_at hl 4 rfl) ?_
      refine lv_iload_n hx hb dX2_fire_5 rfl (lv_at hl 3 rfl) ?_
      refine lv_icmp_ge (tgt := 33) hx hb dX2_fire_6 (by decide) (fun c1 => ?_) (fun c1 => ?_)
      · have h := it_p c1 h
        obtain rfl := os h
        exact ret_v hx hb hr hlocks hP hK hD hS dX2_fire_33
      · have h := it_n c1 h
        refine lv_aload_n hx hb dX2_fire_9 rfl (lv_at hl 0 rfl) ?_
        refine va_get (D := D) (ci := 2) (v := .ref (bk 2)) (C := RX2) (T := TX2) (N := 8) hx hb htB inlX2 hown hK hP 0 rfl rfl 2 (by decide) (htB _ kw17) (fun _ h9 => h9) rfl dX2_fire_10 ?_
        refine lv_aload_n hx hb dX2_fire_13 rfl (lv_at hl 1 rfl) ?_
        refine lv_iload_n hx hb dX2_fire_14 rfl (lv_at hl 2 rfl) ?_
        obtain ⟨r2, h2, h⟩ := ob h
        refine call_v (wc := (gE t (bk 2) eb v3.1 ++ (gS t xa xb v3.2.1))) (wc' := (gE t (bk 2) eb r2 ++ (gS t xa xb v3.2.1))) (ws' := (gBo bh bk bo ++ (gE t (bk 2) eb r2 ++ (gS t xa xb v3.2.1)))) (cutB (bs := [gBo bh bk bo, gE t (bk 2) eb v3.1, gS t xa xb v3.2.1]) (cs := [gE t (bk 2) eb v3.1, gS t xa xb v3.2.1]) (cs' := [gE t (bk 2) eb r2, gS t xa xb v3.2.1]) (bs' := [gBo bh bk bo, gE t (bk 2) eb r2, gS t xa xb v3.2.1]) [1, 2] hP hD hS hA rfl rfl rfl rfl) hS (fun hPc hDc => va_runV (As := [.ref xa, .int v3.2.2.1]) (rest := []) ⟨hx, hb, hml, hown, hts⟩ (mtX0_expose l D t (bk 2) eb v3.1 xa xb v3.2.1 v3.2.2.1 r2 h2 _) (cwV 2 hts (gBV kw100 kw101 kw102 kw16 kw103) rfl rfl rfl (by decide +kernel) ⟨Nat.le_of_ble_eq_true rfl, Nat.le_of_ble_eq_true rfl⟩) (sPc_V hPc hK hDc hE (va_recv hK hP (ci := 0) (q0 := 1) rfl rfl)) rfl rfl hl.1 rfl (lv_room (Nat.le_of_ble_eq_true rfl)) dX2_fire_15 ⟨Nat.zero_le _, Nat.zero_le _⟩) (fun H locs hP hD hS => ?_)
        refine lv_aload_n hx hb dX2_fire_18 rfl (lv_at hl 1 rfl) ?_
        refine lv_iload_n hx hb dX2_fire_19 rfl (lv_at hl 2 rfl) ?_
        refine lv_aload_n hx hb dX2_fire_20 rfl (lv_at hl 0 rfl) ?_
        refine va_get (D := D) (ci := 2) (v := .ref (bk 2)) (C := RX2) (T := TX2) (N := 8) hx hb htB inlX2 hown hK hP 0 rfl rfl 2 (by decide) (htB _ kw17) (fun _ h9 => h9) rfl dX2_fire_21 ?_
        obtain ⟨r3, h3, h⟩ := ob h
        refine call_v (wc := (gS t xa xb v3.2.1 ++ (gE t (bk 2) eb r2))) (wc' := (gS t xa xb r3 ++ (gE t (bk 2) eb r2))) (ws' := (gBo bh bk bo ++ (gE t (bk 2) eb r2 ++ (gS t xa xb r3)))) (cutB (bs := [gBo bh bk bo, gE t (bk 2) eb r2, gS t xa xb v3.2.1]) (cs := [gS t xa xb v3.2.1, gE t (bk 2) eb r2]) (cs' := [gS t xa xb r3, gE t (bk 2) eb r2]) (bs' := [gBo bh bk bo, gE t (bk 2) eb r2, gS t xa xb r3]) [2, 1] hP hD hS hA rfl rfl rfl rfl) hS (fun hPc hDc => va_runV (As := [.int v3.2.2.1, .ref (bk 2)]) (rest := []) ⟨hx, hb, hml, hown, hts⟩ (mtX1_tally l D t xa xb v3.2.1 (bk 2) eb r2 v3.2.2.1 r3 h3 _) (cwV 2 hts (gBV kw145 kw146 kw147 kw11 kw148) rfl rfl rfl (by decide +kernel) ⟨Nat.le_of_ble_eq_true rfl, Nat.le_of_ble_eq_true rfl⟩) (sPc_V hPc hK hDc hE (va_recv hK hP (ci := 1) (q0 := 5) rfl rfl)) rfl rfl hl.1 rfl (lv_room (Nat.le_of_ble_eq_true rfl)) dX2_fire_24 ⟨Nat.zero_le _, Nat.zero_le _⟩) (fun H locs hP hD hS => ?_)
        refine lv_iinc (v := v3.2.2.2.2 + 1) (lv' := [(4, .int (v3.2.2.2.2 + 1)), (0, .ref bh), (1, .ref xa), (2, .int v3.2.2.1), (3, .int v3.2.2.2.1)]) hx hb dX2_fire_27 hl (k := 4) rfl rfl (by decide) rfl (fun ls hl => ?_)
        refine lv_goto (tgt := 3) hx hb dX2_fire_30 (by decide) ?_
        exact ih3 (r2, r3, v3.2.2.1, v3.2.2.2.1, v3.2.2.2.2 + 1) h _ _ hP hD hS _ (lv_sub hl [1, 2, 3, 4, 0] rfl)
  refine lv_iconst (v := 0) hx hb dX2_fire_0 (by decide) ?_
  refine lv_istore (lv' := [(4, .int 0), (0, .ref bh), (1, .ref xa), (2, .int v), (3, .int n)]) hx hb dX2_fire_1 hl (by decide) rfl (fun ls hl => ?_)
  exact J3 2000 (ex, x, v, n, 0) h _ _ hP hD hS _ (lv_sub hl [1, 2, 3, 4, 0] rfl)

abbrev zX2_savedAt : List Cond := .code yX2_savedAt cX2_savedAt 2 (some (.object "ShutterBench$Shutter")) :: BIG
def fX2_savedAt (bo : BoT) (i : Int32) : Option Unit := gd (pin i 6) (some ())
theorem sv_pin {bo : BoT} {i : Int32} {u : Unit} (h : fX2_savedAt bo i = some u) : pin i 6 = true := (og h).1
theorem pin_ge {i : Int32} {n : Nat} (hn : n < 2 ^ 31) (h : vp_in i n) : ¬ nI n ≤ i := by
  intro q
  have h1 := vp_in_iff.mp h
  rw [Int32.le_iff_toInt_le, nI_toInt hn] at q
  omega
theorem dX2_savedAt_0 : decode cX2_savedAt 0 = .ok (.iload_n 1, 1) := by decide +kernel
theorem dX2_savedAt_1 : decode cX2_savedAt 1 = .ok (.ifCond .lt 21, 3) := by decide +kernel
theorem dX2_savedAt_4 : decode cX2_savedAt 4 = .ok (.iload_n 1, 1) := by decide +kernel
theorem dX2_savedAt_5 : decode cX2_savedAt 5 = .ok (.aload_n 0, 1) := by decide +kernel
theorem dX2_savedAt_6 : decode cX2_savedAt 6 = .ok (.getfield 26, 3) := by decide +kernel
theorem dX2_savedAt_9 : decode cX2_savedAt 9 = .ok (.arraylength, 1) := by decide +kernel
theorem dX2_savedAt_10 : decode cX2_savedAt 10 = .ok (.if_icmp .ge 12, 3) := by decide +kernel
theorem dX2_savedAt_13 : decode cX2_savedAt 13 = .ok (.aload_n 0, 1) := by decide +kernel
theorem dX2_savedAt_14 : decode cX2_savedAt 14 = .ok (.getfield 26, 3) := by decide +kernel
theorem dX2_savedAt_17 : decode cX2_savedAt 17 = .ok (.iload_n 1, 1) := by decide +kernel
theorem dX2_savedAt_18 : decode cX2_savedAt 18 = .ok (.aaload, 1) := by decide +kernel
theorem dX2_savedAt_19 : decode cX2_savedAt 19 = .ok (.goto 4, 3) := by decide +kernel
theorem dX2_savedAt_22 : decode cX2_savedAt 22 = .ok (.aconst_null, 1) := by decide +kernel
theorem dX2_savedAt_23 : decode cX2_savedAt 23 = .ok (.areturn, 1) := by decide +kernel
set_option maxHeartbeats 4000000 in
set_option maxRecDepth 100000 in
theorem mtX2_savedAt (l : Launch) (D : va_G) (t : Nat → ClassId) (bh : Nat) (bk : Nat → Nat) (bo : BoT) (sa : Nat → Nat) (i : Int32) (out : Unit) (h : fX2_savedAt bo i = some out)  (sz : Nat) : Met l yX2_savedAt zX2_savedAt ({ frames := 0, cells := 0, slots := 0, locals := 0 }) (sPc D t (gBo bh bk bo ++ (gQ t (bk 3) sa)) sz [.ref bh, .int i]) (qR D t (gBo bh bk bo ++ (gQ t (bk 3) sa)) (sa (Int32.toNatClampNeg i)) (va_A (gBo bh bk bo ++ (gQ t (bk 3) sa)) sz)) 0 0 (va_A (gBo bh bk bo ++ (gQ t (bk 3) sa)) sz) := by
  refine met_of (Qf := fun A => qR D t (gBo bh bk bo ++ (gQ t (bk 3) sa)) (sa (Int32.toNatClampNeg i)) A) (cc := cX2_savedAt) (maxL := 2) (ret := (some (.object "ShutterBench$Shutter"))) (by decide) rfl (Nat.le_of_ble_eq_true rfl) ?_
  intro p e s m args below meth c A hx hb hr hml hts hown hlocks hA hP hK hD hE hS ls hl
  have htB : ∀ w ∈ BIG, w.before args s = true := fun w h => hts w (List.mem_cons_of_mem _ h)
  have hown : s.vm.findClass RX2 = some m.cls := hown
  have hl : lv_has ls 2 [(0, .ref bh), (1, .int i)] := hl
  have hin : vp_in i 6 := pin_in (sv_pin h)
  refine lv_iload_n hx hb dX2_savedAt_0 rfl (lv_at hl 1 rfl) ?_
  refine lv_if_lt (tgt := 22) hx hb dX2_savedAt_1 (by decide) (fun c1 => absurd (Or.inl c1) hin) (fun c1 => ?_)
  refine lv_iload_n hx hb dX2_savedAt_4 rfl (lv_at hl 1 rfl) ?_
  refine lv_aload_n hx hb dX2_savedAt_5 rfl (lv_at hl 0 rfl) ?_
  refine va_get (D := D) (ci := 2) (v := .ref (bk 3)) (C := RX2) (T := TX2) (N := 8) hx hb htB inlX2 hown hK hP 0 rfl rfl 3 (by decide) (htB _ kw18) (fun _ h9 => h9) rfl dX2_savedAt_6 ?_
  refine va_alen (v := 6) hx hb hK hP 1 1 rfl rfl rfl dX2_savedAt_9 ?_
  refine lv_icmp_ge (tgt := 22) hx hb dX2_savedAt_10 (by decide) (fun c2 => absurd c2 (pin_ge (by decide) hin)) (fun c2 => ?_)
  refine lv_aload_n hx hb dX2_savedAt_13 rfl (lv_at hl 0 rfl) ?_
  refine va_get (D := D) (ci := 2) (v := .ref (bk 3)) (C := RX2) (T := TX2) (N := 8) hx hb htB inlX2 hown hK hP 0 rfl rfl 3 (by decide) (htB _ kw18) (fun _ h9 => h9) rfl dX2_savedAt_14 ?_
  refine lv_iload_n hx hb dX2_savedAt_17 rfl (lv_at hl 1 rfl) ?_
  refine va_aldq hx hb hK hP 1 1 rfl rfl hin dX2_savedAt_18 ?_
  refine lv_goto (tgt := 23) hx hb dX2_savedAt_19 (by decide) ?_
  exact ret_r (v := sa (Int32.toNatClampNeg i)) rfl hx hb hr (Or.inl ⟨_, rfl⟩) hlocks hP hK hD hS dX2_savedAt_23

theorem dX2_saveState_0 : decode cX2_saveState 0 = .ok (.aload_n 0, 1) := by decide +kernel
theorem dX2_saveState_1 : decode cX2_saveState 1 = .ok (.aload_n 0, 1) := by decide +kernel
theorem dX2_saveState_2 : decode cX2_saveState 2 = .ok (.getfield 34, 3) := by decide +kernel
theorem dX2_saveState_5 : decode cX2_saveState 5 = .ok (.invokevirtual 125, 3) := by decide +kernel
theorem dX2_saveState_8 : decode cX2_saveState 8 = .ok (.astore_n 1, 1) := by decide +kernel
theorem dX2_saveState_9 : decode cX2_saveState 9 = .ok (.aload_n 1, 1) := by decide +kernel
theorem dX2_saveState_10 : decode cX2_saveState 10 = .ok (.ifnull 11, 3) := by decide +kernel
theorem dX2_saveState_13 : decode cX2_saveState 13 = .ok (.aload_n 1, 1) := by decide +kernel
theorem dX2_saveState_14 : decode cX2_saveState 14 = .ok (.aload_n 0, 1) := by decide +kernel
theorem dX2_saveState_15 : decode cX2_saveState 15 = .ok (.getfield 10, 3) := by decide +kernel
theorem dX2_saveState_18 : decode cX2_saveState 18 = .ok (.invokevirtual 129, 3) := by decide +kernel
theorem dX2_saveState_21 : decode cX2_saveState 21 = .ok (.aload_n 0, 1) := by decide +kernel
theorem dX2_saveState_22 : decode cX2_saveState 22 = .ok (.aload_n 0, 1) := by decide +kernel
theorem dX2_saveState_23 : decode cX2_saveState 23 = .ok (.getfield 34, 3) := by decide +kernel
theorem dX2_saveState_26 : decode cX2_saveState 26 = .ok (.iconst 5, 1) := by decide +kernel
theorem dX2_saveState_27 : decode cX2_saveState 27 = .ok (.if_icmp .ge 12, 3) := by decide +kernel
theorem dX2_saveState_30 : decode cX2_saveState 30 = .ok (.aload_n 0, 1) := by decide +kernel
theorem dX2_saveState_31 : decode cX2_saveState 31 = .ok (.getfield 34, 3) := by decide +kernel
theorem dX2_saveState_34 : decode cX2_saveState 34 = .ok (.iconst 1, 1) := by decide +kernel
theorem dX2_saveState_35 : decode cX2_saveState 35 = .ok (.iadd, 1) := by decide +kernel
theorem dX2_saveState_36 : decode cX2_saveState 36 = .ok (.goto 4, 3) := by decide +kernel
theorem dX2_saveState_39 : decode cX2_saveState 39 = .ok (.iconst 0, 1) := by decide +kernel
theorem dX2_saveState_40 : decode cX2_saveState 40 = .ok (.putfield 34, 3) := by decide +kernel
theorem dX2_saveState_43 : decode cX2_saveState 43 = .ok (.aload_n 0, 1) := by decide +kernel
theorem dX2_saveState_44 : decode cX2_saveState 44 = .ok (.aload_n 0, 1) := by decide +kernel
theorem dX2_saveState_45 : decode cX2_saveState 45 = .ok (.getfield 30, 3) := by decide +kernel
theorem dX2_saveState_48 : decode cX2_saveState 48 = .ok (.iconst 1, 1) := by decide +kernel
theorem dX2_saveState_49 : decode cX2_saveState 49 = .ok (.iadd, 1) := by decide +kernel
theorem dX2_saveState_50 : decode cX2_saveState 50 = .ok (.bipush 6, 2) := by decide +kernel
theorem dX2_saveState_52 : decode cX2_saveState 52 = .ok (.invokestatic 268, 3) := by decide +kernel
theorem dX2_saveState_55 : decode cX2_saveState 55 = .ok (.putfield 30, 3) := by decide +kernel
theorem dX2_saveState_58 : decode cX2_saveState 58 = .ok (.return_, 1) := by decide +kernel
abbrev zX2_saveState : List Cond := .code yX2_saveState cX2_saveState 2 none :: BIG
def fX2_saveState_j40 (now : ShT)  (v40 : BoT × (Nat → ShT) × Int32) : Option (BoT × (Nat → ShT)) := some (((imin (v40.1.1 + 1) 6), v40.2.2, v40.1.2.2), v40.2.1)
def fX2_saveState_j21 (now : ShT)  (v21 : BoT × (Nat → ShT)) : Option (BoT × (Nat → ShT)) := (if 5 ≤ v21.1.2.1 then fX2_saveState_j40 now (v21.1, v21.2, 0) else fX2_saveState_j40 now (v21.1, v21.2, v21.1.2.1 + 1))
def fX2_saveState (bo : BoT) (now : ShT) (sv : (Nat → ShT)) : Option (BoT × (Nat → ShT)) := (fX2_savedAt bo bo.2.1).bind (fun r1 => (fX1_become (sv (Int32.toNatClampNeg bo.2.1)) now).bind (fun r2 => fX2_saveState_j21 now (bo, (va_up sv (Int32.toNatClampNeg bo.2.1) r2))))
set_option maxHeartbeats 4000000 in
set_option maxRecDepth 100000 in
theorem mtX2_saveState (l : Launch) (D : va_G) (t : Nat → ClassId) (bh : Nat) (bk : Nat → Nat) (bo : BoT) (nb : Nat → Nat) (now : ShT) (sa : Nat → Nat) (sb : Nat → Nat → Nat) (sv : (Nat → ShT)) (out : BoT × (Nat → ShT)) (h : fX2_saveState bo now sv = some out)  (sz : Nat) : Met l yX2_saveState zX2_saveState ({ frames := 2, cells := 0, slots := 0, locals := 43 }) (sPc D t (gBo bh bk bo ++ (gS t (bk 0) nb now ++ (gQ t (bk 3) sa ++ (g6 t sa sb sv)))) sz [.ref bh]) (qV D t (gBo bh bk out.1 ++ (gS t (bk 0) nb now ++ (gQ t (bk 3) sa ++ (g6 t sa sb out.2)))) (va_A (gBo bh bk bo ++ (gS t (bk 0) nb now ++ (gQ t (bk 3) sa ++ (g6 t sa sb sv)))) sz)) 0 0 (va_A (gBo bh bk bo ++ (gS t (bk 0) nb now ++ (gQ t (bk 3) sa ++ (g6 t sa sb sv)))) sz) := by
  refine met_of (Qf := fun A => qV D t (gBo bh bk out.1 ++ (gS t (bk 0) nb now ++ (gQ t (bk 3) sa ++ (g6 t sa sb out.2)))) A) (cc := cX2_saveState) (maxL := 2) (ret := none) (by decide) rfl (Nat.le_of_ble_eq_true rfl) ?_
  intro p e s m args below meth c A hx hb hr hml hts hown hlocks hA hP hK hD hE hS ls hl
  have htB : ∀ w ∈ BIG, w.before args s = true := fun w h => hts w (List.mem_cons_of_mem _ h)
  have hown : s.vm.findClass RX2 = some m.cls := hown
  have hl : lv_has ls 2 [(0, .ref bh)] := hl
  unfold fX2_saveState at h
  have J40 : ∀ v40 : BoT × (Nat → ShT) × Int32, fX2_saveState_j40 now v40 = some out → ∀ (H : Heap) (locs : List Loc), va_P D vwCl (gBo bh bk v40.1 ++ (gS t (bk 0) nb now ++ (gQ t (bk 3) sa ++ (g6 t sa sb v40.2.1)))) H → va_D A (gBo bh bk v40.1 ++ (gS t (bk 0) nb now ++ (gQ t (bk 3) sa ++ (g6 t sa sb v40.2.1)))) → va_S A s.heap H locs → ∀ ls : Array Slot, lv_has ls 2 [(0, .ref bh)] → W p l e ({ frames := 2, cells := 0, slots := 0, locals := 43 }) s m args below meth c H locs 0 0 (MQ below (qV D t (gBo bh bk out.1 ++ (gS t (bk 0) nb now ++ (gQ t (bk 3) sa ++ (g6 t sa sb out.2)))) A) args s 0 0 A) (F0 m 40 ls [.int v40.2.2, .ref bh]) := by
    intro v40 h H locs hP hD hS ls hl
    unfold fX2_saveState_j40 at h
    refine va_put (D := D) (ci := 2) (v := .int v40.2.2) (ty := .int) (C := RX2) (T := TX2) (N := 8) hx hb htB inlX2 tyX2 tyX2_ok nmX2 hown hK hP hD hS 0 rfl rfl 5 (by decide) (htB _ kw20) (fun _ h9 => h9) rfl (by decide +kernel) rfl rfl (Nat.le_of_ble_eq_true rfl) dX2_saveState_40 (fun H locs hP hD hS => ?_)
    have hP : va_P D vwCl (gBo bh bk (v40.1.1, v40.2.2, v40.1.2.2) ++ (gS t (bk 0) nb now ++ (gQ t (bk 3) sa ++ (g6 t sa sb v40.2.1)))) H := hP
    have hD : va_D A (gBo bh bk (v40.1.1, v40.2.2, v40.1.2.2) ++ (gS t (bk 0) nb now ++ (gQ t (bk 3) sa ++ (g6 t sa sb v40.2.1)))) := hD
    refine lv_aload_n hx hb dX2_saveState_43 rfl (lv_at hl 0 rfl) ?_
    refine lv_aload_n hx hb dX2_saveState_44 rfl (lv_at hl 0 rfl) ?_
    refine va_get (D := D) (ci := 2) (v := .int v40.1.1) (C := RX2) (T := TX2) (N := 8) hx hb htB inlX2 hown hK hP 0 rfl rfl 4 (by decide) (htB _ kw19) (fun _ h9 => h9) rfl dX2_saveState_45 ?_
    refine lv_iconst (v := 1) hx hb dX2_saveState_48 (by decide) ?_
    refine lv_iadd hx hb dX2_saveState_49 ?_
    refine lv_bipush (v := 6) hx hb dX2_saveState_50 (by decide) ?_
    refine va_mmin hx hb (by rw [hml]; exact hl.1.symm) hown (htB _ kw205) (htB _ kw62) (htB _ kw63) (htB _ kw64) (Nat.le_of_ble_eq_true rfl) (Nat.le_of_ble_eq_true rfl) (Nat.zero_le _) (Nat.zero_le _) dX2_saveState_52 ?_
    refine va_put (D := D) (ci := 2) (v := .int (imin (v40.1.1 + 1) 6)) (ty := .int) (C := RX2) (T := TX2) (N := 8) hx hb htB inlX2 tyX2 tyX2_ok nmX2 hown hK hP hD hS 0 rfl rfl 4 (by decide) (htB _ kw19) (fun _ h9 => h9) rfl (by decide +kernel) rfl rfl (Nat.le_of_ble_eq_true rfl) dX2_saveState_55 (fun H locs hP hD hS => ?_)
    have hP : va_P D vwCl (gBo bh bk ((imin (v40.1.1 + 1) 6), v40.2.2, v40.1.2.2) ++ (gS t (bk 0) nb now ++ (gQ t (bk 3) sa ++ (g6 t sa sb v40.2.1)))) H := hP
    have hD : va_D A (gBo bh bk ((imin (v40.1.1 + 1) 6), v40.2.2, v40.1.2.2) ++ (gS t (bk 0) nb now ++ (gQ t (bk 3) sa ++ (g6 t sa sb v40.2.1)))) := hD
    obtain rfl := os h
    exact ret_v hx hb hr hlocks hP hK hD hS dX2_saveState_58
  have J21 : ∀ v21 : BoT × (Nat → ShT), fX2_saveState_j21 now v21 = some out → ∀ (H : Heap) (locs : List Loc), va_P D vwCl (gBo bh bk v21.1 ++ (gS t (bk 0) nb now ++ (gQ t (bk 3) sa ++ (g6 t sa sb v21.2)))) H → va_D A (gBo bh bk v21.1 ++ (gS t (bk 0) nb now ++ (gQ t (bk 3) sa ++ (g6 t sa sb v21.2)))) → va_S A s.heap H locs → ∀ ls : Array Slot, lv_has ls 2 [(0, .ref bh)] → W p l e ({ frames := 2, cells := 0, slots := 0, locals := 43 }) s m args below meth c H locs 0 0 (MQ below (qV D t (gBo bh bk out.1 ++ (gS t (bk 0) nb now ++ (gQ t (bk 3) sa ++ (g6 t sa sb out.2)))) A) args s 0 0 A) (F0 m 21 ls []) := by
    intro v21 h H locs hP hD hS ls hl
    unfold fX2_saveState_j21 at h
    refine lv_aload_n hx hb dX2_saveState_21 rfl (lv_at hl 0 rfl) ?_
    refine lv_aload_n hx hb dX2_saveState_22 rfl (lv_at hl 0 rfl) ?_
    refine va_get (D := D) (ci := 2) (v := .int v21.1.2.1) (C := RX2) (T := TX2) (N := 8) hx hb htB inlX2 hown hK hP 0 rfl rfl 5 (by decide) (htB _ kw20) (fun _ h9 => h9) rfl dX2_saveState_23 ?_
    refine lv_iconst (v := 5) hx hb dX2_saveState_26 (by decide) ?_
    refine lv_icmp_ge (tgt := 39) hx hb dX2_saveState_27 (by decide) (fun c3 => ?_) (fun c3 => ?_)
    · have h := it_p c3 h
      refine lv_iconst (v := 0) hx hb dX2_saveState_39 (by decide) ?_
      exact J40 (v21.1, v21.2, 0) h _ _ hP hD hS _ (lv_sub hl [0] rfl)
    · have h := it_n c3 h
      refine lv_aload_n hx hb dX2_saveState_30 rfl (lv_at hl 0 rfl) ?_
      refine va_get (D := D) (ci := 2) (v := .int v21.1.2.1) (C := RX2) (T := TX2) (N := 8) hx hb htB inlX2 hown hK hP 0 rfl rfl 5 (by decide) (htB _ kw20) (fun _ h9 => h9) rfl dX2_saveState_31 ?_
      refine lv_iconst (v := 1) hx hb dX2_saveState_34 (by decide) ?_
      refine lv_iadd hx hb dX2_saveState_35 ?_
      refine lv_goto (tgt := 40) hx hb dX2_saveState_36 (by decide) ?_
      exact J40 (v21.1, v21.2, v21.1.2.1 + 1) h _ _ hP hD hS _ (lv_sub hl [0] rfl)
  refine lv_aload_n hx hb dX2_saveState_0 rfl (lv_at hl 0 rfl) ?_
  refine lv_aload_n hx hb dX2_saveState_1 rfl (lv_at hl 0 rfl) ?_
  refine va_get (D := D) (ci := 2) (v := .int bo.2.1) (C := RX2) (T := TX2) (N := 8) hx hb htB inlX2 hown hK hP 0 rfl rfl 5 (by decide) (htB _ kw20) (fun _ h9 => h9) rfl dX2_saveState_2 ?_
  obtain ⟨r1, h1, h⟩ := ob h
  refine call_r (v := sa (Int32.toNatClampNeg bo.2.1)) (wc := (gBo bh bk bo ++ (gQ t (bk 3) sa))) (wc' := (gBo bh bk bo ++ (gQ t (bk 3) sa))) (ws' := (gBo bh bk bo ++ (gS t (bk 0) nb now ++ (gQ t (bk 3) sa ++ (g6 t sa sb sv))))) (cutB (bs := [gBo bh bk bo, gS t (bk 0) nb now, gQ t (bk 3) sa, g6 t sa sb sv]) (cs := [gBo bh bk bo, gQ t (bk 3) sa]) (cs' := [gBo bh bk bo, gQ t (bk 3) sa]) (bs' := [gBo bh bk bo, gS t (bk 0) nb now, gQ t (bk 3) sa, g6 t sa sb sv]) [0, 2] hP hD hS hA rfl rfl rfl rfl) hS (fun hPc hDc => va_runV (As := [.int bo.2.1]) (rest := []) ⟨hx, hb, hml, hown, hts⟩ (mtX2_savedAt l D t bh bk bo sa bo.2.1 r1 h1 _) (cwV 1 hts (gBV kw206 kw207 kw208 kw2 kw209) rfl rfl rfl (by decide +kernel) ⟨Nat.le_of_ble_eq_true rfl, Nat.le_of_ble_eq_true rfl⟩) (sPc_V hPc hK hDc hE (va_recv hK hP (ci := 2) (q0 := 0) rfl rfl)) rfl rfl hl.1 rfl (lv_room (Nat.le_of_ble_eq_true rfl)) dX2_saveState_5 ⟨Nat.zero_le _, Nat.zero_le _⟩) (fun H locs hP hD hS => ?_)
  have hj6 := pin6 (sv_pin h1)
  refine lv_astore_n (lv' := [(1, .ref (sa (Int32.toNatClampNeg bo.2.1))), (0, .ref bh)]) hx hb dX2_saveState_8 rfl hl (by decide) rfl (fun ls hl => ?_)
  refine lv_aload_n hx hb dX2_saveState_9 rfl (lv_at hl 0 rfl) ?_
  refine lv_ifnull hx hb dX2_saveState_10 ?_
  refine lv_aload_n hx hb dX2_saveState_13 rfl (lv_at hl 0 rfl) ?_
  refine lv_aload_n hx hb dX2_saveState_14 rfl (lv_at hl 1 rfl) ?_
  refine va_get (D := D) (ci := 2) (v := .ref (bk 0)) (C := RX2) (T := TX2) (N := 8) hx hb htB inlX2 hown hK hP 0 rfl rfl 0 (by decide) (htB _ kw12) (fun _ h9 => h9) rfl dX2_saveState_15 ?_
  obtain ⟨r2, h2, h⟩ := ob h
  refine call_v (wc := (gS t (sa (Int32.toNatClampNeg bo.2.1)) (sb (Int32.toNatClampNeg bo.2.1)) (sv (Int32.toNatClampNeg bo.2.1)) ++ (gS t (bk 0) nb now))) (wc' := (gS t (sa (Int32.toNatClampNeg bo.2.1)) (sb (Int32.toNatClampNeg bo.2.1)) r2 ++ (gS t (bk 0) nb now))) (ws' := (gBo bh bk bo ++ (gS t (bk 0) nb now ++ (gQ t (bk 3) sa ++ (g6 t sa sb (va_up sv (Int32.toNatClampNeg bo.2.1) r2)))))) (cutB (bs := [gBo bh bk bo, gS t (bk 0) nb now, gQ t (bk 3) sa, gS t (sa 0) (sb 0) (sv 0), gS t (sa 1) (sb 1) (sv 1), gS t (sa 2) (sb 2) (sv 2), gS t (sa 3) (sb 3) (sv 3), gS t (sa 4) (sb 4) (sv 4), gS t (sa 5) (sb 5) (sv 5)]) (cs := [gS t (sa (Int32.toNatClampNeg bo.2.1)) (sb (Int32.toNatClampNeg bo.2.1)) (sv (Int32.toNatClampNeg bo.2.1)), gS t (bk 0) nb now]) (cs' := [gS t (sa (Int32.toNatClampNeg bo.2.1)) (sb (Int32.toNatClampNeg bo.2.1)) r2, gS t (bk 0) nb now]) (bs' := [gBo bh bk bo, gS t (bk 0) nb now, gQ t (bk 3) sa, gS t (sa 0) (sb 0) ((va_up sv (Int32.toNatClampNeg bo.2.1) r2) 0), gS t (sa 1) (sb 1) ((va_up sv (Int32.toNatClampNeg bo.2.1) r2) 1), gS t (sa 2) (sb 2) ((va_up sv (Int32.toNatClampNeg bo.2.1) r2) 2), gS t (sa 3) (sb 3) ((va_up sv (Int32.toNatClampNeg bo.2.1) r2) 3), gS t (sa 4) (sb 4) ((va_up sv (Int32.toNatClampNeg bo.2.1) r2) 4), gS t (sa 5) (sb 5) ((va_up sv (Int32.toNatClampNeg bo.2.1) r2) 5)]) [3 + (Int32.toNatClampNeg bo.2.1), 1] hP hD hS hA (by rcases hj6 with e9 | e9 | e9 | e9 | e9 | e9 <;> rw [e9] <;> rfl) (by rcases hj6 with e9 | e9 | e9 | e9 | e9 | e9 <;> rw [e9] <;> rfl) (by rcases hj6 with e9 | e9 | e9 | e9 | e9 | e9 <;> rw [e9] <;> rfl) rfl) hS (fun hPc hDc => va_runV (As := [.ref (bk 0)]) (rest := []) ⟨hx, hb, hml, hown, hts⟩ (mtX1_become l D t (sa (Int32.toNatClampNeg bo.2.1)) (sb (Int32.toNatClampNeg bo.2.1)) (sv (Int32.toNatClampNeg bo.2.1)) (bk 0) nb now r2 h2 _) (cwV 1 hts (gBV kw90 kw91 kw92 kw11 kw93) rfl rfl rfl (by decide +kernel) ⟨Nat.le_of_ble_eq_true rfl, Nat.le_of_ble_eq_true rfl⟩) (sPc_V hPc hK hDc hE (va_recv hK hPc (ci := 1) (q0 := 0) rfl rfl)) rfl rfl hl.1 rfl (lv_room (Nat.le_of_ble_eq_true rfl)) dX2_saveState_18 ⟨Nat.zero_le _, Nat.zero_le _⟩) (fun H locs hP hD hS => ?_)
  exact J21 (bo, (va_up sv (Int32.toNatClampNeg bo.2.1) r2)) h _ _ hP hD hS _ (lv_sub hl [1] rfl)

theorem dX2_needIndex_0 : decode cX2_needIndex 0 = .ok (.iload_n 0, 1) := by decide +kernel
theorem dX2_needIndex_1 : decode cX2_needIndex 1 = .ok (.ifCond .lt 8, 3) := by decide +kernel
theorem dX2_needIndex_4 : decode cX2_needIndex 4 = .ok (.iload_n 0, 1) := by decide +kernel
theorem dX2_needIndex_5 : decode cX2_needIndex 5 = .ok (.iload_n 1, 1) := by decide +kernel
theorem dX2_needIndex_6 : decode cX2_needIndex 6 = .ok (.if_icmp .lt 14, 3) := by decide +kernel
theorem dX2_needIndex_9 : decode cX2_needIndex 9 = .ok (.new 287, 3) := by decide +kernel
theorem dX2_needIndex_20 : decode cX2_needIndex 20 = .ok (.return_, 1) := by decide +kernel
abbrev zX2_needIndex : List Cond := .code yX2_needIndex cX2_needIndex 2 none :: BIG
def fX2_needIndex (i : Int32) (b : Int32) : Option (Nat ⊕ (Unit)) := (if i < 0 then some (.inl 0) else (if i < b then some (.inr ()) else some (.inl 0)))
set_option maxHeartbeats 4000000 in
set_option maxRecDepth 100000 in
theorem mtX2_needIndex (l : Launch) (D : va_G) (t : Nat → ClassId) (i : Int32) (b : Int32) (out : Unit) (h : fX2_needIndex i b = some (.inr out))  (sz : Nat) : Met l yX2_needIndex zX2_needIndex ({ frames := 0, cells := 0, slots := 0, locals := 0 }) (sPc D t ([] : va_W) sz [.int i, .int b]) (qV D t ([] : va_W) (va_A ([] : va_W) sz)) 0 0 (va_A ([] : va_W) sz) := by
  refine met_of (Qf := fun A => qV D t ([] : va_W) A) (cc := cX2_needIndex) (maxL := 2) (ret := none) (by decide) rfl (Nat.le_of_ble_eq_true rfl) ?_
  intro p e s m args below meth c A hx hb hr hml hts hown hlocks hA hP hK hD hE hS ls hl
  have htB : ∀ w ∈ BIG, w.before args s = true := fun w h => hts w (List.mem_cons_of_mem _ h)
  have hown : s.vm.findClass RX2 = some m.cls := hown
  have hl : lv_has ls 2 [(0, .int i), (1, .int b)] := hl
  unfold fX2_needIndex at h
  refine lv_iload_n hx hb dX2_needIndex_0 rfl (lv_at hl 0 rfl) ?_
  refine lv_if_lt (tgt := 9) hx hb dX2_needIndex_1 (by decide) (fun c1 => ?_) (fun c1 => ?_)
  · have h := it_p c1 h
    cases h
  · have h := it_n c1 h
    refine lv_iload_n hx hb dX2_needIndex_4 rfl (lv_at hl 0 rfl) ?_
    refine lv_iload_n hx hb dX2_needIndex_5 rfl (lv_at hl 1 rfl) ?_
    refine lv_icmp_lt (tgt := 20) hx hb dX2_needIndex_6 (by decide) (fun c2 => ?_) (fun c2 => ?_)
    · have h := it_p c2 h
      obtain rfl := oi h
      exact ret_v hx hb hr hlocks hP hK hD hS dX2_needIndex_20
    · have h := it_n c2 h
      cases h

theorem dX2_needCurtain_0 : decode cX2_needCurtain 0 = .ok (.iload_n 0, 1) := by decide +kernel
theorem dX2_needCurtain_1 : decode cX2_needCurtain 1 = .ok (.iconst 2, 1) := by decide +kernel
theorem dX2_needCurtain_2 : decode cX2_needCurtain 2 = .ok (.invokestatic 139, 3) := by decide +kernel
theorem dX2_needCurtain_5 : decode cX2_needCurtain 5 = .ok (.return_, 1) := by decide +kernel
abbrev zX2_needCurtain : List Cond := .code yX2_needCurtain cX2_needCurtain 1 none :: BIG
def fX2_needCurtain (i : Int32) : Option (Nat ⊕ (Unit)) := tb (fX2_needIndex i 2) (fun r1 => some (.inr ()))
set_option maxHeartbeats 4000000 in
set_option maxRecDepth 100000 in
theorem mtX2_needCurtain (l : Launch) (D : va_G) (t : Nat → ClassId) (i : Int32) (out : Unit) (h : fX2_needCurtain i = some (.inr out))  (sz : Nat) : Met l yX2_needCurtain zX2_needCurtain ({ frames := 1, cells := 0, slots := 0, locals := 21 }) (sPc D t ([] : va_W) sz [.int i]) (qV D t ([] : va_W) (va_A ([] : va_W) sz)) 0 0 (va_A ([] : va_W) sz) := by
  refine met_of (Qf := fun A => qV D t ([] : va_W) A) (cc := cX2_needCurtain) (maxL := 1) (ret := none) (by decide) rfl (Nat.le_of_ble_eq_true rfl) ?_
  intro p e s m args below meth c A hx hb hr hml hts hown hlocks hA hP hK hD hE hS ls hl
  have htB : ∀ w ∈ BIG, w.before args s = true := fun w h => hts w (List.mem_cons_of_mem _ h)
  have hown : s.vm.findClass RX2 = some m.cls := hown
  have hl : lv_has ls 1 [(0, .int i)] := hl
  unfold fX2_needCurtain at h
  refine lv_iload_n hx hb dX2_needCurtain_0 rfl (lv_at hl 0 rfl) ?_
  refine lv_iconst (v := 2) hx hb dX2_needCurtain_1 (by decide) ?_
  obtain ⟨r1, h1, h⟩ := tb_r h
  refine call_v (wc := ([] : va_W)) (wc' := ([] : va_W)) (ws' := ([] : va_W)) (cutB (bs := []) (cs := []) (cs' := []) (bs' := []) [] hP hD hS hA rfl rfl rfl rfl) hS (fun hPc hDc => va_runS (As := [.int i, .int 2]) (rest := []) ⟨hx, hb, hml, hown, hts⟩ (mtX2_needIndex l D t i 2 r1 h1 _) (va_cwS 2 hts (gBS kw85 kw86 kw2 kw87) rfl rfl rfl (by decide +kernel) ⟨Nat.le_of_ble_eq_true rfl, Nat.le_of_ble_eq_true rfl⟩) (sPc_S hPc hK hDc hE) rfl rfl hl.1 rfl (lv_room (Nat.le_of_ble_eq_true rfl)) dX2_needCurtain_2 ⟨Nat.zero_le _, Nat.zero_le _⟩) (fun H locs hP hD hS => ?_)
  obtain rfl := oi h
  exact ret_v hx hb hr hlocks hP hK hD hS dX2_needCurtain_5

theorem dX2_needSpeed_0 : decode cX2_needSpeed 0 = .ok (.iload_n 0, 1) := by decide +kernel
theorem dX2_needSpeed_1 : decode cX2_needSpeed 1 = .ok (.bipush 6, 2) := by decide +kernel
theorem dX2_needSpeed_3 : decode cX2_needSpeed 3 = .ok (.invokestatic 139, 3) := by decide +kernel
theorem dX2_needSpeed_6 : decode cX2_needSpeed 6 = .ok (.return_, 1) := by decide +kernel
abbrev zX2_needSpeed : List Cond := .code yX2_needSpeed cX2_needSpeed 1 none :: BIG
def fX2_needSpeed (i : Int32) : Option (Nat ⊕ (Unit)) := tb (fX2_needIndex i 6) (fun r1 => some (.inr ()))
set_option maxHeartbeats 4000000 in
set_option maxRecDepth 100000 in
theorem mtX2_needSpeed (l : Launch) (D : va_G) (t : Nat → ClassId) (i : Int32) (out : Unit) (h : fX2_needSpeed i = some (.inr out))  (sz : Nat) : Met l yX2_needSpeed zX2_needSpeed ({ frames := 1, cells := 0, slots := 0, locals := 21 }) (sPc D t ([] : va_W) sz [.int i]) (qV D t ([] : va_W) (va_A ([] : va_W) sz)) 0 0 (va_A ([] : va_W) sz) := by
  refine met_of (Qf := fun A => qV D t ([] : va_W) A) (cc := cX2_needSpeed) (maxL := 1) (ret := none) (by decide) rfl (Nat.le_of_ble_eq_true rfl) ?_
  intro p e s m args below meth c A hx hb hr hml hts hown hlocks hA hP hK hD hE hS ls hl
  have htB : ∀ w ∈ BIG, w.before args s = true := fun w h => hts w (List.mem_cons_of_mem _ h)
  have hown : s.vm.findClass RX2 = some m.cls := hown
  have hl : lv_has ls 1 [(0, .int i)] := hl
  unfold fX2_needSpeed at h
  refine lv_iload_n hx hb dX2_needSpeed_0 rfl (lv_at hl 0 rfl) ?_
  refine lv_bipush (v := 6) hx hb dX2_needSpeed_1 (by decide) ?_
  obtain ⟨r1, h1, h⟩ := tb_r h
  refine call_v (wc := ([] : va_W)) (wc' := ([] : va_W)) (ws' := ([] : va_W)) (cutB (bs := []) (cs := []) (cs' := []) (bs' := []) [] hP hD hS hA rfl rfl rfl rfl) hS (fun hPc hDc => va_runS (As := [.int i, .int 6]) (rest := []) ⟨hx, hb, hml, hown, hts⟩ (mtX2_needIndex l D t i 6 r1 h1 _) (va_cwS 2 hts (gBS kw85 kw86 kw2 kw87) rfl rfl rfl (by decide +kernel) ⟨Nat.le_of_ble_eq_true rfl, Nat.le_of_ble_eq_true rfl⟩) (sPc_S hPc hK hDc hE) rfl rfl hl.1 rfl (lv_room (Nat.le_of_ble_eq_true rfl)) dX2_needSpeed_3 ⟨Nat.zero_le _, Nat.zero_le _⟩) (fun H locs hP hD hS => ?_)
  obtain rfl := oi h
  exact ret_v hx hb hr hlocks hP hK hD hS dX2_needSpeed_6

theorem dX2_needSetting_0 : decode cX2_needSetting 0 = .ok (.iload_n 0, 1) := by decide +kernel
theorem dX2_needSetting_1 : decode cX2_needSetting 1 = .ok (.iconst 4, 1) := by decide +kernel
theorem dX2_needSetting_2 : decode cX2_needSetting 2 = .ok (.invokestatic 139, 3) := by decide +kernel
theorem dX2_needSetting_5 : decode cX2_needSetting 5 = .ok (.return_, 1) := by decide +kernel
abbrev zX2_needSetting : List Cond := .code yX2_needSetting cX2_needSetting 1 none :: BIG
def fX2_needSetting (i : Int32) : Option (Nat ⊕ (Unit)) := tb (fX2_needIndex i 4) (fun r1 => some (.inr ()))
set_option maxHeartbeats 4000000 in
set_option maxRecDepth 100000 in
theorem mtX2_needSetting (l : Launch) (D : va_G) (t : Nat → ClassId) (i : Int32) (out : Unit) (h : fX2_needSetting i = some (.inr out))  (sz : Nat) : Met l yX2_needSetting zX2_needSetting ({ frames := 1, cells := 0, slots := 0, locals := 21 }) (sPc D t ([] : va_W) sz [.int i]) (qV D t ([] : va_W) (va_A ([] : va_W) sz)) 0 0 (va_A ([] : va_W) sz) := by
  refine met_of (Qf := fun A => qV D t ([] : va_W) A) (cc := cX2_needSetting) (maxL := 1) (ret := none) (by decide) rfl (Nat.le_of_ble_eq_true rfl) ?_
  intro p e s m args below meth c A hx hb hr hml hts hown hlocks hA hP hK hD hE hS ls hl
  have htB : ∀ w ∈ BIG, w.before args s = true := fun w h => hts w (List.mem_cons_of_mem _ h)
  have hown : s.vm.findClass RX2 = some m.cls := hown
  have hl : lv_has ls 1 [(0, .int i)] := hl
  unfold fX2_needSetting at h
  refine lv_iload_n hx hb dX2_needSetting_0 rfl (lv_at hl 0 rfl) ?_
  refine lv_iconst (v := 4) hx hb dX2_needSetting_1 (by decide) ?_
  obtain ⟨r1, h1, h⟩ := tb_r h
  refine call_v (wc := ([] : va_W)) (wc' := ([] : va_W)) (ws' := ([] : va_W)) (cutB (bs := []) (cs := []) (cs' := []) (bs' := []) [] hP hD hS hA rfl rfl rfl rfl) hS (fun hPc hDc => va_runS (As := [.int i, .int 4]) (rest := []) ⟨hx, hb, hml, hown, hts⟩ (mtX2_needIndex l D t i 4 r1 h1 _) (va_cwS 2 hts (gBS kw85 kw86 kw2 kw87) rfl rfl rfl (by decide +kernel) ⟨Nat.le_of_ble_eq_true rfl, Nat.le_of_ble_eq_true rfl⟩) (sPc_S hPc hK hDc hE) rfl rfl hl.1 rfl (lv_room (Nat.le_of_ble_eq_true rfl)) dX2_needSetting_2 ⟨Nat.zero_le _, Nat.zero_le _⟩) (fun H locs hP hD hS => ?_)
  obtain rfl := oi h
  exact ret_v hx hb hr hlocks hP hK hD hS dX2_needSetting_5

theorem dX2_needRange_0 : decode cX2_needRange 0 = .ok (.iload_n 0, 1) := by decide +kernel
theorem dX2_needRange_1 : decode cX2_needRange 1 = .ok (.iload_n 1, 1) := by decide +kernel
theorem dX2_needRange_2 : decode cX2_needRange 2 = .ok (.if_icmp .lt 8, 3) := by decide +kernel
theorem dX2_needRange_5 : decode cX2_needRange 5 = .ok (.iload_n 0, 1) := by decide +kernel
theorem dX2_needRange_6 : decode cX2_needRange 6 = .ok (.iload_n 2, 1) := by decide +kernel
theorem dX2_needRange_7 : decode cX2_needRange 7 = .ok (.if_icmp .le 14, 3) := by decide +kernel
theorem dX2_needRange_10 : decode cX2_needRange 10 = .ok (.new 115, 3) := by decide +kernel
theorem dX2_needRange_21 : decode cX2_needRange 21 = .ok (.return_, 1) := by decide +kernel
abbrev zX2_needRange : List Cond := .code yX2_needRange cX2_needRange 3 none :: BIG
def fX2_needRange (v : Int32) (lo : Int32) (hi : Int32) : Option (Nat ⊕ (Unit)) := (if v < lo then some (.inl 1) else (if v ≤ hi then some (.inr ()) else some (.inl 1)))
set_option maxHeartbeats 4000000 in
set_option maxRecDepth 100000 in
theorem mtX2_needRange (l : Launch) (D : va_G) (t : Nat → ClassId) (v : Int32) (lo : Int32) (hi : Int32) (out : Unit) (h : fX2_needRange v lo hi = some (.inr out))  (sz : Nat) : Met l yX2_needRange zX2_needRange ({ frames := 0, cells := 0, slots := 0, locals := 0 }) (sPc D t ([] : va_W) sz [.int v, .int lo, .int hi]) (qV D t ([] : va_W) (va_A ([] : va_W) sz)) 0 0 (va_A ([] : va_W) sz) := by
  refine met_of (Qf := fun A => qV D t ([] : va_W) A) (cc := cX2_needRange) (maxL := 3) (ret := none) (by decide) rfl (Nat.le_of_ble_eq_true rfl) ?_
  intro p e s m args below meth c A hx hb hr hml hts hown hlocks hA hP hK hD hE hS ls hl
  have htB : ∀ w ∈ BIG, w.before args s = true := fun w h => hts w (List.mem_cons_of_mem _ h)
  have hown : s.vm.findClass RX2 = some m.cls := hown
  have hl : lv_has ls 3 [(0, .int v), (1, .int lo), (2, .int hi)] := hl
  unfold fX2_needRange at h
  refine lv_iload_n hx hb dX2_needRange_0 rfl (lv_at hl 0 rfl) ?_
  refine lv_iload_n hx hb dX2_needRange_1 rfl (lv_at hl 1 rfl) ?_
  refine lv_icmp_lt (tgt := 10) hx hb dX2_needRange_2 (by decide) (fun c1 => ?_) (fun c1 => ?_)
  · have h := it_p c1 h
    cases h
  · have h := it_n c1 h
    refine lv_iload_n hx hb dX2_needRange_5 rfl (lv_at hl 0 rfl) ?_
    refine lv_iload_n hx hb dX2_needRange_6 rfl (lv_at hl 2 rfl) ?_
    refine lv_icmp_le (tgt := 21) hx hb dX2_needRange_7 (by decide) (fun c2 => ?_) (fun c2 => ?_)
    · have h := it_p c2 h
      obtain rfl := oi h
      exact ret_v hx hb hr hlocks hP hK hD hS dX2_needRange_21
    · have h := it_n c2 h
      cases h

theorem dX2_leastValue_0 : decode cX2_leastValue 0 = .ok (.iload_n 0, 1) := by decide +kernel
theorem dX2_leastValue_1 : decode cX2_leastValue 1 = .ok (.ifCond .eq 8, 3) := by decide +kernel
theorem dX2_leastValue_4 : decode cX2_leastValue 4 = .ok (.iload_n 0, 1) := by decide +kernel
theorem dX2_leastValue_5 : decode cX2_leastValue 5 = .ok (.iconst 2, 1) := by decide +kernel
theorem dX2_leastValue_6 : decode cX2_leastValue 6 = .ok (.if_icmp .ne 7, 3) := by decide +kernel
theorem dX2_leastValue_9 : decode cX2_leastValue 9 = .ok (.iconst 0, 1) := by decide +kernel
theorem dX2_leastValue_10 : decode cX2_leastValue 10 = .ok (.goto 4, 3) := by decide +kernel
theorem dX2_leastValue_13 : decode cX2_leastValue 13 = .ok (.iconst 1, 1) := by decide +kernel
theorem dX2_leastValue_14 : decode cX2_leastValue 14 = .ok (.ireturn, 1) := by decide +kernel
abbrev zX2_leastValue : List Cond := .code yX2_leastValue cX2_leastValue 1 (some .int) :: BIG
def fX2_leastValue (v : Int32) : Option (Int32) := (if v = 0 then some 0 else (if v = 2 then some 0 else some 1))
set_option maxHeartbeats 4000000 in
set_option maxRecDepth 100000 in
theorem mtX2_leastValue (l : Launch) (D : va_G) (t : Nat → ClassId) (v : Int32) (out : Int32) (h : fX2_leastValue v = some out)  (sz : Nat) : Met l yX2_leastValue zX2_leastValue ({ frames := 0, cells := 0, slots := 0, locals := 0 }) (sPc D t ([] : va_W) sz [.int v]) (qI D t ([] : va_W) out (va_A ([] : va_W) sz)) 0 0 (va_A ([] : va_W) sz) := by
  refine met_of (Qf := fun A => qI D t ([] : va_W) out A) (cc := cX2_leastValue) (maxL := 1) (ret := some .int) (by decide) rfl (Nat.le_of_ble_eq_true rfl) ?_
  intro p e s m args below meth c A hx hb hr hml hts hown hlocks hA hP hK hD hE hS ls hl
  have htB : ∀ w ∈ BIG, w.before args s = true := fun w h => hts w (List.mem_cons_of_mem _ h)
  have hown : s.vm.findClass RX2 = some m.cls := hown
  have hl : lv_has ls 1 [(0, .int v)] := hl
  unfold fX2_leastValue at h
  refine lv_iload_n hx hb dX2_leastValue_0 rfl (lv_at hl 0 rfl) ?_
  refine lv_if_eq (tgt := 9) hx hb dX2_leastValue_1 (by decide) (fun c1 => ?_) (fun c1 => ?_)
  · have h := it_p c1 h
    refine lv_iconst (v := 0) hx hb dX2_leastValue_9 (by decide) ?_
    refine lv_goto (tgt := 14) hx hb dX2_leastValue_10 (by decide) ?_
    obtain rfl := os h
    exact ret_i hx hb hr hlocks hP hK hD hS dX2_leastValue_14
  · have h := it_n c1 h
    refine lv_iload_n hx hb dX2_leastValue_4 rfl (lv_at hl 0 rfl) ?_
    refine lv_iconst (v := 2) hx hb dX2_leastValue_5 (by decide) ?_
    refine lv_icmp_ne (tgt := 13) hx hb dX2_leastValue_6 (by decide) (fun c2 => ?_) (fun c2 => ?_)
    · have h := it_n c2 h
      refine lv_iconst (v := 1) hx hb dX2_leastValue_13 (by decide) ?_
      obtain rfl := os h
      exact ret_i hx hb hr hlocks hP hK hD hS dX2_leastValue_14
    · have h := it_p c2 h
      refine lv_iconst (v := 0) hx hb dX2_leastValue_9 (by decide) ?_
      refine lv_goto (tgt := 14) hx hb dX2_leastValue_10 (by decide) ?_
      obtain rfl := os h
      exact ret_i hx hb hr hlocks hP hK hD hS dX2_leastValue_14

theorem dX2_mostValue_0 : decode cX2_mostValue 0 = .ok (.iload_n 0, 1) := by decide +kernel
theorem dX2_mostValue_1 : decode cX2_mostValue 1 = .ok (.lookupswitch 34 #[(0, 27), (2, 30)], 27) := by decide +kernel
theorem dX2_mostValue_28 : decode cX2_mostValue 28 = .ok (.bipush 20, 2) := by decide +kernel
theorem dX2_mostValue_30 : decode cX2_mostValue 30 = .ok (.ireturn, 1) := by decide +kernel
theorem dX2_mostValue_31 : decode cX2_mostValue 31 = .ok (.sipush 200, 3) := by decide +kernel
theorem dX2_mostValue_34 : decode cX2_mostValue 34 = .ok (.ireturn, 1) := by decide +kernel
theorem dX2_mostValue_35 : decode cX2_mostValue 35 = .ok (.bipush 99, 2) := by decide +kernel
theorem dX2_mostValue_37 : decode cX2_mostValue 37 = .ok (.ireturn, 1) := by decide +kernel
abbrev zX2_mostValue : List Cond := .code yX2_mostValue cX2_mostValue 1 (some .int) :: BIG
def fX2_mostValue (v : Int32) : Option (Int32) := (if v = 0 then some 20 else (if v = 2 then some 200 else some 99))
set_option maxHeartbeats 4000000 in
set_option maxRecDepth 100000 in
theorem mtX2_mostValue (l : Launch) (D : va_G) (t : Nat → ClassId) (v : Int32) (out : Int32) (h : fX2_mostValue v = some out)  (sz : Nat) : Met l yX2_mostValue zX2_mostValue ({ frames := 0, cells := 0, slots := 0, locals := 0 }) (sPc D t ([] : va_W) sz [.int v]) (qI D t ([] : va_W) out (va_A ([] : va_W) sz)) 0 0 (va_A ([] : va_W) sz) := by
  refine met_of (Qf := fun A => qI D t ([] : va_W) out A) (cc := cX2_mostValue) (maxL := 1) (ret := some .int) (by decide) rfl (Nat.le_of_ble_eq_true rfl) ?_
  intro p e s m args below meth c A hx hb hr hml hts hown hlocks hA hP hK hD hE hS ls hl
  have htB : ∀ w ∈ BIG, w.before args s = true := fun w h => hts w (List.mem_cons_of_mem _ h)
  have hown : s.vm.findClass RX2 = some m.cls := hown
  have hl : lv_has ls 1 [(0, .int v)] := hl
  unfold fX2_mostValue at h
  refine lv_iload_n hx hb dX2_mostValue_0 rfl (lv_at hl 0 rfl) ?_
  by_cases c1 : v = 0
  · have h := it_p c1 h
    refine lv_lookup (off := 27) (tgt := 28) hx hb dX2_mostValue_1 (by decide) (by rw [c1]; decide) (by decide) ?_
    refine lv_bipush (v := 20) hx hb dX2_mostValue_28 (by decide) ?_
    obtain rfl := os h
    exact ret_i hx hb hr hlocks hP hK hD hS dX2_mostValue_30
  · have h := it_n c1 h
    by_cases c2 : v = 2
    · have h := it_p c2 h
      refine lv_lookup (off := 30) (tgt := 31) hx hb dX2_mostValue_1 (by decide) (by rw [c2]; decide) (by decide) ?_
      refine lv_sipush (v := 200) hx hb dX2_mostValue_31 (by decide) ?_
      obtain rfl := os h
      exact ret_i hx hb hr hlocks hP hK hD hS dX2_mostValue_34
    · have h := it_n c2 h
      refine lv_lookup (off := 34) (tgt := 35) hx hb dX2_mostValue_1 (by decide) (lk_out2 (lk_ne (by decide) c1) (lk_ne (by decide) c2)) (by decide) ?_
      refine lv_bipush (v := 99) hx hb dX2_mostValue_35 (by decide) ?_
      obtain rfl := os h
      exact ret_i hx hb hr hlocks hP hK hD hS dX2_mostValue_37
end
section
theorem dX2_wind_0 : decode cX2_wind 0 = .ok (.iload_n 1, 1) := by decide +kernel
theorem dX2_wind_1 : decode cX2_wind 1 = .ok (.invokestatic 44, 3) := by decide +kernel
theorem dX2_wind_4 : decode cX2_wind 4 = .ok (.iload_n 2, 1) := by decide +kernel
theorem dX2_wind_5 : decode cX2_wind 5 = .ok (.iconst 1, 1) := by decide +kernel
theorem dX2_wind_6 : decode cX2_wind 6 = .ok (.bipush 99, 2) := by decide +kernel
theorem dX2_wind_8 : decode cX2_wind 8 = .ok (.invokestatic 48, 3) := by decide +kernel
theorem dX2_wind_11 : decode cX2_wind 11 = .ok (.aload_n 0, 1) := by decide +kernel
theorem dX2_wind_12 : decode cX2_wind 12 = .ok (.invokevirtual 52, 3) := by decide +kernel
theorem dX2_wind_15 : decode cX2_wind 15 = .ok (.aload_n 0, 1) := by decide +kernel
theorem dX2_wind_16 : decode cX2_wind 16 = .ok (.getfield 10, 3) := by decide +kernel
theorem dX2_wind_19 : decode cX2_wind 19 = .ok (.getfield 55, 3) := by decide +kernel
theorem dX2_wind_22 : decode cX2_wind 22 = .ok (.iload_n 1, 1) := by decide +kernel
theorem dX2_wind_23 : decode cX2_wind 23 = .ok (.invokestatic 58, 3) := by decide +kernel
theorem dX2_wind_26 : decode cX2_wind 26 = .ok (.istore_n 3, 1) := by decide +kernel
theorem dX2_wind_27 : decode cX2_wind 27 = .ok (.aload_n 0, 1) := by decide +kernel
theorem dX2_wind_28 : decode cX2_wind 28 = .ok (.getfield 10, 3) := by decide +kernel
theorem dX2_wind_31 : decode cX2_wind 31 = .ok (.getfield 55, 3) := by decide +kernel
theorem dX2_wind_34 : decode cX2_wind 34 = .ok (.iload_n 1, 1) := by decide +kernel
theorem dX2_wind_35 : decode cX2_wind 35 = .ok (.iload_n 2, 1) := by decide +kernel
theorem dX2_wind_36 : decode cX2_wind 36 = .ok (.invokestatic 62, 3) := by decide +kernel
theorem dX2_wind_39 : decode cX2_wind 39 = .ok (.iload_n 3, 1) := by decide +kernel
theorem dX2_wind_40 : decode cX2_wind 40 = .ok (.ireturn, 1) := by decide +kernel
abbrev zX2_wind : List Cond := .code yX2_wind cX2_wind 4 (some .int) :: BIG
def fX2_wind (bo : BoT) (now : ShT) (sv : (Nat → ShT)) (cu : Int32) (sp : Int32) : Option (Nat ⊕ (Int32 × BoT × ShT × (Nat → ShT))) := tb (fX2_needCurtain cu) (fun r1 => tb (fX2_needRange sp 1 99) (fun r2 => (fX2_saveState bo now sv).bind (fun r3 => (fX2_at 2 now.1 cu).bind (fun r4 => (fX2_put 2 now.1 cu sp).bind (fun r5 => some (.inr (r4, r3.1, (r5, now.2.1, now.2.2.1, now.2.2.2.1, now.2.2.2.2.1, now.2.2.2.2.2.1, now.2.2.2.2.2.2.1, now.2.2.2.2.2.2.2.1, now.2.2.2.2.2.2.2.2.1, now.2.2.2.2.2.2.2.2.2), r3.2)))))))
set_option maxHeartbeats 4000000 in
set_option maxRecDepth 100000 in
theorem mtX2_wind (l : Launch) (D : va_G) (t : Nat → ClassId) (bh : Nat) (bk : Nat → Nat) (bo : BoT) (nb : Nat → Nat) (now : ShT) (sa : Nat → Nat) (sb : Nat → Nat → Nat) (sv : (Nat → ShT)) (cu : Int32) (sp : Int32) (out : Int32 × BoT × ShT × (Nat → ShT)) (h : fX2_wind bo now sv cu sp = some (.inr out))  (sz : Nat) : Met l yX2_wind zX2_wind ({ frames := 3, cells := 0, slots := 0, locals := 64 }) (sPc D t (gBo bh bk bo ++ (gS t (bk 0) nb now ++ (gQ t (bk 3) sa ++ (g6 t sa sb sv)))) sz [.ref bh, .int cu, .int sp]) (qI D t (gBo bh bk out.2.1 ++ (gS t (bk 0) nb out.2.2.1 ++ (gQ t (bk 3) sa ++ (g6 t sa sb out.2.2.2)))) out.1 (va_A (gBo bh bk bo ++ (gS t (bk 0) nb now ++ (gQ t (bk 3) sa ++ (g6 t sa sb sv)))) sz)) 0 0 (va_A (gBo bh bk bo ++ (gS t (bk 0) nb now ++ (gQ t (bk 3) sa ++ (g6 t sa sb sv)))) sz) := by
  refine met_of (Qf := fun A => qI D t (gBo bh bk out.2.1 ++ (gS t (bk 0) nb out.2.2.1 ++ (gQ t (bk 3) sa ++ (g6 t sa sb out.2.2.2)))) out.1 A) (cc := cX2_wind) (maxL := 4) (ret := some .int) (by decide) rfl (Nat.le_of_ble_eq_true rfl) ?_
  intro p e s m args below meth c A hx hb hr hml hts hown hlocks hA hP hK hD hE hS ls hl
  have htB : ∀ w ∈ BIG, w.before args s = true := fun w h => hts w (List.mem_cons_of_mem _ h)
  have hown : s.vm.findClass RX2 = some m.cls := hown
  have hl : lv_has ls 4 [(0, .ref bh), (1, .int cu), (2, .int sp)] := hl
  unfold fX2_wind at h
  refine lv_iload_n hx hb dX2_wind_0 rfl (lv_at hl 1 rfl) ?_
  obtain ⟨r1, h1, h⟩ := tb_r h
  refine call_v (wc := ([] : va_W)) (wc' := ([] : va_W)) (ws' := (gBo bh bk bo ++ (gS t (bk 0) nb now ++ (gQ t (bk 3) sa ++ (g6 t sa sb sv))))) (cutB (bs := [gBo bh bk bo, gS t (bk 0) nb now, gQ t (bk 3) sa, g6 t sa sb sv]) (cs := []) (cs' := []) (bs' := [gBo bh bk bo, gS t (bk 0) nb now, gQ t (bk 3) sa, g6 t sa sb sv]) [] hP hD hS hA rfl rfl rfl rfl) hS (fun hPc hDc => va_runS (As := [.int cu]) (rest := []) ⟨hx, hb, hml, hown, hts⟩ (mtX2_needCurtain l D t cu r1 h1 _) (va_cwS 1 hts (gBS kw163 kw164 kw2 kw165) rfl rfl rfl (by decide +kernel) ⟨Nat.le_of_ble_eq_true rfl, Nat.le_of_ble_eq_true rfl⟩) (sPc_S hPc hK hDc hE) rfl rfl hl.1 rfl (lv_room (Nat.le_of_ble_eq_true rfl)) dX2_wind_1 ⟨Nat.zero_le _, Nat.zero_le _⟩) (fun H locs hP hD hS => ?_)
  refine lv_iload_n hx hb dX2_wind_4 rfl (lv_at hl 2 rfl) ?_
  refine lv_iconst (v := 1) hx hb dX2_wind_5 (by decide) ?_
  refine lv_bipush (v := 99) hx hb dX2_wind_6 (by decide) ?_
  obtain ⟨r2, h2, h⟩ := tb_r h
  refine call_v (wc := ([] : va_W)) (wc' := ([] : va_W)) (ws' := (gBo bh bk bo ++ (gS t (bk 0) nb now ++ (gQ t (bk 3) sa ++ (g6 t sa sb sv))))) (cutB (bs := [gBo bh bk bo, gS t (bk 0) nb now, gQ t (bk 3) sa, g6 t sa sb sv]) (cs := []) (cs' := []) (bs' := [gBo bh bk bo, gS t (bk 0) nb now, gQ t (bk 3) sa, g6 t sa sb sv]) [] hP hD hS hA rfl rfl rfl rfl) hS (fun hPc hDc => va_runS (As := [.int sp, .int 1, .int 99]) (rest := []) ⟨hx, hb, hml, hown, hts⟩ (mtX2_needRange l D t sp 1 99 r2 h2 _) (va_cwS 3 hts (gBS kw52 kw53 kw2 kw54) rfl rfl rfl (by decide +kernel) ⟨Nat.le_of_ble_eq_true rfl, Nat.le_of_ble_eq_true rfl⟩) (sPc_S hPc hK hDc hE) rfl rfl hl.1 rfl (lv_room (Nat.le_of_ble_eq_true rfl)) dX2_wind_8 ⟨Nat.zero_le _, Nat.zero_le _⟩) (fun H locs hP hD hS => ?_)
  refine lv_aload_n hx hb dX2_wind_11 rfl (lv_at hl 0 rfl) ?_
  obtain ⟨r3, h3, h⟩ := ob h
  refine call_v (wc := (gBo bh bk bo ++ (gS t (bk 0) nb now ++ (gQ t (bk 3) sa ++ (g6 t sa sb sv))))) (wc' := (gBo bh bk r3.1 ++ (gS t (bk 0) nb now ++ (gQ t (bk 3) sa ++ (g6 t sa sb r3.2))))) (ws' := (gBo bh bk r3.1 ++ (gS t (bk 0) nb now ++ (gQ t (bk 3) sa ++ (g6 t sa sb r3.2))))) (cutB (bs := [gBo bh bk bo, gS t (bk 0) nb now, gQ t (bk 3) sa, g6 t sa sb sv]) (cs := [gBo bh bk bo, gS t (bk 0) nb now, gQ t (bk 3) sa, g6 t sa sb sv]) (cs' := [gBo bh bk r3.1, gS t (bk 0) nb now, gQ t (bk 3) sa, g6 t sa sb r3.2]) (bs' := [gBo bh bk r3.1, gS t (bk 0) nb now, gQ t (bk 3) sa, g6 t sa sb r3.2]) [0, 1, 2, 3] hP hD hS hA rfl rfl rfl rfl) hS (fun hPc hDc => va_runV (As := []) (rest := []) ⟨hx, hb, hml, hown, hts⟩ (mtX2_saveState l D t bh bk bo nb now sa sb sv r3 h3 _) (cwV 0 hts (gBV kw201 kw202 kw203 kw2 kw204) rfl rfl rfl (by decide +kernel) ⟨Nat.le_of_ble_eq_true rfl, Nat.le_of_ble_eq_true rfl⟩) (sPc_V hPc hK hDc hE (va_recv hK hP (ci := 2) (q0 := 0) rfl rfl)) rfl rfl hl.1 rfl (lv_room (Nat.le_of_ble_eq_true rfl)) dX2_wind_12 ⟨Nat.zero_le _, Nat.zero_le _⟩) (fun H locs hP hD hS => ?_)
  refine lv_aload_n hx hb dX2_wind_15 rfl (lv_at hl 0 rfl) ?_
  refine va_get (D := D) (ci := 2) (v := .ref (bk 0)) (C := RX2) (T := TX2) (N := 8) hx hb htB inlX2 hown hK hP 0 rfl rfl 0 (by decide) (htB _ kw12) (fun _ h9 => h9) rfl dX2_wind_16 ?_
  refine va_get (D := D) (ci := 1) (v := .ref (nb 0)) (C := RX1) (T := TX1) (N := 10) hx hb htB inlX1 hown hK hP 1 rfl rfl 0 (by decide) (htB _ kw80) (fun _ h9 => h9) rfl dX2_wind_19 ?_
  refine lv_iload_n hx hb dX2_wind_22 rfl (lv_at hl 1 rfl) ?_
  obtain ⟨r4, h4, h⟩ := ob h
  refine call_i (v := r4) (wc := (gA t (nb 0) 2 now.1)) (wc' := (gA t (nb 0) 2 now.1)) (ws' := (gBo bh bk r3.1 ++ (gS t (bk 0) nb now ++ (gQ t (bk 3) sa ++ (g6 t sa sb r3.2))))) (cutI (wc := (gA t (nb 0) 2 now.1)) (wc' := (gA t (nb 0) 2 now.1)) (ws' := (gBo bh bk r3.1 ++ (gS t (bk 0) nb now ++ (gQ t (bk 3) sa ++ (g6 t sa sb r3.2))))) [2] hP hD hS hA rfl rfl rfl rfl) hS (fun hPc hDc => va_runS (As := [.ref (nb 0), .int cu]) (rest := []) ⟨hx, hb, hml, hown, hts⟩ (mtX2_at l D t (nb 0) 2 now.1 cu r4 h4 (by decide) _) (va_cwS 2 hts (gBS kw157 kw65 kw2 kw66) rfl rfl rfl (by decide +kernel) ⟨Nat.le_of_ble_eq_true rfl, Nat.le_of_ble_eq_true rfl⟩) (sPc_S hPc hK hDc hE) rfl rfl hl.1 rfl (lv_room (Nat.le_of_ble_eq_true rfl)) dX2_wind_23 ⟨Nat.zero_le _, Nat.zero_le _⟩) (fun H locs hP hD hS => ?_)
  refine lv_istore_n (lv' := [(3, .int r4), (0, .ref bh), (1, .int cu), (2, .int sp)]) hx hb dX2_wind_26 rfl hl (by decide) rfl (fun ls hl => ?_)
  refine lv_aload_n hx hb dX2_wind_27 rfl (lv_at hl 1 rfl) ?_
  refine va_get (D := D) (ci := 2) (v := .ref (bk 0)) (C := RX2) (T := TX2) (N := 8) hx hb htB inlX2 hown hK hP 0 rfl rfl 0 (by decide) (htB _ kw12) (fun _ h9 => h9) rfl dX2_wind_28 ?_
  refine va_get (D := D) (ci := 1) (v := .ref (nb 0)) (C := RX1) (T := TX1) (N := 10) hx hb htB inlX1 hown hK hP 1 rfl rfl 0 (by decide) (htB _ kw80) (fun _ h9 => h9) rfl dX2_wind_31 ?_
  refine lv_iload_n hx hb dX2_wind_34 rfl (lv_at hl 2 rfl) ?_
  refine lv_iload_n hx hb dX2_wind_35 rfl (lv_at hl 3 rfl) ?_
  obtain ⟨r5, h5, h⟩ := ob h
  refine call_v (wc := (gA t (nb 0) 2 now.1)) (wc' := (gA t (nb 0) 2 r5)) (ws' := (gBo bh bk r3.1 ++ (gS t (bk 0) nb (r5, now.2.1, now.2.2.1, now.2.2.2.1, now.2.2.2.2.1, now.2.2.2.2.2.1, now.2.2.2.2.2.2.1, now.2.2.2.2.2.2.2.1, now.2.2.2.2.2.2.2.2.1, now.2.2.2.2.2.2.2.2.2) ++ (gQ t (bk 3) sa ++ (g6 t sa sb r3.2))))) (cutI (wc := (gA t (nb 0) 2 now.1)) (wc' := (gA t (nb 0) 2 r5)) (ws' := (gBo bh bk r3.1 ++ (gS t (bk 0) nb (r5, now.2.1, now.2.2.1, now.2.2.2.1, now.2.2.2.2.1, now.2.2.2.2.2.1, now.2.2.2.2.2.2.1, now.2.2.2.2.2.2.2.1, now.2.2.2.2.2.2.2.2.1, now.2.2.2.2.2.2.2.2.2) ++ (gQ t (bk 3) sa ++ (g6 t sa sb r3.2))))) [2] hP hD hS hA rfl rfl rfl rfl) hS (fun hPc hDc => va_runS (As := [.ref (nb 0), .int cu, .int sp]) (rest := []) ⟨hx, hb, hml, hown, hts⟩ (mtX2_put l D t (nb 0) 2 now.1 cu sp r5 h5 (by decide) _) (va_cwS 3 hts (gBS kw210 kw150 kw2 kw151) rfl rfl rfl (by decide +kernel) ⟨Nat.le_of_ble_eq_true rfl, Nat.le_of_ble_eq_true rfl⟩) (sPc_S hPc hK hDc hE) rfl rfl hl.1 rfl (lv_room (Nat.le_of_ble_eq_true rfl)) dX2_wind_36 ⟨Nat.zero_le _, Nat.zero_le _⟩) (fun H locs hP hD hS => ?_)
  refine lv_iload_n hx hb dX2_wind_39 rfl (lv_at hl 0 rfl) ?_
  obtain rfl := oi h
  exact ret_i hx hb hr hlocks hP hK hD hS dX2_wind_40

theorem dX2_drag_0 : decode cX2_drag 0 = .ok (.iload_n 1, 1) := by decide +kernel
theorem dX2_drag_1 : decode cX2_drag 1 = .ok (.invokestatic 44, 3) := by decide +kernel
theorem dX2_drag_4 : decode cX2_drag 4 = .ok (.iload_n 2, 1) := by decide +kernel
theorem dX2_drag_5 : decode cX2_drag 5 = .ok (.iconst 0, 1) := by decide +kernel
theorem dX2_drag_6 : decode cX2_drag 6 = .ok (.bipush 23, 2) := by decide +kernel
theorem dX2_drag_8 : decode cX2_drag 8 = .ok (.invokestatic 48, 3) := by decide +kernel
theorem dX2_drag_11 : decode cX2_drag 11 = .ok (.iload_n 3, 1) := by decide +kernel
theorem dX2_drag_12 : decode cX2_drag 12 = .ok (.iload_n 2, 1) := by decide +kernel
theorem dX2_drag_13 : decode cX2_drag 13 = .ok (.bipush 23, 2) := by decide +kernel
theorem dX2_drag_15 : decode cX2_drag 15 = .ok (.invokestatic 48, 3) := by decide +kernel
theorem dX2_drag_18 : decode cX2_drag 18 = .ok (.iload 4, 2) := by decide +kernel
theorem dX2_drag_20 : decode cX2_drag 20 = .ok (.iconst 0, 1) := by decide +kernel
theorem dX2_drag_21 : decode cX2_drag 21 = .ok (.bipush 50, 2) := by decide +kernel
theorem dX2_drag_23 : decode cX2_drag 23 = .ok (.invokestatic 48, 3) := by decide +kernel
theorem dX2_drag_26 : decode cX2_drag 26 = .ok (.aload_n 0, 1) := by decide +kernel
theorem dX2_drag_27 : decode cX2_drag 27 = .ok (.invokevirtual 52, 3) := by decide +kernel
theorem dX2_drag_30 : decode cX2_drag 30 = .ok (.aload_n 0, 1) := by decide +kernel
theorem dX2_drag_31 : decode cX2_drag 31 = .ok (.getfield 10, 3) := by decide +kernel
theorem dX2_drag_34 : decode cX2_drag 34 = .ok (.iload_n 1, 1) := by decide +kernel
theorem dX2_drag_35 : decode cX2_drag 35 = .ok (.invokevirtual 66, 3) := by decide +kernel
theorem dX2_drag_38 : decode cX2_drag 38 = .ok (.astore 5, 2) := by decide +kernel
theorem dX2_drag_40 : decode cX2_drag 40 = .ok (.iconst 0, 1) := by decide +kernel
theorem dX2_drag_41 : decode cX2_drag 41 = .ok (.istore 6, 2) := by decide +kernel
theorem dX2_drag_43 : decode cX2_drag 43 = .ok (.iload_n 2, 1) := by decide +kernel
theorem dX2_drag_44 : decode cX2_drag 44 = .ok (.istore 7, 2) := by decide +kernel
theorem dX2_drag_46 : decode cX2_drag 46 = .ok (.iload 7, 2) := by decide +kernel
theorem dX2_drag_48 : decode cX2_drag 48 = .ok (.iload_n 3, 1) := by decide +kernel
theorem dX2_drag_49 : decode cX2_drag 49 = .ok (.if_icmp .gt 40, 3) := by decide +kernel
theorem dX2_drag_52 : decode cX2_drag 52 = .ok (.iload 7, 2) := by decide +kernel
theorem dX2_drag_54 : decode cX2_drag 54 = .ok (.bipush 24, 2) := by decide +kernel
theorem dX2_drag_56 : decode cX2_drag 56 = .ok (.if_icmp .ge 33, 3) := by decide +kernel
theorem dX2_drag_59 : decode cX2_drag 59 = .ok (.aload 5, 2) := by decide +kernel
theorem dX2_drag_61 : decode cX2_drag 61 = .ok (.iload 7, 2) := by decide +kernel
theorem dX2_drag_63 : decode cX2_drag 63 = .ok (.invokestatic 58, 3) := by decide +kernel
theorem dX2_drag_66 : decode cX2_drag 66 = .ok (.iload 4, 2) := by decide +kernel
theorem dX2_drag_68 : decode cX2_drag 68 = .ok (.if_icmp .eq 15, 3) := by decide +kernel
theorem dX2_drag_71 : decode cX2_drag 71 = .ok (.aload 5, 2) := by decide +kernel
theorem dX2_drag_73 : decode cX2_drag 73 = .ok (.iload 7, 2) := by decide +kernel
theorem dX2_drag_75 : decode cX2_drag 75 = .ok (.iload 4, 2) := by decide +kernel
theorem dX2_drag_77 : decode cX2_drag 77 = .ok (.invokestatic 62, 3) := by decide +kernel
theorem dX2_drag_80 : decode cX2_drag 80 = .ok (.iinc 6 1, 3) := by decide +kernel
theorem dX2_drag_83 : decode cX2_drag 83 = .ok (.iinc 7 1, 3) := by decide +kernel
theorem dX2_drag_86 : decode cX2_drag 86 = .ok (.goto (-40), 3) := by decide +kernel
theorem dX2_drag_89 : decode cX2_drag 89 = .ok (.iload 6, 2) := by decide +kernel
theorem dX2_drag_91 : decode cX2_drag 91 = .ok (.ireturn, 1) := by decide +kernel
abbrev zX2_drag : List Cond := .code yX2_drag cX2_drag 8 (some .int) :: BIG
def fX2_drag_l46   (K46 : (BoT × ShT × (Nat → ShT) × Int32 × Int32 × Int32 × Int32) → Option (Nat ⊕ (Int32 × BoT × ShT × (Nat → ShT)))) (v46 : BoT × ShT × (Nat → ShT) × Int32 × Int32 × Int32 × Int32) : Option (Nat ⊕ (Int32 × BoT × ShT × (Nat → ShT))) := (if v46.2.2.2.1 < v46.2.2.2.2.2.2 then some (.inr (v46.2.2.2.2.2.1, v46.1, v46.2.1, v46.2.2.1)) else (if 24 ≤ v46.2.2.2.2.2.2 then some (.inr (v46.2.2.2.2.2.1, v46.1, v46.2.1, v46.2.2.1)) else (fX2_at 24 v46.2.1.2.2.1 v46.2.2.2.2.2.2).bind (fun r10 => (if r10 = v46.2.2.2.2.1 then K46 (v46.1, v46.2.1, v46.2.2.1, v46.2.2.2.1, v46.2.2.2.2.1, v46.2.2.2.2.2.1, v46.2.2.2.2.2.2 + 1) else (fX2_put 24 v46.2.1.2.2.1 v46.2.2.2.2.2.2 v46.2.2.2.2.1).bind (fun r12 => K46 (v46.1, (v46.2.1.1, v46.2.1.2.1, r12, v46.2.1.2.2.2.1, v46.2.1.2.2.2.2.1, v46.2.1.2.2.2.2.2.1, v46.2.1.2.2.2.2.2.2.1, v46.2.1.2.2.2.2.2.2.2.1, v46.2.1.2.2.2.2.2.2.2.2.1, v46.2.1.2.2.2.2.2.2.2.2.2), v46.2.2.1, v46.2.2.2.1, v46.2.2.2.2.1, v46.2.2.2.2.2.1 + 1, v46.2.2.2.2.2.2 + 1))))))
def fX2_drag_l46_1   (K46_1 : (BoT × ShT × (Nat → ShT) × Int32 × Int32 × Int32 × Int32) → Option (Nat ⊕ (Int32 × BoT × ShT × (Nat → ShT)))) (v46_1 : BoT × ShT × (Nat → ShT) × Int32 × Int32 × Int32 × Int32) : Option (Nat ⊕ (Int32 × BoT × ShT × (Nat → ShT))) := (if v46_1.2.2.2.1 < v46_1.2.2.2.2.2.2 then some (.inr (v46_1.2.2.2.2.2.1, v46_1.1, v46_1.2.1, v46_1.2.2.1)) else (if 24 ≤ v46_1.2.2.2.2.2.2 then some (.inr (v46_1.2.2.2.2.2.1, v46_1.1, v46_1.2.1, v46_1.2.2.1)) else (fX2_at 24 v46_1.2.1.2.2.2.1 v46_1.2.2.2.2.2.2).bind (fun r15 => (if r15 = v46_1.2.2.2.2.1 then K46_1 (v46_1.1, v46_1.2.1, v46_1.2.2.1, v46_1.2.2.2.1, v46_1.2.2.2.2.1, v46_1.2.2.2.2.2.1, v46_1.2.2.2.2.2.2 + 1) else (fX2_put 24 v46_1.2.1.2.2.2.1 v46_1.2.2.2.2.2.2 v46_1.2.2.2.2.1).bind (fun r17 => K46_1 (v46_1.1, (v46_1.2.1.1, v46_1.2.1.2.1, v46_1.2.1.2.2.1, r17, v46_1.2.1.2.2.2.2.1, v46_1.2.1.2.2.2.2.2.1, v46_1.2.1.2.2.2.2.2.2.1, v46_1.2.1.2.2.2.2.2.2.2.1, v46_1.2.1.2.2.2.2.2.2.2.2.1, v46_1.2.1.2.2.2.2.2.2.2.2.2), v46_1.2.2.1, v46_1.2.2.2.1, v46_1.2.2.2.2.1, v46_1.2.2.2.2.2.1 + 1, v46_1.2.2.2.2.2.2 + 1))))))
def fX2_drag (bo : BoT) (now : ShT) (sv : (Nat → ShT)) (cu : Int32) (k1 : Int32) (k2 : Int32) (dr : Int32) : Option (Nat ⊕ (Int32 × BoT × ShT × (Nat → ShT))) := tb (fX2_needCurtain cu) (fun r1 => tb (fX2_needRange k1 0 23) (fun r2 => tb (fX2_needRange k2 k1 23) (fun r3 => tb (fX2_needRange dr 0 50) (fun r4 => (fX2_saveState bo now sv).bind (fun r5 => (fX1_dragsOf now cu).bind (fun r6 => (if cu = 0 then lp (fX2_drag_l46) 2000 (r5.1, now, r5.2, k2, dr, 0, k1) else lp (fX2_drag_l46_1) 2000 (r5.1, now, r5.2, k2, dr, 0, k1))))))))
set_option maxHeartbeats 4000000 in
set_option maxRecDepth 100000 in
theorem mtX2_drag (l : Launch) (D : va_G) (t : Nat → ClassId) (bh : Nat) (bk : Nat → Nat) (bo : BoT) (nb : Nat → Nat) (now : ShT) (sa : Nat → Nat) (sb : Nat → Nat → Nat) (sv : (Nat → ShT)) (cu : Int32) (k1 : Int32) (k2 : Int32) (dr : Int32) (out : Int32 × BoT × ShT × (Nat → ShT)) (h : fX2_drag bo now sv cu k1 k2 dr = some (.inr out))  (sz : Nat) : Met l yX2_drag zX2_drag ({ frames := 3, cells := 0, slots := 0, locals := 64 }) (sPc D t (gBo bh bk bo ++ (gS t (bk 0) nb now ++ (gQ t (bk 3) sa ++ (g6 t sa sb sv)))) sz [.ref bh, .int cu, .int k1, .int k2, .int dr]) (qI D t (gBo bh bk out.2.1 ++ (gS t (bk 0) nb out.2.2.1 ++ (gQ t (bk 3) sa ++ (g6 t sa sb out.2.2.2)))) out.1 (va_A (gBo bh bk bo ++ (gS t (bk 0) nb now ++ (gQ t (bk 3) sa ++ (g6 t sa sb sv)))) sz)) 0 0 (va_A (gBo bh bk bo ++ (gS t (bk 0) nb now ++ (gQ t (bk 3) sa ++ (g6 t sa sb sv)))) sz) := by
  refine met_of (Qf := fun A => qI D t (gBo bh bk out.2.1 ++ (gS t (bk 0) nb out.2.2.1 ++ (gQ t (bk 3) sa ++ (g6 t sa sb out.2.2.2)))) out.1 A) (cc := cX2_drag) (maxL := 8) (ret := some .int) (by decide) rfl (Nat.le_of_ble_eq_true rfl) ?_
  intro p e s m args below meth c A hx hb hr hml hts hown hlocks hA hP hK hD hE hS ls hl
  have htB : ∀ w ∈ BIG, w.before args s = true := fun w h => hts w (List.mem_cons_of_mem _ h)
  have hown : s.vm.findClass RX2 = some m.cls := hown
  have hl : lv_has ls 8 [(0, .ref bh), (1, .int cu), (2, .int k1), (3, .int k2), (4, .int dr)] := hl
  unfold fX2_drag at h
  have J46_1 : ∀ (fu46_1 : Nat) (v46_1 : BoT × ShT × (Nat → ShT) × Int32 × Int32 × Int32 × Int32), lp (fX2_drag_l46_1) fu46_1 v46_1 = some (.inr out) → ∀ (H : Heap) (locs : List Loc), va_P D vwCl (gBo bh bk v46_1.1 ++ (gS t (bk 0) nb v46_1.2.1 ++ (gQ t (bk 3) sa ++ (g6 t sa sb v46_1.2.2.1)))) H → va_D A (gBo bh bk v46_1.1 ++ (gS t (bk 0) nb v46_1.2.1 ++ (gQ t (bk 3) sa ++ (g6 t sa sb v46_1.2.2.1)))) → va_S A s.heap H locs → ∀ ls : Array Slot, lv_has ls 8 [(3, .int v46_1.2.2.2.1), (4, .int v46_1.2.2.2.2.1), (5, .ref (nb 3)), (6, .int v46_1.2.2.2.2.2.1), (7, .int v46_1.2.2.2.2.2.2)] → W p l e ({ frames := 3, cells := 0, slots := 0, locals := 64 }) s m args below meth c H locs 0 0 (MQ below (qI D t (gBo bh bk out.2.1 ++ (gS t (bk 0) nb out.2.2.1 ++ (gQ t (bk 3) sa ++ (g6 t sa sb out.2.2.2)))) out.1 A) args s 0 0 A) (F0 m 46 ls []) := by
    intro fu46_1
    induction fu46_1 with
    | zero => intro v46_1 h; cases h
    | succ fu46_1 ih46_1 =>
      intro v46_1 h H locs hP hD hS ls hl
      have h : fX2_drag_l46_1 (lp (fX2_drag_l46_1) fu46_1) v46_1 = some (.inr out) := h
      unfold fX2_drag_l46_1 at h
      refine lv_iload hx hb dX2_drag_46 (lv_at hl 4 rfl) ?_
      refine lv_iload_n hx hb dX2_drag_48 rfl (lv_at hl 0 rfl) ?_
      refine lv_icmp_gt (tgt := 89) hx hb dX2_drag_49 (by decide) (fun c13 => ?_) (fun c13 => ?_)
      · have h := it_p c13 h
        refine lv_iload hx hb dX2_drag_89 (lv_at hl 3 rfl) ?_
        obtain rfl := oi h
        exact ret_i hx hb hr hlocks hP hK hD hS dX2_drag_91
      · have h := it_n c13 h
        refine lv_iload hx hb dX2_drag_52 (lv_at hl 4 rfl) ?_
        refine lv_bipush (v := 24) hx hb dX2_drag_54 (by decide) ?_
        refine lv_icmp_ge (tgt := 89) hx hb dX2_drag_56 (by decide) (fun c14 => ?_) (fun c14 => ?_)
        · have h := it_p c14 h
          refine lv_iload hx hb dX2_drag_89 (lv_at hl 3 rfl) ?_
          obtain rfl := oi h
          exact ret_i hx hb hr hlocks hP hK hD hS dX2_drag_91
        · have h := it_n c14 h
          refine lv_aload hx hb dX2_drag_59 (lv_at hl 2 rfl) ?_
          refine lv_iload hx hb dX2_drag_61 (lv_at hl 4 rfl) ?_
          obtain ⟨r15, h15, h⟩ := ob h
          refine call_i (v := r15) (wc := (gA t (nb 3) 24 v46_1.2.1.2.2.2.1)) (wc' := (gA t (nb 3) 24 v46_1.2.1.2.2.2.1)) (ws' := (gBo bh bk v46_1.1 ++ (gS t (bk 0) nb v46_1.2.1 ++ (gQ t (bk 3) sa ++ (g6 t sa sb v46_1.2.2.1))))) (cutI (wc := (gA t (nb 3) 24 v46_1.2.1.2.2.2.1)) (wc' := (gA t (nb 3) 24 v46_1.2.1.2.2.2.1)) (ws' := (gBo bh bk v46_1.1 ++ (gS t (bk 0) nb v46_1.2.1 ++ (gQ t (bk 3) sa ++ (g6 t sa sb v46_1.2.2.1))))) [5] hP hD hS hA rfl rfl rfl rfl) hS (fun hPc hDc => va_runS (As := [.ref (nb 3), .int v46_1.2.2.2.2.2.2]) (rest := []) ⟨hx, hb, hml, hown, hts⟩ (mtX2_at l D t (nb 3) 24 v46_1.2.1.2.2.2.1 v46_1.2.2.2.2.2.2 r15 h15 (by decide) _) (va_cwS 2 hts (gBS kw157 kw65 kw2 kw66) rfl rfl rfl (by decide +kernel) ⟨Nat.le_of_ble_eq_true rfl, Nat.le_of_ble_eq_true rfl⟩) (sPc_S hPc hK hDc hE) rfl rfl hl.1 rfl (lv_room (Nat.le_of_ble_eq_true rfl)) dX2_drag_63 ⟨Nat.zero_le _, Nat.zero_le _⟩) (fun H locs hP hD hS => ?_)
          refine lv_iload hx hb dX2_drag_66 (lv_at hl 1 rfl) ?_
          refine lv_icmp_eq (tgt := 83) hx hb dX2_drag_68 (by decide) (fun c16 => ?_) (fun c16 => ?_)
          · have h := it_p c16 h
            refine lv_iinc (v := v46_1.2.2.2.2.2.2 + 1) (lv' := [(7, .int (v46_1.2.2.2.2.2.2 + 1)), (3, .int v46_1.2.2.2.1), (4, .int v46_1.2.2.2.2.1), (5, .ref (nb 3)), (6, .int v46_1.2.2.2.2.2.1)]) hx hb dX2_drag_83 hl (k := 4) rfl rfl (by decide) rfl (fun ls hl => ?_)
            refine lv_goto (tgt := 46) hx hb dX2_drag_86 (by decide) ?_
            exact ih46_1 (v46_1.1, v46_1.2.1, v46_1.2.2.1, v46_1.2.2.2.1, v46_1.2.2.2.2.1, v46_1.2.2.2.2.2.1, v46_1.2.2.2.2.2.2 + 1) h _ _ hP hD hS _ (lv_sub hl [1, 2, 3, 4, 0] rfl)
          · have h := it_n c16 h
            refine lv_aload hx hb dX2_drag_71 (lv_at hl 2 rfl) ?_
            refine lv_iload hx hb dX2_drag_73 (lv_at hl 4 rfl) ?_
            refine lv_iload hx hb dX2_drag_75 (lv_at hl 1 rfl) ?_
            obtain ⟨r17, h17, h⟩ := ob h
            refine call_v (wc := (gA t (nb 3) 24 v46_1.2.1.2.2.2.1)) (wc' := (gA t (nb 3) 24 r17)) (ws' := (gBo bh bk v46_1.1 ++ (gS t (bk 0) nb (v46_1.2.1.1, v46_1.2.1.2.1, v46_1.2.1.2.2.1, r17, v46_1.2.1.2.2.2.2.1, v46_1.2.1.2.2.2.2.2.1, v46_1.2.1.2.2.2.2.2.2.1, v46_1.2.1.2.2.2.2.2.2.2.1, v46_1.2.1.2.2.2.2.2.2.2.2.1, v46_1.2.1.2.2.2.2.2.2.2.2.2) ++ (gQ t (bk 3) sa ++ (g6 t sa sb v46_1.2.2.1))))) (cutI (wc := (gA t (nb 3) 24 v46_1.2.1.2.2.2.1)) (wc' := (gA t (nb 3) 24 r17)) (ws' := (gBo bh bk v46_1.1 ++ (gS t (bk 0) nb (v46_1.2.1.1, v46_1.2.1.2.1, v46_1.2.1.2.2.1, r17, v46_1.2.1.2.2.2.2.1, v46_1.2.1.2.2.2.2.2.1, v46_1.2.1.2.2.2.2.2.2.1, v46_1.2.1.2.2.2.2.2.2.2.1, v46_1.2.1.2.2.2.2.2.2.2.2.1, v46_1.2.1.2.2.2.2.2.2.2.2.2) ++ (gQ t (bk 3) sa ++ (g6 t sa sb v46_1.2.2.1))))) [5] hP hD hS hA rfl rfl rfl rfl) hS (fun hPc hDc => va_runS (As := [.ref (nb 3), .int v46_1.2.2.2.2.2.2, .int v46_1.2.2.2.2.1]) (rest := []) ⟨hx, hb, hml, hown, hts⟩ (mtX2_put l D t (nb 3) 24 v46_1.2.1.2.2.2.1 v46_1.2.2.2.2.2.2 v46_1.2.2.2.2.1 r17 h17 (by decide) _) (va_cwS 3 hts (gBS kw210 kw150 kw2 kw151) rfl rfl rfl (by decide +kernel) ⟨Nat.le_of_ble_eq_true rfl, Nat.le_of_ble_eq_true rfl⟩) (sPc_S hPc hK hDc hE) rfl rfl hl.1 rfl (lv_room (Nat.le_of_ble_eq_true rfl)) dX2_drag_77 ⟨Nat.zero_le _, Nat.zero_le _⟩) (fun H locs hP hD hS => ?_)
            refine lv_iinc (v := v46_1.2.2.2.2.2.1 + 1) (lv' := [(6, .int (v46_1.2.2.2.2.2.1 + 1)), (3, .int v46_1.2.2.2.1), (4, .int v46_1.2.2.2.2.1), (5, .ref (nb 3)), (7, .int v46_1.2.2.2.2.2.2)]) hx hb dX2_drag_80 hl (k := 3) rfl rfl (by decide) rfl (fun ls hl => ?_)
            refine lv_iinc (v := v46_1.2.2.2.2.2.2 + 1) (lv' := [(7, .int (v46_1.2.2.2.2.2.2 + 1)), (6, .int (v46_1.2.2.2.2.2.1 + 1)), (3, .int v46_1.2.2.2.1), (4, .int v46_1.2.2.2.2.1), (5, .ref (nb 3))]) hx hb dX2_drag_83 hl (k := 4) rfl rfl (by decide) rfl (fun ls hl => ?_)
            refine lv_goto (tgt := 46) hx hb dX2_drag_86 (by decide) ?_
            exact ih46_1 (v46_1.1, (v46_1.2.1.1, v46_1.2.1.2.1, v46_1.2.1.2.2.1, r17, v46_1.2.1.2.2.2.2.1, v46_1.2.1.2.2.2.2.2.1, v46_1.2.1.2.2.2.2.2.2.1, v46_1.2.1.2.2.2.2.2.2.2.1, v46_1.2.1.2.2.2.2.2.2.2.2.1, v46_1.2.1.2.2.2.2.2.2.2.2.2), v46_1.2.2.1, v46_1.2.2.2.1, v46_1.2.2.2.2.1, v46_1.2.2.2.2.2.1 + 1, v46_1.2.2.2.2.2.2 + 1) h _ _ hP hD hS _ (lv_sub hl [2, 3, 4, 1, 0] rfl)
  have J46 : ∀ (fu46 : Nat) (v46 : BoT × ShT × (Nat → ShT) × Int32 × Int32 × Int32 × Int32), lp (fX2_drag_l46) fu46 v46 = some (.inr out) → ∀ (H : Heap) (locs : List Loc), va_P D vwCl (gBo bh bk v46.1 ++ (gS t (bk 0) nb v46.2.1 ++ (gQ t (bk 3) sa ++ (g6 t sa sb v46.2.2.1)))) H → va_D A (gBo bh bk v46.1 ++ (gS t (bk 0) nb v46.2.1 ++ (gQ t (bk 3) sa ++ (g6 t sa sb v46.2.2.1)))) → va_S A s.heap H locs → ∀ ls : Array Slot, lv_has ls 8 [(3, .int v46.2.2.2.1), (4, .int v46.2.2.2.2.1), (5, .ref (nb 2)), (6, .int v46.2.2.2.2.2.1), (7, .int v46.2.2.2.2.2.2)] → W p l e ({ frames := 3, cells := 0, slots := 0, locals := 64 }) s m args below meth c H locs 0 0 (MQ below (qI D t (gBo bh bk out.2.1 ++ (gS t (bk 0) nb out.2.2.1 ++ (gQ t (bk 3) sa ++ (g6 t sa sb out.2.2.2)))) out.1 A) args s 0 0 A) (F0 m 46 ls []) := by
    intro fu46
    induction fu46 with
    | zero => intro v46 h; cases h
    | succ fu46 ih46 =>
      intro v46 h H locs hP hD hS ls hl
      have h : fX2_drag_l46 (lp (fX2_drag_l46) fu46) v46 = some (.inr out) := h
      unfold fX2_drag_l46 at h
      refine lv_iload hx hb dX2_drag_46 (lv_at hl 4 rfl) ?_
      refine lv_iload_n hx hb dX2_drag_48 rfl (lv_at hl 0 rfl) ?_
      refine lv_icmp_gt (tgt := 89) hx hb dX2_drag_49 (by decide) (fun c8 => ?_) (fun c8 => ?_)
      · have h := it_p c8 h
        refine lv_iload hx hb dX2_drag_89 (lv_at hl 3 rfl) ?_
        obtain rfl := oi h
        exact ret_i hx hb hr hlocks hP hK hD hS dX2_drag_91
      · have h := it_n c8 h
        refine lv_iload hx hb dX2_drag_52 (lv_at hl 4 rfl) ?_
        refine lv_bipush (v := 24) hx hb dX2_drag_54 (by decide) ?_
        refine lv_icmp_ge (tgt := 89) hx hb dX2_drag_56 (by decide) (fun c9 => ?_) (fun c9 => ?_)
        · have h := it_p c9 h
          refine lv_iload hx hb dX2_drag_89 (lv_at hl 3 rfl) ?_
          obtain rfl := oi h
          exact ret_i hx hb hr hlocks hP hK hD hS dX2_drag_91
        · have h := it_n c9 h
          refine lv_aload hx hb dX2_drag_59 (lv_at hl 2 rfl) ?_
          refine lv_iload hx hb dX2_drag_61 (lv_at hl 4 rfl) ?_
          obtain ⟨r10, h10, h⟩ := ob h
          refine call_i (v := r10) (wc := (gA t (nb 2) 24 v46.2.1.2.2.1)) (wc' := (gA t (nb 2) 24 v46.2.1.2.2.1)) (ws' := (gBo bh bk v46.1 ++ (gS t (bk 0) nb v46.2.1 ++ (gQ t (bk 3) sa ++ (g6 t sa sb v46.2.2.1))))) (cutI (wc := (gA t (nb 2) 24 v46.2.1.2.2.1)) (wc' := (gA t (nb 2) 24 v46.2.1.2.2.1)) (ws' := (gBo bh bk v46.1 ++ (gS t (bk 0) nb v46.2.1 ++ (gQ t (bk 3) sa ++ (g6 t sa sb v46.2.2.1))))) [4] hP hD hS hA rfl rfl rfl rfl) hS (fun hPc hDc => va_runS (As := [.ref (nb 2), .int v46.2.2.2.2.2.2]) (rest := []) ⟨hx, hb, hml, hown, hts⟩ (mtX2_at l D t (nb 2) 24 v46.2.1.2.2.1 v46.2.2.2.2.2.2 r10 h10 (by decide) _) (va_cwS 2 hts (gBS kw157 kw65 kw2 kw66) rfl rfl rfl (by decide +kernel) ⟨Nat.le_of_ble_eq_true rfl, Nat.le_of_ble_eq_true rfl⟩) (sPc_S hPc hK hDc hE) rfl rfl hl.1 rfl (lv_room (Nat.le_of_ble_eq_true rfl)) dX2_drag_63 ⟨Nat.zero_le _, Nat.zero_le _⟩) (fun H locs hP hD hS => ?_)
          refine lv_iload hx hb dX2_drag_66 (lv_at hl 1 rfl) ?_
          refine lv_icmp_eq (tgt := 83) hx hb dX2_drag_68 (by decide) (fun c11 => ?_) (fun c11 => ?_)
          · have h := it_p c11 h
            refine lv_iinc (v := v46.2.2.2.2.2.2 + 1) (lv' := [(7, .int (v46.2.2.2.2.2.2 + 1)), (3, .int v46.2.2.2.1), (4, .int v46.2.2.2.2.1), (5, .ref (nb 2)), (6, .int v46.2.2.2.2.2.1)]) hx hb dX2_drag_83 hl (k := 4) rfl rfl (by decide) rfl (fun ls hl => ?_)
            refine lv_goto (tgt := 46) hx hb dX2_drag_86 (by decide) ?_
            exact ih46 (v46.1, v46.2.1, v46.2.2.1, v46.2.2.2.1, v46.2.2.2.2.1, v46.2.2.2.2.2.1, v46.2.2.2.2.2.2 + 1) h _ _ hP hD hS _ (lv_sub hl [1, 2, 3, 4, 0] rfl)
          · have h := it_n c11 h
            refine lv_aload hx hb dX2_drag_71 (lv_at hl 2 rfl) ?_
            refine lv_iload hx hb dX2_drag_73 (lv_at hl 4 rfl) ?_
            refine lv_iload hx hb dX2_drag_75 (lv_at hl 1 rfl) ?_
            obtain ⟨r12, h12, h⟩ := ob h
            refine call_v (wc := (gA t (nb 2) 24 v46.2.1.2.2.1)) (wc' := (gA t (nb 2) 24 r12)) (ws' := (gBo bh bk v46.1 ++ (gS t (bk 0) nb (v46.2.1.1, v46.2.1.2.1, r12, v46.2.1.2.2.2.1, v46.2.1.2.2.2.2.1, v46.2.1.2.2.2.2.2.1, v46.2.1.2.2.2.2.2.2.1, v46.2.1.2.2.2.2.2.2.2.1, v46.2.1.2.2.2.2.2.2.2.2.1, v46.2.1.2.2.2.2.2.2.2.2.2) ++ (gQ t (bk 3) sa ++ (g6 t sa sb v46.2.2.1))))) (cutI (wc := (gA t (nb 2) 24 v46.2.1.2.2.1)) (wc' := (gA t (nb 2) 24 r12)) (ws' := (gBo bh bk v46.1 ++ (gS t (bk 0) nb (v46.2.1.1, v46.2.1.2.1, r12, v46.2.1.2.2.2.1, v46.2.1.2.2.2.2.1, v46.2.1.2.2.2.2.2.1, v46.2.1.2.2.2.2.2.2.1, v46.2.1.2.2.2.2.2.2.2.1, v46.2.1.2.2.2.2.2.2.2.2.1, v46.2.1.2.2.2.2.2.2.2.2.2) ++ (gQ t (bk 3) sa ++ (g6 t sa sb v46.2.2.1))))) [4] hP hD hS hA rfl rfl rfl rfl) hS (fun hPc hDc => va_runS (As := [.ref (nb 2), .int v46.2.2.2.2.2.2, .int v46.2.2.2.2.1]) (rest := []) ⟨hx, hb, hml, hown, hts⟩ (mtX2_put l D t (nb 2) 24 v46.2.1.2.2.1 v46.2.2.2.2.2.2 v46.2.2.2.2.1 r12 h12 (by decide) _) (va_cwS 3 hts (gBS kw210 kw150 kw2 kw151) rfl rfl rfl (by decide +kernel) ⟨Nat.le_of_ble_eq_true rfl, Nat.le_of_ble_eq_true rfl⟩) (sPc_S hPc hK hDc hE) rfl rfl hl.1 rfl (lv_room (Nat.le_of_ble_eq_true rfl)) dX2_drag_77 ⟨Nat.zero_le _, Nat.zero_le _⟩) (fun H locs hP hD hS => ?_)
            refine lv_iinc (v := v46.2.2.2.2.2.1 + 1) (lv' := [(6, .int (v46.2.2.2.2.2.1 + 1)), (3, .int v46.2.2.2.1), (4, .int v46.2.2.2.2.1), (5, .ref (nb 2)), (7, .int v46.2.2.2.2.2.2)]) hx hb dX2_drag_80 hl (k := 3) rfl rfl (by decide) rfl (fun ls hl => ?_)
            refine lv_iinc (v := v46.2.2.2.2.2.2 + 1) (lv' := [(7, .int (v46.2.2.2.2.2.2 + 1)), (6, .int (v46.2.2.2.2.2.1 + 1)), (3, .int v46.2.2.2.1), (4, .int v46.2.2.2.2.1), (5, .ref (nb 2))]) hx hb dX2_drag_83 hl (k := 4) rfl rfl (by decide) rfl (fun ls hl => ?_)
            refine lv_goto (tgt := 46) hx hb dX2_drag_86 (by decide) ?_
            exact ih46 (v46.1, (v46.2.1.1, v46.2.1.2.1, r12, v46.2.1.2.2.2.1, v46.2.1.2.2.2.2.1, v46.2.1.2.2.2.2.2.1, v46.2.1.2.2.2.2.2.2.1, v46.2.1.2.2.2.2.2.2.2.1, v46.2.1.2.2.2.2.2.2.2.2.1, v46.2.1.2.2.2.2.2.2.2.2.2), v46.2.2.1, v46.2.2.2.1, v46.2.2.2.2.1, v46.2.2.2.2.2.1 + 1, v46.2.2.2.2.2.2 + 1) h _ _ hP hD hS _ (lv_sub hl [2, 3, 4, 1, 0] rfl)
  refine lv_iload_n hx hb dX2_drag_0 rfl (lv_at hl 1 rfl) ?_
  obtain ⟨r1, h1, h⟩ := tb_r h
  refine call_v (wc := ([] : va_W)) (wc' := ([] : va_W)) (ws' := (gBo bh bk bo ++ (gS t (bk 0) nb now ++ (gQ t (bk 3) sa ++ (g6 t sa sb sv))))) (cutB (bs := [gBo bh bk bo, gS t (bk 0) nb now, gQ t (bk 3) sa, g6 t sa sb sv]) (cs := []) (cs' := []) (bs' := [gBo bh bk bo, gS t (bk 0) nb now, gQ t (bk 3) sa, g6 t sa sb sv]) [] hP hD hS hA rfl rfl rfl rfl) hS (fun hPc hDc => va_runS (As := [.int cu]) (rest := []) ⟨hx, hb, hml, hown, hts⟩ (mtX2_needCurtain l D t cu r1 h1 _) (va_cwS 1 hts (gBS kw163 kw164 kw2 kw165) rfl rfl rfl (by decide +kernel) ⟨Nat.le_of_ble_eq_true rfl, Nat.le_of_ble_eq_true rfl⟩) (sPc_S hPc hK hDc hE) rfl rfl hl.1 rfl (lv_room (Nat.le_of_ble_eq_true rfl)) dX2_drag_1 ⟨Nat.zero_le _, Nat.zero_le _⟩) (fun H locs hP hD hS => ?_)
  refine lv_iload_n hx hb dX2_drag_4 rfl (lv_at hl 2 rfl) ?_
  refine lv_iconst (v := 0) hx hb dX2_drag_5 (by decide) ?_
  refine lv_bipush (v := 23) hx hb dX2_drag_6 (by decide) ?_
  obtain ⟨r2, h2, h⟩ := tb_r h
  refine call_v (wc := ([] : va_W)) (wc' := ([] : va_W)) (ws' := (gBo bh bk bo ++ (gS t (bk 0) nb now ++ (gQ t (bk 3) sa ++ (g6 t sa sb sv))))) (cutB (bs := [gBo bh bk bo, gS t (bk 0) nb now, gQ t (bk 3) sa, g6 t sa sb sv]) (cs := []) (cs' := []) (bs' := [gBo bh bk bo, gS t (bk 0) nb now, gQ t (bk 3) sa, g6 t sa sb sv]) [] hP hD hS hA rfl rfl rfl rfl) hS (fun hPc hDc => va_runS (As := [.int k1, .int 0, .int 23]) (rest := []) ⟨hx, hb, hml, hown, hts⟩ (mtX2_needRange l D t k1 0 23 r2 h2 _) (va_cwS 3 hts (gBS kw52 kw53 kw2 kw54) rfl rfl rfl (by decide +kernel) ⟨Nat.le_of_ble_eq_true rfl, Nat.le_of_ble_eq_true rfl⟩) (sPc_S hPc hK hDc hE) rfl rfl hl.1 rfl (lv_room (Nat.le_of_ble_eq_true rfl)) dX2_drag_8 ⟨Nat.zero_le _, Nat.zero_le _⟩) (fun H locs hP hD hS => ?_)
  refine lv_iload_n hx hb dX2_drag_11 rfl (lv_at hl 3 rfl) ?_
  refine lv_iload_n hx hb dX2_drag_12 rfl (lv_at hl 2 rfl) ?_
  refine lv_bipush (v := 23) hx hb dX2_drag_13 (by decide) ?_
  obtain ⟨r3, h3, h⟩ := tb_r h
  refine call_v (wc := ([] : va_W)) (wc' := ([] : va_W)) (ws' := (gBo bh bk bo ++ (gS t (bk 0) nb now ++ (gQ t (bk 3) sa ++ (g6 t sa sb sv))))) (cutB (bs := [gBo bh bk bo, gS t (bk 0) nb now, gQ t (bk 3) sa, g6 t sa sb sv]) (cs := []) (cs' := []) (bs' := [gBo bh bk bo, gS t (bk 0) nb now, gQ t (bk 3) sa, g6 t sa sb sv]) [] hP hD hS hA rfl rfl rfl rfl) hS (fun hPc hDc => va_runS (As := [.int k2, .int k1, .int 23]) (rest := []) ⟨hx, hb, hml, hown, hts⟩ (mtX2_needRange l D t k2 k1 23 r3 h3 _) (va_cwS 3 hts (gBS kw52 kw53 kw2 kw54) rfl rfl rfl (by decide +kernel) ⟨Nat.le_of_ble_eq_true rfl, Nat.le_of_ble_eq_true rfl⟩) (sPc_S hPc hK hDc hE) rfl rfl hl.1 rfl (lv_room (Nat.le_of_ble_eq_true rfl)) dX2_drag_15 ⟨Nat.zero_le _, Nat.zero_le _⟩) (fun H locs hP hD hS => ?_)
  refine lv_iload hx hb dX2_drag_18 (lv_at hl 4 rfl) ?_
  refine lv_iconst (v := 0) hx hb dX2_drag_20 (by decide) ?_
  refine lv_bipush (v := 50) hx hb dX2_drag_21 (by decide) ?_
  obtain ⟨r4, h4, h⟩ := tb_r h
  refine call_v (wc := ([] : va_W)) (wc' := ([] : va_W)) (ws' := (gBo bh bk bo ++ (gS t (bk 0) nb now ++ (gQ t (bk 3) sa ++ (g6 t sa sb sv))))) (cutB (bs := [gBo bh bk bo, gS t (bk 0) nb now, gQ t (bk 3) sa, g6 t sa sb sv]) (cs := []) (cs' := []) (bs' := [gBo bh bk bo, gS t (bk 0) nb now, gQ t (bk 3) sa, g6 t sa sb sv]) [] hP hD hS hA rfl rfl rfl rfl) hS (fun hPc hDc => va_runS (As := [.int dr, .int 0, .int 50]) (rest := []) ⟨hx, hb, hml, hown, hts⟩ (mtX2_needRange l D t dr 0 50 r4 h4 _) (va_cwS 3 hts (gBS kw52 kw53 kw2 kw54) rfl rfl rfl (by decide +kernel) ⟨Nat.le_of_ble_eq_true rfl, Nat.le_of_ble_eq_true rfl⟩) (sPc_S hPc hK hDc hE) rfl rfl hl.1 rfl (lv_room (Nat.le_of_ble_eq_true rfl)) dX2_drag_23 ⟨Nat.zero_le _, Nat.zero_le _⟩) (fun H locs hP hD hS => ?_)
  refine lv_aload_n hx hb dX2_drag_26 rfl (lv_at hl 0 rfl) ?_
  obtain ⟨r5, h5, h⟩ := ob h
  refine call_v (wc := (gBo bh bk bo ++ (gS t (bk 0) nb now ++ (gQ t (bk 3) sa ++ (g6 t sa sb sv))))) (wc' := (gBo bh bk r5.1 ++ (gS t (bk 0) nb now ++ (gQ t (bk 3) sa ++ (g6 t sa sb r5.2))))) (ws' := (gBo bh bk r5.1 ++ (gS t (bk 0) nb now ++ (gQ t (bk 3) sa ++ (g6 t sa sb r5.2))))) (cutB (bs := [gBo bh bk bo, gS t (bk 0) nb now, gQ t (bk 3) sa, g6 t sa sb sv]) (cs := [gBo bh bk bo, gS t (bk 0) nb now, gQ t (bk 3) sa, g6 t sa sb sv]) (cs' := [gBo bh bk r5.1, gS t (bk 0) nb now, gQ t (bk 3) sa, g6 t sa sb r5.2]) (bs' := [gBo bh bk r5.1, gS t (bk 0) nb now, gQ t (bk 3) sa, g6 t sa sb r5.2]) [0, 1, 2, 3] hP hD hS hA rfl rfl rfl rfl) hS (fun hPc hDc => va_runV (As := []) (rest := []) ⟨hx, hb, hml, hown, hts⟩ (mtX2_saveState l D t bh bk bo nb now sa sb sv r5 h5 _) (cwV 0 hts (gBV kw201 kw202 kw203 kw2 kw204) rfl rfl rfl (by decide +kernel) ⟨Nat.le_of_ble_eq_true rfl, Nat.le_of_ble_eq_true rfl⟩) (sPc_V hPc hK hDc hE (va_recv hK hP (ci := 2) (q0 := 0) rfl rfl)) rfl rfl hl.1 rfl (lv_room (Nat.le_of_ble_eq_true rfl)) dX2_drag_27 ⟨Nat.zero_le _, Nat.zero_le _⟩) (fun H locs hP hD hS => ?_)
  refine lv_aload_n hx hb dX2_drag_30 rfl (lv_at hl 0 rfl) ?_
  refine va_get (D := D) (ci := 2) (v := .ref (bk 0)) (C := RX2) (T := TX2) (N := 8) hx hb htB inlX2 hown hK hP 0 rfl rfl 0 (by decide) (htB _ kw12) (fun _ h9 => h9) rfl dX2_drag_31 ?_
  refine lv_iload_n hx hb dX2_drag_34 rfl (lv_at hl 1 rfl) ?_
  obtain ⟨r6, h6, h⟩ := ob h
  refine call_r (v := if cu = 0 then nb 2 else nb 3) (wc := (gS t (bk 0) nb now)) (wc' := (gS t (bk 0) nb now)) (ws' := (gBo bh bk r5.1 ++ (gS t (bk 0) nb now ++ (gQ t (bk 3) sa ++ (g6 t sa sb r5.2))))) (cutB (bs := [gBo bh bk r5.1, gS t (bk 0) nb now, gQ t (bk 3) sa, g6 t sa sb r5.2]) (cs := [gS t (bk 0) nb now]) (cs' := [gS t (bk 0) nb now]) (bs' := [gBo bh bk r5.1, gS t (bk 0) nb now, gQ t (bk 3) sa, g6 t sa sb r5.2]) [1] hP hD hS hA rfl rfl rfl rfl) hS (fun hPc hDc => va_runV (As := [.int cu]) (rest := []) ⟨hx, hb, hml, hown, hts⟩ (mtX1_dragsOf l D t (bk 0) nb now cu r6 h6 _) (cwV 1 hts (gBV kw215 kw171 kw172 kw11 kw173) rfl rfl rfl (by decide +kernel) ⟨Nat.le_of_ble_eq_true rfl, Nat.le_of_ble_eq_true rfl⟩) (sPc_V hPc hK hDc hE (va_recv hK hP (ci := 1) (q0 := 1) rfl rfl)) rfl rfl hl.1 rfl (lv_room (Nat.le_of_ble_eq_true rfl)) dX2_drag_35 ⟨Nat.zero_le _, Nat.zero_le _⟩) (fun H locs hP hD hS => ?_)
  by_cases c7 : cu = 0
  · have h := it_p c7 h
    rw [if_pos c7]
    refine lv_astore (lv' := [(5, .ref (nb 2)), (0, .ref bh), (1, .int cu), (2, .int k1), (3, .int k2), (4, .int dr)]) hx hb dX2_drag_38 hl (by decide) rfl (fun ls hl => ?_)
    refine lv_iconst (v := 0) hx hb dX2_drag_40 (by decide) ?_
    refine lv_istore (lv' := [(6, .int 0), (5, .ref (nb 2)), (0, .ref bh), (1, .int cu), (2, .int k1), (3, .int k2), (4, .int dr)]) hx hb dX2_drag_41 hl (by decide) rfl (fun ls hl => ?_)
    refine lv_iload_n hx hb dX2_drag_43 rfl (lv_at hl 4 rfl) ?_
    refine lv_istore (lv' := [(7, .int k1), (6, .int 0), (5, .ref (nb 2)), (0, .ref bh), (1, .int cu), (2, .int k1), (3, .int k2), (4, .int dr)]) hx hb dX2_drag_44 hl (by decide) rfl (fun ls hl => ?_)
    exact J46 2000 (r5.1, now, r5.2, k2, dr, 0, k1) h _ _ hP hD hS _ (lv_sub hl [6, 7, 2, 1, 0] rfl)
  · have h := it_n c7 h
    rw [if_neg c7]
    refine lv_astore (lv' := [(5, .ref (nb 3)), (0, .ref bh), (1, .int cu), (2, .int k1), (3, .int k2), (4, .int dr)]) hx hb dX2_drag_38 hl (by decide) rfl (fun ls hl => ?_)
    refine lv_iconst (v := 0) hx hb dX2_drag_40 (by decide) ?_
    refine lv_istore (lv' := [(6, .int 0), (5, .ref (nb 3)), (0, .ref bh), (1, .int cu), (2, .int k1), (3, .int k2), (4, .int dr)]) hx hb dX2_drag_41 hl (by decide) rfl (fun ls hl => ?_)
    refine lv_iload_n hx hb dX2_drag_43 rfl (lv_at hl 4 rfl) ?_
    refine lv_istore (lv' := [(7, .int k1), (6, .int 0), (5, .ref (nb 3)), (0, .ref bh), (1, .int cu), (2, .int k1), (3, .int k2), (4, .int dr)]) hx hb dX2_drag_44 hl (by decide) rfl (fun ls hl => ?_)
    exact J46_1 2000 (r5.1, now, r5.2, k2, dr, 0, k1) h _ _ hP hD hS _ (lv_sub hl [6, 7, 2, 1, 0] rfl)

theorem dX2_clean_0 : decode cX2_clean 0 = .ok (.iload_n 1, 1) := by decide +kernel
theorem dX2_clean_1 : decode cX2_clean 1 = .ok (.invokestatic 44, 3) := by decide +kernel
theorem dX2_clean_4 : decode cX2_clean 4 = .ok (.aload_n 0, 1) := by decide +kernel
theorem dX2_clean_5 : decode cX2_clean 5 = .ok (.invokevirtual 52, 3) := by decide +kernel
theorem dX2_clean_8 : decode cX2_clean 8 = .ok (.aload_n 0, 1) := by decide +kernel
theorem dX2_clean_9 : decode cX2_clean 9 = .ok (.getfield 10, 3) := by decide +kernel
theorem dX2_clean_12 : decode cX2_clean 12 = .ok (.getfield 70, 3) := by decide +kernel
theorem dX2_clean_15 : decode cX2_clean 15 = .ok (.iload_n 1, 1) := by decide +kernel
theorem dX2_clean_16 : decode cX2_clean 16 = .ok (.invokestatic 58, 3) := by decide +kernel
theorem dX2_clean_19 : decode cX2_clean 19 = .ok (.istore_n 2, 1) := by decide +kernel
theorem dX2_clean_20 : decode cX2_clean 20 = .ok (.aload_n 0, 1) := by decide +kernel
theorem dX2_clean_21 : decode cX2_clean 21 = .ok (.getfield 10, 3) := by decide +kernel
theorem dX2_clean_24 : decode cX2_clean 24 = .ok (.getfield 70, 3) := by decide +kernel
theorem dX2_clean_27 : decode cX2_clean 27 = .ok (.iload_n 1, 1) := by decide +kernel
theorem dX2_clean_28 : decode cX2_clean 28 = .ok (.iconst 0, 1) := by decide +kernel
theorem dX2_clean_29 : decode cX2_clean 29 = .ok (.invokestatic 62, 3) := by decide +kernel
theorem dX2_clean_32 : decode cX2_clean 32 = .ok (.iload_n 2, 1) := by decide +kernel
theorem dX2_clean_33 : decode cX2_clean 33 = .ok (.ireturn, 1) := by decide +kernel
abbrev zX2_clean : List Cond := .code yX2_clean cX2_clean 3 (some .int) :: BIG
def fX2_clean (bo : BoT) (now : ShT) (sv : (Nat → ShT)) (cu : Int32) : Option (Nat ⊕ (Int32 × BoT × ShT × (Nat → ShT))) := tb (fX2_needCurtain cu) (fun r1 => (fX2_saveState bo now sv).bind (fun r2 => (fX2_at 2 now.2.1 cu).bind (fun r3 => (fX2_put 2 now.2.1 cu 0).bind (fun r4 => some (.inr (r3, r2.1, (now.1, r4, now.2.2.1, now.2.2.2.1, now.2.2.2.2.1, now.2.2.2.2.2.1, now.2.2.2.2.2.2.1, now.2.2.2.2.2.2.2.1, now.2.2.2.2.2.2.2.2.1, now.2.2.2.2.2.2.2.2.2), r2.2))))))
set_option maxHeartbeats 4000000 in
set_option maxRecDepth 100000 in
theorem mtX2_clean (l : Launch) (D : va_G) (t : Nat → ClassId) (bh : Nat) (bk : Nat → Nat) (bo : BoT) (nb : Nat → Nat) (now : ShT) (sa : Nat → Nat) (sb : Nat → Nat → Nat) (sv : (Nat → ShT)) (cu : Int32) (out : Int32 × BoT × ShT × (Nat → ShT)) (h : fX2_clean bo now sv cu = some (.inr out))  (sz : Nat) : Met l yX2_clean zX2_clean ({ frames := 3, cells := 0, slots := 0, locals := 64 }) (sPc D t (gBo bh bk bo ++ (gS t (bk 0) nb now ++ (gQ t (bk 3) sa ++ (g6 t sa sb sv)))) sz [.ref bh, .int cu]) (qI D t (gBo bh bk out.2.1 ++ (gS t (bk 0) nb out.2.2.1 ++ (gQ t (bk 3) sa ++ (g6 t sa sb out.2.2.2)))) out.1 (va_A (gBo bh bk bo ++ (gS t (bk 0) nb now ++ (gQ t (bk 3) sa ++ (g6 t sa sb sv)))) sz)) 0 0 (va_A (gBo bh bk bo ++ (gS t (bk 0) nb now ++ (gQ t (bk 3) sa ++ (g6 t sa sb sv)))) sz) := by
  refine met_of (Qf := fun A => qI D t (gBo bh bk out.2.1 ++ (gS t (bk 0) nb out.2.2.1 ++ (gQ t (bk 3) sa ++ (g6 t sa sb out.2.2.2)))) out.1 A) (cc := cX2_clean) (maxL := 3) (ret := some .int) (by decide) rfl (Nat.le_of_ble_eq_true rfl) ?_
  intro p e s m args below meth c A hx hb hr hml hts hown hlocks hA hP hK hD hE hS ls hl
  have htB : ∀ w ∈ BIG, w.before args s = true := fun w h => hts w (List.mem_cons_of_mem _ h)
  have hown : s.vm.findClass RX2 = some m.cls := hown
  have hl : lv_has ls 3 [(0, .ref bh), (1, .int cu)] := hl
  unfold fX2_clean at h
  refine lv_iload_n hx hb dX2_clean_0 rfl (lv_at hl 1 rfl) ?_
  obtain ⟨r1, h1, h⟩ := tb_r h
  refine call_v (wc := ([] : va_W)) (wc' := ([] : va_W)) (ws' := (gBo bh bk bo ++ (gS t (bk 0) nb now ++ (gQ t (bk 3) sa ++ (g6 t sa sb sv))))) (cutB (bs := [gBo bh bk bo, gS t (bk 0) nb now, gQ t (bk 3) sa, g6 t sa sb sv]) (cs := []) (cs' := []) (bs' := [gBo bh bk bo, gS t (bk 0) nb now, gQ t (bk 3) sa, g6 t sa sb sv]) [] hP hD hS hA rfl rfl rfl rfl) hS (fun hPc hDc => va_runS (As := [.int cu]) (rest := []) ⟨hx, hb, hml, hown, hts⟩ (mtX2_needCurtain l D t cu r1 h1 _) (va_cwS 1 hts (gBS kw163 kw164 kw2 kw165) rfl rfl rfl (by decide +kernel) ⟨Nat.le_of_ble_eq_true rfl, Nat.le_of_ble_eq_true rfl⟩) (sPc_S hPc hK hDc hE) rfl rfl hl.1 rfl (lv_room (Nat.le_of_ble_eq_true rfl)) dX2_clean_1 ⟨Nat.zero_le _, Nat.zero_le _⟩) (fun H locs hP hD hS => ?_)
  refine lv_aload_n hx hb dX2_clean_4 rfl (lv_at hl 0 rfl) ?_
  obtain ⟨r2, h2, h⟩ := ob h
  refine call_v (wc := (gBo bh bk bo ++ (gS t (bk 0) nb now ++ (gQ t (bk 3) sa ++ (g6 t sa sb sv))))) (wc' := (gBo bh bk r2.1 ++ (gS t (bk 0) nb now ++ (gQ t (bk 3) sa ++ (g6 t sa sb r2.2))))) (ws' := (gBo bh bk r2.1 ++ (gS t (bk 0) nb now ++ (gQ t (bk 3) sa ++ (g6 t sa sb r2.2))))) (cutB (bs := [gBo bh bk bo, gS t (bk 0) nb now, gQ t (bk 3) sa, g6 t sa sb sv]) (cs := [gBo bh bk bo, gS t (bk 0) nb now, gQ t (bk 3) sa, g6 t sa sb sv]) (cs' := [gBo bh bk r2.1, gS t (bk 0) nb now, gQ t (bk 3) sa, g6 t sa sb r2.2]) (bs' := [gBo bh bk r2.1, gS t (bk 0) nb now, gQ t (bk 3) sa, g6 t sa sb r2.2]) [0, 1, 2, 3] hP hD hS hA rfl rfl rfl rfl) hS (fun hPc hDc => va_runV (As := []) (rest := []) ⟨hx, hb, hml, hown, hts⟩ (mtX2_saveState l D t bh bk bo nb now sa sb sv r2 h2 _) (cwV 0 hts (gBV kw201 kw202 kw203 kw2 kw204) rfl rfl rfl (by decide +kernel) ⟨Nat.le_of_ble_eq_true rfl, Nat.le_of_ble_eq_true rfl⟩) (sPc_V hPc hK hDc hE (va_recv hK hP (ci := 2) (q0 := 0) rfl rfl)) rfl rfl hl.1 rfl (lv_room (Nat.le_of_ble_eq_true rfl)) dX2_clean_5 ⟨Nat.zero_le _, Nat.zero_le _⟩) (fun H locs hP hD hS => ?_)
  refine lv_aload_n hx hb dX2_clean_8 rfl (lv_at hl 0 rfl) ?_
  refine va_get (D := D) (ci := 2) (v := .ref (bk 0)) (C := RX2) (T := TX2) (N := 8) hx hb htB inlX2 hown hK hP 0 rfl rfl 0 (by decide) (htB _ kw12) (fun _ h9 => h9) rfl dX2_clean_9 ?_
  refine va_get (D := D) (ci := 1) (v := .ref (nb 1)) (C := RX1) (T := TX1) (N := 10) hx hb htB inlX1 hown hK hP 1 rfl rfl 1 (by decide) (htB _ kw162) (fun _ h9 => h9) rfl dX2_clean_12 ?_
  refine lv_iload_n hx hb dX2_clean_15 rfl (lv_at hl 1 rfl) ?_
  obtain ⟨r3, h3, h⟩ := ob h
  refine call_i (v := r3) (wc := (gA t (nb 1) 2 now.2.1)) (wc' := (gA t (nb 1) 2 now.2.1)) (ws' := (gBo bh bk r2.1 ++ (gS t (bk 0) nb now ++ (gQ t (bk 3) sa ++ (g6 t sa sb r2.2))))) (cutI (wc := (gA t (nb 1) 2 now.2.1)) (wc' := (gA t (nb 1) 2 now.2.1)) (ws' := (gBo bh bk r2.1 ++ (gS t (bk 0) nb now ++ (gQ t (bk 3) sa ++ (g6 t sa sb r2.2))))) [3] hP hD hS hA rfl rfl rfl rfl) hS (fun hPc hDc => va_runS (As := [.ref (nb 1), .int cu]) (rest := []) ⟨hx, hb, hml, hown, hts⟩ (mtX2_at l D t (nb 1) 2 now.2.1 cu r3 h3 (by decide) _) (va_cwS 2 hts (gBS kw157 kw65 kw2 kw66) rfl rfl rfl (by decide +kernel) ⟨Nat.le_of_ble_eq_true rfl, Nat.le_of_ble_eq_true rfl⟩) (sPc_S hPc hK hDc hE) rfl rfl hl.1 rfl (lv_room (Nat.le_of_ble_eq_true rfl)) dX2_clean_16 ⟨Nat.zero_le _, Nat.zero_le _⟩) (fun H locs hP hD hS => ?_)
  refine lv_istore_n (lv' := [(2, .int r3), (0, .ref bh), (1, .int cu)]) hx hb dX2_clean_19 rfl hl (by decide) rfl (fun ls hl => ?_)
  refine lv_aload_n hx hb dX2_clean_20 rfl (lv_at hl 1 rfl) ?_
  refine va_get (D := D) (ci := 2) (v := .ref (bk 0)) (C := RX2) (T := TX2) (N := 8) hx hb htB inlX2 hown hK hP 0 rfl rfl 0 (by decide) (htB _ kw12) (fun _ h9 => h9) rfl dX2_clean_21 ?_
  refine va_get (D := D) (ci := 1) (v := .ref (nb 1)) (C := RX1) (T := TX1) (N := 10) hx hb htB inlX1 hown hK hP 1 rfl rfl 1 (by decide) (htB _ kw162) (fun _ h9 => h9) rfl dX2_clean_24 ?_
  refine lv_iload_n hx hb dX2_clean_27 rfl (lv_at hl 2 rfl) ?_
  refine lv_iconst (v := 0) hx hb dX2_clean_28 (by decide) ?_
  obtain ⟨r4, h4, h⟩ := ob h
  refine call_v (wc := (gA t (nb 1) 2 now.2.1)) (wc' := (gA t (nb 1) 2 r4)) (ws' := (gBo bh bk r2.1 ++ (gS t (bk 0) nb (now.1, r4, now.2.2.1, now.2.2.2.1, now.2.2.2.2.1, now.2.2.2.2.2.1, now.2.2.2.2.2.2.1, now.2.2.2.2.2.2.2.1, now.2.2.2.2.2.2.2.2.1, now.2.2.2.2.2.2.2.2.2) ++ (gQ t (bk 3) sa ++ (g6 t sa sb r2.2))))) (cutI (wc := (gA t (nb 1) 2 now.2.1)) (wc' := (gA t (nb 1) 2 r4)) (ws' := (gBo bh bk r2.1 ++ (gS t (bk 0) nb (now.1, r4, now.2.2.1, now.2.2.2.1, now.2.2.2.2.1, now.2.2.2.2.2.1, now.2.2.2.2.2.2.1, now.2.2.2.2.2.2.2.1, now.2.2.2.2.2.2.2.2.1, now.2.2.2.2.2.2.2.2.2) ++ (gQ t (bk 3) sa ++ (g6 t sa sb r2.2))))) [3] hP hD hS hA rfl rfl rfl rfl) hS (fun hPc hDc => va_runS (As := [.ref (nb 1), .int cu, .int 0]) (rest := []) ⟨hx, hb, hml, hown, hts⟩ (mtX2_put l D t (nb 1) 2 now.2.1 cu 0 r4 h4 (by decide) _) (va_cwS 3 hts (gBS kw210 kw150 kw2 kw151) rfl rfl rfl (by decide +kernel) ⟨Nat.le_of_ble_eq_true rfl, Nat.le_of_ble_eq_true rfl⟩) (sPc_S hPc hK hDc hE) rfl rfl hl.1 rfl (lv_room (Nat.le_of_ble_eq_true rfl)) dX2_clean_29 ⟨Nat.zero_le _, Nat.zero_le _⟩) (fun H locs hP hD hS => ?_)
  refine lv_iload_n hx hb dX2_clean_32 rfl (lv_at hl 0 rfl) ?_
  obtain rfl := oi h
  exact ret_i hx hb hr hlocks hP hK hD hS dX2_clean_33

theorem dX2_correct_0 : decode cX2_correct 0 = .ok (.iload_n 1, 1) := by decide +kernel
theorem dX2_correct_1 : decode cX2_correct 1 = .ok (.invokestatic 73, 3) := by decide +kernel
theorem dX2_correct_4 : decode cX2_correct 4 = .ok (.iload_n 2, 1) := by decide +kernel
theorem dX2_correct_5 : decode cX2_correct 5 = .ok (.bipush (-50), 2) := by decide +kernel
theorem dX2_correct_7 : decode cX2_correct 7 = .ok (.bipush 50, 2) := by decide +kernel
theorem dX2_correct_9 : decode cX2_correct 9 = .ok (.invokestatic 48, 3) := by decide +kernel
theorem dX2_correct_12 : decode cX2_correct 12 = .ok (.aload_n 0, 1) := by decide +kernel
theorem dX2_correct_13 : decode cX2_correct 13 = .ok (.invokevirtual 52, 3) := by decide +kernel
theorem dX2_correct_16 : decode cX2_correct 16 = .ok (.aload_n 0, 1) := by decide +kernel
theorem dX2_correct_17 : decode cX2_correct 17 = .ok (.getfield 10, 3) := by decide +kernel
theorem dX2_correct_20 : decode cX2_correct 20 = .ok (.getfield 76, 3) := by decide +kernel
theorem dX2_correct_23 : decode cX2_correct 23 = .ok (.iload_n 1, 1) := by decide +kernel
theorem dX2_correct_24 : decode cX2_correct 24 = .ok (.invokestatic 58, 3) := by decide +kernel
theorem dX2_correct_27 : decode cX2_correct 27 = .ok (.istore_n 3, 1) := by decide +kernel
theorem dX2_correct_28 : decode cX2_correct 28 = .ok (.aload_n 0, 1) := by decide +kernel
theorem dX2_correct_29 : decode cX2_correct 29 = .ok (.getfield 10, 3) := by decide +kernel
theorem dX2_correct_32 : decode cX2_correct 32 = .ok (.getfield 76, 3) := by decide +kernel
theorem dX2_correct_35 : decode cX2_correct 35 = .ok (.iload_n 1, 1) := by decide +kernel
theorem dX2_correct_36 : decode cX2_correct 36 = .ok (.iload_n 2, 1) := by decide +kernel
theorem dX2_correct_37 : decode cX2_correct 37 = .ok (.invokestatic 62, 3) := by decide +kernel
theorem dX2_correct_40 : decode cX2_correct 40 = .ok (.iload_n 3, 1) := by decide +kernel
theorem dX2_correct_41 : decode cX2_correct 41 = .ok (.bipush 100, 2) := by decide +kernel
theorem dX2_correct_43 : decode cX2_correct 43 = .ok (.iadd, 1) := by decide +kernel
theorem dX2_correct_44 : decode cX2_correct 44 = .ok (.ireturn, 1) := by decide +kernel
abbrev zX2_correct : List Cond := .code yX2_correct cX2_correct 4 (some .int) :: BIG
def fX2_correct (bo : BoT) (now : ShT) (sv : (Nat → ShT)) (v : Int32) (w : Int32) : Option (Nat ⊕ (Int32 × BoT × ShT × (Nat → ShT))) := tb (fX2_needSpeed v) (fun r1 => tb (fX2_needRange w (-50) 50) (fun r2 => (fX2_saveState bo now sv).bind (fun r3 => (fX2_at 6 now.2.2.2.2.1 v).bind (fun r4 => (fX2_put 6 now.2.2.2.2.1 v w).bind (fun r5 => some (.inr (r4 + 100, r3.1, (now.1, now.2.1, now.2.2.1, now.2.2.2.1, r5, now.2.2.2.2.2.1, now.2.2.2.2.2.2.1, now.2.2.2.2.2.2.2.1, now.2.2.2.2.2.2.2.2.1, now.2.2.2.2.2.2.2.2.2), r3.2)))))))
set_option maxHeartbeats 4000000 in
set_option maxRecDepth 100000 in
theorem mtX2_correct (l : Launch) (D : va_G) (t : Nat → ClassId) (bh : Nat) (bk : Nat → Nat) (bo : BoT) (nb : Nat → Nat) (now : ShT) (sa : Nat → Nat) (sb : Nat → Nat → Nat) (sv : (Nat → ShT)) (v : Int32) (w : Int32) (out : Int32 × BoT × ShT × (Nat → ShT)) (h : fX2_correct bo now sv v w = some (.inr out))  (sz : Nat) : Met l yX2_correct zX2_correct ({ frames := 3, cells := 0, slots := 0, locals := 64 }) (sPc D t (gBo bh bk bo ++ (gS t (bk 0) nb now ++ (gQ t (bk 3) sa ++ (g6 t sa sb sv)))) sz [.ref bh, .int v, .int w]) (qI D t (gBo bh bk out.2.1 ++ (gS t (bk 0) nb out.2.2.1 ++ (gQ t (bk 3) sa ++ (g6 t sa sb out.2.2.2)))) out.1 (va_A (gBo bh bk bo ++ (gS t (bk 0) nb now ++ (gQ t (bk 3) sa ++ (g6 t sa sb sv)))) sz)) 0 0 (va_A (gBo bh bk bo ++ (gS t (bk 0) nb now ++ (gQ t (bk 3) sa ++ (g6 t sa sb sv)))) sz) := by
  refine met_of (Qf := fun A => qI D t (gBo bh bk out.2.1 ++ (gS t (bk 0) nb out.2.2.1 ++ (gQ t (bk 3) sa ++ (g6 t sa sb out.2.2.2)))) out.1 A) (cc := cX2_correct) (maxL := 4) (ret := some .int) (by decide) rfl (Nat.le_of_ble_eq_true rfl) ?_
  intro p e s m args below meth c A hx hb hr hml hts hown hlocks hA hP hK hD hE hS ls hl
  have htB : ∀ w ∈ BIG, w.before args s = true := fun w h => hts w (List.mem_cons_of_mem _ h)
  have hown : s.vm.findClass RX2 = some m.cls := hown
  have hl : lv_has ls 4 [(0, .ref bh), (1, .int v), (2, .int w)] := hl
  unfold fX2_correct at h
  refine lv_iload_n hx hb dX2_correct_0 rfl (lv_at hl 1 rfl) ?_
  obtain ⟨r1, h1, h⟩ := tb_r h
  refine call_v (wc := ([] : va_W)) (wc' := ([] : va_W)) (ws' := (gBo bh bk bo ++ (gS t (bk 0) nb now ++ (gQ t (bk 3) sa ++ (g6 t sa sb sv))))) (cutB (bs := [gBo bh bk bo, gS t (bk 0) nb now, gQ t (bk 3) sa, g6 t sa sb sv]) (cs := []) (cs' := []) (bs' := [gBo bh bk bo, gS t (bk 0) nb now, gQ t (bk 3) sa, g6 t sa sb sv]) [] hP hD hS hA rfl rfl rfl rfl) hS (fun hPc hDc => va_runS (As := [.int v]) (rest := []) ⟨hx, hb, hml, hown, hts⟩ (mtX2_needSpeed l D t v r1 h1 _) (va_cwS 1 hts (gBS kw82 kw83 kw2 kw84) rfl rfl rfl (by decide +kernel) ⟨Nat.le_of_ble_eq_true rfl, Nat.le_of_ble_eq_true rfl⟩) (sPc_S hPc hK hDc hE) rfl rfl hl.1 rfl (lv_room (Nat.le_of_ble_eq_true rfl)) dX2_correct_1 ⟨Nat.zero_le _, Nat.zero_le _⟩) (fun H locs hP hD hS => ?_)
  refine lv_iload_n hx hb dX2_correct_4 rfl (lv_at hl 2 rfl) ?_
  refine lv_bipush (v := (-50)) hx hb dX2_correct_5 (by decide) ?_
  refine lv_bipush (v := 50) hx hb dX2_correct_7 (by decide) ?_
  obtain ⟨r2, h2, h⟩ := tb_r h
  refine call_v (wc := ([] : va_W)) (wc' := ([] : va_W)) (ws' := (gBo bh bk bo ++ (gS t (bk 0) nb now ++ (gQ t (bk 3) sa ++ (g6 t sa sb sv))))) (cutB (bs := [gBo bh bk bo, gS t (bk 0) nb now, gQ t (bk 3) sa, g6 t sa sb sv]) (cs := []) (cs' := []) (bs' := [gBo bh bk bo, gS t (bk 0) nb now, gQ t (bk 3) sa, g6 t sa sb sv]) [] hP hD hS hA rfl rfl rfl rfl) hS (fun hPc hDc => va_runS (As := [.int w, .int (-50), .int 50]) (rest := []) ⟨hx, hb, hml, hown, hts⟩ (mtX2_needRange l D t w (-50) 50 r2 h2 _) (va_cwS 3 hts (gBS kw52 kw53 kw2 kw54) rfl rfl rfl (by decide +kernel) ⟨Nat.le_of_ble_eq_true rfl, Nat.le_of_ble_eq_true rfl⟩) (sPc_S hPc hK hDc hE) rfl rfl hl.1 rfl (lv_room (Nat.le_of_ble_eq_true rfl)) dX2_correct_9 ⟨Nat.zero_le _, Nat.zero_le _⟩) (fun H locs hP hD hS => ?_)
  refine lv_aload_n hx hb dX2_correct_12 rfl (lv_at hl 0 rfl) ?_
  obtain ⟨r3, h3, h⟩ := ob h
  refine call_v (wc := (gBo bh bk bo ++ (gS t (bk 0) nb now ++ (gQ t (bk 3) sa ++ (g6 t sa sb sv))))) (wc' := (gBo bh bk r3.1 ++ (gS t (bk 0) nb now ++ (gQ t (bk 3) sa ++ (g6 t sa sb r3.2))))) (ws' := (gBo bh bk r3.1 ++ (gS t (bk 0) nb now ++ (gQ t (bk 3) sa ++ (g6 t sa sb r3.2))))) (cutB (bs := [gBo bh bk bo, gS t (bk 0) nb now, gQ t (bk 3) sa, g6 t sa sb sv]) (cs := [gBo bh bk bo, gS t (bk 0) nb now, gQ t (bk 3) sa, g6 t sa sb sv]) (cs' := [gBo bh bk r3.1, gS t (bk 0) nb now, gQ t (bk 3) sa, g6 t sa sb r3.2]) (bs' := [gBo bh bk r3.1, gS t (bk 0) nb now, gQ t (bk 3) sa, g6 t sa sb r3.2]) [0, 1, 2, 3] hP hD hS hA rfl rfl rfl rfl) hS (fun hPc hDc => va_runV (As := []) (rest := []) ⟨hx, hb, hml, hown, hts⟩ (mtX2_saveState l D t bh bk bo nb now sa sb sv r3 h3 _) (cwV 0 hts (gBV kw201 kw202 kw203 kw2 kw204) rfl rfl rfl (by decide +kernel) ⟨Nat.le_of_ble_eq_true rfl, Nat.le_of_ble_eq_true rfl⟩) (sPc_V hPc hK hDc hE (va_recv hK hP (ci := 2) (q0 := 0) rfl rfl)) rfl rfl hl.1 rfl (lv_room (Nat.le_of_ble_eq_true rfl)) dX2_correct_13 ⟨Nat.zero_le _, Nat.zero_le _⟩) (fun H locs hP hD hS => ?_)
  refine lv_aload_n hx hb dX2_correct_16 rfl (lv_at hl 0 rfl) ?_
  refine va_get (D := D) (ci := 2) (v := .ref (bk 0)) (C := RX2) (T := TX2) (N := 8) hx hb htB inlX2 hown hK hP 0 rfl rfl 0 (by decide) (htB _ kw12) (fun _ h9 => h9) rfl dX2_correct_17 ?_
  refine va_get (D := D) (ci := 1) (v := .ref (nb 4)) (C := RX1) (T := TX1) (N := 10) hx hb htB inlX1 hown hK hP 1 rfl rfl 4 (by decide) (htB _ kw187) (fun _ h9 => h9) rfl dX2_correct_20 ?_
  refine lv_iload_n hx hb dX2_correct_23 rfl (lv_at hl 1 rfl) ?_
  obtain ⟨r4, h4, h⟩ := ob h
  refine call_i (v := r4) (wc := (gA t (nb 4) 6 now.2.2.2.2.1)) (wc' := (gA t (nb 4) 6 now.2.2.2.2.1)) (ws' := (gBo bh bk r3.1 ++ (gS t (bk 0) nb now ++ (gQ t (bk 3) sa ++ (g6 t sa sb r3.2))))) (cutI (wc := (gA t (nb 4) 6 now.2.2.2.2.1)) (wc' := (gA t (nb 4) 6 now.2.2.2.2.1)) (ws' := (gBo bh bk r3.1 ++ (gS t (bk 0) nb now ++ (gQ t (bk 3) sa ++ (g6 t sa sb r3.2))))) [6] hP hD hS hA rfl rfl rfl rfl) hS (fun hPc hDc => va_runS (As := [.ref (nb 4), .int v]) (rest := []) ⟨hx, hb, hml, hown, hts⟩ (mtX2_at l D t (nb 4) 6 now.2.2.2.2.1 v r4 h4 (by decide) _) (va_cwS 2 hts (gBS kw157 kw65 kw2 kw66) rfl rfl rfl (by decide +kernel) ⟨Nat.le_of_ble_eq_true rfl, Nat.le_of_ble_eq_true rfl⟩) (sPc_S hPc hK hDc hE) rfl rfl hl.1 rfl (lv_room (Nat.le_of_ble_eq_true rfl)) dX2_correct_24 ⟨Nat.zero_le _, Nat.zero_le _⟩) (fun H locs hP hD hS => ?_)
  refine lv_istore_n (lv' := [(3, .int r4), (0, .ref bh), (1, .int v), (2, .int w)]) hx hb dX2_correct_27 rfl hl (by decide) rfl (fun ls hl => ?_)
  refine lv_aload_n hx hb dX2_correct_28 rfl (lv_at hl 1 rfl) ?_
  refine va_get (D := D) (ci := 2) (v := .ref (bk 0)) (C := RX2) (T := TX2) (N := 8) hx hb htB inlX2 hown hK hP 0 rfl rfl 0 (by decide) (htB _ kw12) (fun _ h9 => h9) rfl dX2_correct_29 ?_
  refine va_get (D := D) (ci := 1) (v := .ref (nb 4)) (C := RX1) (T := TX1) (N := 10) hx hb htB inlX1 hown hK hP 1 rfl rfl 4 (by decide) (htB _ kw187) (fun _ h9 => h9) rfl dX2_correct_32 ?_
  refine lv_iload_n hx hb dX2_correct_35 rfl (lv_at hl 2 rfl) ?_
  refine lv_iload_n hx hb dX2_correct_36 rfl (lv_at hl 3 rfl) ?_
  obtain ⟨r5, h5, h⟩ := ob h
  refine call_v (wc := (gA t (nb 4) 6 now.2.2.2.2.1)) (wc' := (gA t (nb 4) 6 r5)) (ws' := (gBo bh bk r3.1 ++ (gS t (bk 0) nb (now.1, now.2.1, now.2.2.1, now.2.2.2.1, r5, now.2.2.2.2.2.1, now.2.2.2.2.2.2.1, now.2.2.2.2.2.2.2.1, now.2.2.2.2.2.2.2.2.1, now.2.2.2.2.2.2.2.2.2) ++ (gQ t (bk 3) sa ++ (g6 t sa sb r3.2))))) (cutI (wc := (gA t (nb 4) 6 now.2.2.2.2.1)) (wc' := (gA t (nb 4) 6 r5)) (ws' := (gBo bh bk r3.1 ++ (gS t (bk 0) nb (now.1, now.2.1, now.2.2.1, now.2.2.2.1, r5, now.2.2.2.2.2.1, now.2.2.2.2.2.2.1, now.2.2.2.2.2.2.2.1, now.2.2.2.2.2.2.2.2.1, now.2.2.2.2.2.2.2.2.2) ++ (gQ t (bk 3) sa ++ (g6 t sa sb r3.2))))) [6] hP hD hS hA rfl rfl rfl rfl) hS (fun hPc hDc => va_runS (As := [.ref (nb 4), .int v, .int w]) (rest := []) ⟨hx, hb, hml, hown, hts⟩ (mtX2_put l D t (nb 4) 6 now.2.2.2.2.1 v w r5 h5 (by decide) _) (va_cwS 3 hts (gBS kw210 kw150 kw2 kw151) rfl rfl rfl (by decide +kernel) ⟨Nat.le_of_ble_eq_true rfl, Nat.le_of_ble_eq_true rfl⟩) (sPc_S hPc hK hDc hE) rfl rfl hl.1 rfl (lv_room (Nat.le_of_ble_eq_true rfl)) dX2_correct_37 ⟨Nat.zero_le _, Nat.zero_le _⟩) (fun H locs hP hD hS => ?_)
  refine lv_iload_n hx hb dX2_correct_40 rfl (lv_at hl 0 rfl) ?_
  refine lv_bipush (v := 100) hx hb dX2_correct_41 (by decide) ?_
  refine lv_iadd hx hb dX2_correct_43 ?_
  obtain rfl := oi h
  exact ret_i hx hb hr hlocks hP hK hD hS dX2_correct_44

theorem dX2_set_0 : decode cX2_set 0 = .ok (.iload_n 1, 1) := by decide +kernel
theorem dX2_set_1 : decode cX2_set 1 = .ok (.invokestatic 79, 3) := by decide +kernel
theorem dX2_set_4 : decode cX2_set 4 = .ok (.iload_n 2, 1) := by decide +kernel
theorem dX2_set_5 : decode cX2_set 5 = .ok (.iload_n 1, 1) := by decide +kernel
theorem dX2_set_6 : decode cX2_set 6 = .ok (.invokestatic 82, 3) := by decide +kernel
theorem dX2_set_9 : decode cX2_set 9 = .ok (.iload_n 1, 1) := by decide +kernel
theorem dX2_set_10 : decode cX2_set 10 = .ok (.invokestatic 86, 3) := by decide +kernel
theorem dX2_set_13 : decode cX2_set 13 = .ok (.invokestatic 48, 3) := by decide +kernel
theorem dX2_set_16 : decode cX2_set 16 = .ok (.aload_n 0, 1) := by decide +kernel
theorem dX2_set_17 : decode cX2_set 17 = .ok (.invokevirtual 52, 3) := by decide +kernel
theorem dX2_set_20 : decode cX2_set 20 = .ok (.aload_n 0, 1) := by decide +kernel
theorem dX2_set_21 : decode cX2_set 21 = .ok (.getfield 10, 3) := by decide +kernel
theorem dX2_set_24 : decode cX2_set 24 = .ok (.getfield 89, 3) := by decide +kernel
theorem dX2_set_27 : decode cX2_set 27 = .ok (.iload_n 1, 1) := by decide +kernel
theorem dX2_set_28 : decode cX2_set 28 = .ok (.invokestatic 58, 3) := by decide +kernel
theorem dX2_set_31 : decode cX2_set 31 = .ok (.istore_n 3, 1) := by decide +kernel
theorem dX2_set_32 : decode cX2_set 32 = .ok (.aload_n 0, 1) := by decide +kernel
theorem dX2_set_33 : decode cX2_set 33 = .ok (.getfield 10, 3) := by decide +kernel
theorem dX2_set_36 : decode cX2_set 36 = .ok (.getfield 89, 3) := by decide +kernel
theorem dX2_set_39 : decode cX2_set 39 = .ok (.iload_n 1, 1) := by decide +kernel
theorem dX2_set_40 : decode cX2_set 40 = .ok (.iload_n 2, 1) := by decide +kernel
theorem dX2_set_41 : decode cX2_set 41 = .ok (.invokestatic 62, 3) := by decide +kernel
theorem dX2_set_44 : decode cX2_set 44 = .ok (.iload_n 3, 1) := by decide +kernel
theorem dX2_set_45 : decode cX2_set 45 = .ok (.ireturn, 1) := by decide +kernel
abbrev zX2_set : List Cond := .code yX2_set cX2_set 4 (some .int) :: BIG
def fX2_set (bo : BoT) (now : ShT) (sv : (Nat → ShT)) (v : Int32) (w : Int32) : Option (Nat ⊕ (Int32 × BoT × ShT × (Nat → ShT))) := tb (fX2_needSetting v) (fun r1 => (fX2_leastValue v).bind (fun r2 => (fX2_mostValue v).bind (fun r3 => tb (fX2_needRange w r2 r3) (fun r4 => (fX2_saveState bo now sv).bind (fun r5 => (fX2_at 4 now.2.2.2.2.2.1 v).bind (fun r6 => (fX2_put 4 now.2.2.2.2.2.1 v w).bind (fun r7 => some (.inr (r6, r5.1, (now.1, now.2.1, now.2.2.1, now.2.2.2.1, now.2.2.2.2.1, r7, now.2.2.2.2.2.2.1, now.2.2.2.2.2.2.2.1, now.2.2.2.2.2.2.2.2.1, now.2.2.2.2.2.2.2.2.2), r5.2)))))))))
set_option maxHeartbeats 4000000 in
set_option maxRecDepth 100000 in
theorem mtX2_set (l : Launch) (D : va_G) (t : Nat → ClassId) (bh : Nat) (bk : Nat → Nat) (bo : BoT) (nb : Nat → Nat) (now : ShT) (sa : Nat → Nat) (sb : Nat → Nat → Nat) (sv : (Nat → ShT)) (v : Int32) (w : Int32) (out : Int32 × BoT × ShT × (Nat → ShT)) (h : fX2_set bo now sv v w = some (.inr out))  (sz : Nat) : Met l yX2_set zX2_set ({ frames := 3, cells := 0, slots := 0, locals := 64 }) (sPc D t (gBo bh bk bo ++ (gS t (bk 0) nb now ++ (gQ t (bk 3) sa ++ (g6 t sa sb sv)))) sz [.ref bh, .int v, .int w]) (qI D t (gBo bh bk out.2.1 ++ (gS t (bk 0) nb out.2.2.1 ++ (gQ t (bk 3) sa ++ (g6 t sa sb out.2.2.2)))) out.1 (va_A (gBo bh bk bo ++ (gS t (bk 0) nb now ++ (gQ t (bk 3) sa ++ (g6 t sa sb sv)))) sz)) 0 0 (va_A (gBo bh bk bo ++ (gS t (bk 0) nb now ++ (gQ t (bk 3) sa ++ (g6 t sa sb sv)))) sz) := by
  refine met_of (Qf := fun A => qI D t (gBo bh bk out.2.1 ++ (gS t (bk 0) nb out.2.2.1 ++ (gQ t (bk 3) sa ++ (g6 t sa sb out.2.2.2)))) out.1 A) (cc := cX2_set) (maxL := 4) (ret := some .int) (by decide) rfl (Nat.le_of_ble_eq_true rfl) ?_
  intro p e s m args below meth c A hx hb hr hml hts hown hlocks hA hP hK hD hE hS ls hl
  have htB : ∀ w ∈ BIG, w.before args s = true := fun w h => hts w (List.mem_cons_of_mem _ h)
  have hown : s.vm.findClass RX2 = some m.cls := hown
  have hl : lv_has ls 4 [(0, .ref bh), (1, .int v), (2, .int w)] := hl
  unfold fX2_set at h
  refine lv_iload_n hx hb dX2_set_0 rfl (lv_at hl 1 rfl) ?_
  obtain ⟨r1, h1, h⟩ := tb_r h
  refine call_v (wc := ([] : va_W)) (wc' := ([] : va_W)) (ws' := (gBo bh bk bo ++ (gS t (bk 0) nb now ++ (gQ t (bk 3) sa ++ (g6 t sa sb sv))))) (cutB (bs := [gBo bh bk bo, gS t (bk 0) nb now, gQ t (bk 3) sa, g6 t sa sb sv]) (cs := []) (cs' := []) (bs' := [gBo bh bk bo, gS t (bk 0) nb now, gQ t (bk 3) sa, g6 t sa sb sv]) [] hP hD hS hA rfl rfl rfl rfl) hS (fun hPc hDc => va_runS (As := [.int v]) (rest := []) ⟨hx, hb, hml, hown, hts⟩ (mtX2_needSetting l D t v r1 h1 _) (va_cwS 1 hts (gBS kw229 kw230 kw2 kw231) rfl rfl rfl (by decide +kernel) ⟨Nat.le_of_ble_eq_true rfl, Nat.le_of_ble_eq_true rfl⟩) (sPc_S hPc hK hDc hE) rfl rfl hl.1 rfl (lv_room (Nat.le_of_ble_eq_true rfl)) dX2_set_1 ⟨Nat.zero_le _, Nat.zero_le _⟩) (fun H locs hP hD hS => ?_)
  refine lv_iload_n hx hb dX2_set_4 rfl (lv_at hl 2 rfl) ?_
  refine lv_iload_n hx hb dX2_set_5 rfl (lv_at hl 1 rfl) ?_
  obtain ⟨r2, h2, h⟩ := ob h
  refine call_i (v := r2) (wc := ([] : va_W)) (wc' := ([] : va_W)) (ws' := (gBo bh bk bo ++ (gS t (bk 0) nb now ++ (gQ t (bk 3) sa ++ (g6 t sa sb sv))))) (cutB (bs := [gBo bh bk bo, gS t (bk 0) nb now, gQ t (bk 3) sa, g6 t sa sb sv]) (cs := []) (cs' := []) (bs' := [gBo bh bk bo, gS t (bk 0) nb now, gQ t (bk 3) sa, g6 t sa sb sv]) [] hP hD hS hA rfl rfl rfl rfl) hS (fun hPc hDc => va_runS (As := [.int v]) (rest := [.int w]) ⟨hx, hb, hml, hown, hts⟩ (mtX2_leastValue l D t v r2 h2 _) (va_cwS 1 hts (gBS kw232 kw233 kw2 kw234) rfl rfl rfl (by decide +kernel) ⟨Nat.le_of_ble_eq_true rfl, Nat.le_of_ble_eq_true rfl⟩) (sPc_S hPc hK hDc hE) rfl rfl hl.1 rfl (lv_room (Nat.le_of_ble_eq_true rfl)) dX2_set_6 ⟨Nat.zero_le _, Nat.zero_le _⟩) (fun H locs hP hD hS => ?_)
  refine lv_iload_n hx hb dX2_set_9 rfl (lv_at hl 1 rfl) ?_
  obtain ⟨r3, h3, h⟩ := ob h
  refine call_i (v := r3) (wc := ([] : va_W)) (wc' := ([] : va_W)) (ws' := (gBo bh bk bo ++ (gS t (bk 0) nb now ++ (gQ t (bk 3) sa ++ (g6 t sa sb sv))))) (cutB (bs := [gBo bh bk bo, gS t (bk 0) nb now, gQ t (bk 3) sa, g6 t sa sb sv]) (cs := []) (cs' := []) (bs' := [gBo bh bk bo, gS t (bk 0) nb now, gQ t (bk 3) sa, g6 t sa sb sv]) [] hP hD hS hA rfl rfl rfl rfl) hS (fun hPc hDc => va_runS (As := [.int v]) (rest := [.int r2, .int w]) ⟨hx, hb, hml, hown, hts⟩ (mtX2_mostValue l D t v r3 h3 _) (va_cwS 1 hts (gBS kw235 kw236 kw2 kw237) rfl rfl rfl (by decide +kernel) ⟨Nat.le_of_ble_eq_true rfl, Nat.le_of_ble_eq_true rfl⟩) (sPc_S hPc hK hDc hE) rfl rfl hl.1 rfl (lv_room (Nat.le_of_ble_eq_true rfl)) dX2_set_10 ⟨Nat.zero_le _, Nat.zero_le _⟩) (fun H locs hP hD hS => ?_)
  obtain ⟨r4, h4, h⟩ := tb_r h
  refine call_v (wc := ([] : va_W)) (wc' := ([] : va_W)) (ws' := (gBo bh bk bo ++ (gS t (bk 0) nb now ++ (gQ t (bk 3) sa ++ (g6 t sa sb sv))))) (cutB (bs := [gBo bh bk bo, gS t (bk 0) nb now, gQ t (bk 3) sa, g6 t sa sb sv]) (cs := []) (cs' := []) (bs' := [gBo bh bk bo, gS t (bk 0) nb now, gQ t (bk 3) sa, g6 t sa sb sv]) [] hP hD hS hA rfl rfl rfl rfl) hS (fun hPc hDc => va_runS (As := [.int w, .int r2, .int r3]) (rest := []) ⟨hx, hb, hml, hown, hts⟩ (mtX2_needRange l D t w r2 r3 r4 h4 _) (va_cwS 3 hts (gBS kw52 kw53 kw2 kw54) rfl rfl rfl (by decide +kernel) ⟨Nat.le_of_ble_eq_true rfl, Nat.le_of_ble_eq_true rfl⟩) (sPc_S hPc hK hDc hE) rfl rfl hl.1 rfl (lv_room (Nat.le_of_ble_eq_true rfl)) dX2_set_13 ⟨Nat.zero_le _, Nat.zero_le _⟩) (fun H locs hP hD hS => ?_)
  refine lv_aload_n hx hb dX2_set_16 rfl (lv_at hl 0 rfl) ?_
  obtain ⟨r5, h5, h⟩ := ob h
  refine call_v (wc := (gBo bh bk bo ++ (gS t (bk 0) nb now ++ (gQ t (bk 3) sa ++ (g6 t sa sb sv))))) (wc' := (gBo bh bk r5.1 ++ (gS t (bk 0) nb now ++ (gQ t (bk 3) sa ++ (g6 t sa sb r5.2))))) (ws' := (gBo bh bk r5.1 ++ (gS t (bk 0) nb now ++ (gQ t (bk 3) sa ++ (g6 t sa sb r5.2))))) (cutB (bs := [gBo bh bk bo, gS t (bk 0) nb now, gQ t (bk 3) sa, g6 t sa sb sv]) (cs := [gBo bh bk bo, gS t (bk 0) nb now, gQ t (bk 3) sa, g6 t sa sb sv]) (cs' := [gBo bh bk r5.1, gS t (bk 0) nb now, gQ t (bk 3) sa, g6 t sa sb r5.2]) (bs' := [gBo bh bk r5.1, gS t (bk 0) nb now, gQ t (bk 3) sa, g6 t sa sb r5.2]) [0, 1, 2, 3] hP hD hS hA rfl rfl rfl rfl) hS (fun hPc hDc => va_runV (As := []) (rest := []) ⟨hx, hb, hml, hown, hts⟩ (mtX2_saveState l D t bh bk bo nb now sa sb sv r5 h5 _) (cwV 0 hts (gBV kw201 kw202 kw203 kw2 kw204) rfl rfl rfl (by decide +kernel) ⟨Nat.le_of_ble_eq_true rfl, Nat.le_of_ble_eq_true rfl⟩) (sPc_V hPc hK hDc hE (va_recv hK hP (ci := 2) (q0 := 0) rfl rfl)) rfl rfl hl.1 rfl (lv_room (Nat.le_of_ble_eq_true rfl)) dX2_set_17 ⟨Nat.zero_le _, Nat.zero_le _⟩) (fun H locs hP hD hS => ?_)
  refine lv_aload_n hx hb dX2_set_20 rfl (lv_at hl 0 rfl) ?_
  refine va_get (D := D) (ci := 2) (v := .ref (bk 0)) (C := RX2) (T := TX2) (N := 8) hx hb htB inlX2 hown hK hP 0 rfl rfl 0 (by decide) (htB _ kw12) (fun _ h9 => h9) rfl dX2_set_21 ?_
  refine va_get (D := D) (ci := 1) (v := .ref (nb 5)) (C := RX1) (T := TX1) (N := 10) hx hb htB inlX1 hown hK hP 1 rfl rfl 5 (by decide) (htB _ kw228) (fun _ h9 => h9) rfl dX2_set_24 ?_
  refine lv_iload_n hx hb dX2_set_27 rfl (lv_at hl 1 rfl) ?_
  obtain ⟨r6, h6, h⟩ := ob h
  refine call_i (v := r6) (wc := (gA t (nb 5) 4 now.2.2.2.2.2.1)) (wc' := (gA t (nb 5) 4 now.2.2.2.2.2.1)) (ws' := (gBo bh bk r5.1 ++ (gS t (bk 0) nb now ++ (gQ t (bk 3) sa ++ (g6 t sa sb r5.2))))) (cutI (wc := (gA t (nb 5) 4 now.2.2.2.2.2.1)) (wc' := (gA t (nb 5) 4 now.2.2.2.2.2.1)) (ws' := (gBo bh bk r5.1 ++ (gS t (bk 0) nb now ++ (gQ t (bk 3) sa ++ (g6 t sa sb r5.2))))) [7] hP hD hS hA rfl rfl rfl rfl) hS (fun hPc hDc => va_runS (As := [.ref (nb 5), .int v]) (rest := []) ⟨hx, hb, hml, hown, hts⟩ (mtX2_at l D t (nb 5) 4 now.2.2.2.2.2.1 v r6 h6 (by decide) _) (va_cwS 2 hts (gBS kw157 kw65 kw2 kw66) rfl rfl rfl (by decide +kernel) ⟨Nat.le_of_ble_eq_true rfl, Nat.le_of_ble_eq_true rfl⟩) (sPc_S hPc hK hDc hE) rfl rfl hl.1 rfl (lv_room (Nat.le_of_ble_eq_true rfl)) dX2_set_28 ⟨Nat.zero_le _, Nat.zero_le _⟩) (fun H locs hP hD hS => ?_)
  refine lv_istore_n (lv' := [(3, .int r6), (0, .ref bh), (1, .int v), (2, .int w)]) hx hb dX2_set_31 rfl hl (by decide) rfl (fun ls hl => ?_)
  refine lv_aload_n hx hb dX2_set_32 rfl (lv_at hl 1 rfl) ?_
  refine va_get (D := D) (ci := 2) (v := .ref (bk 0)) (C := RX2) (T := TX2) (N := 8) hx hb htB inlX2 hown hK hP 0 rfl rfl 0 (by decide) (htB _ kw12) (fun _ h9 => h9) rfl dX2_set_33 ?_
  refine va_get (D := D) (ci := 1) (v := .ref (nb 5)) (C := RX1) (T := TX1) (N := 10) hx hb htB inlX1 hown hK hP 1 rfl rfl 5 (by decide) (htB _ kw228) (fun _ h9 => h9) rfl dX2_set_36 ?_
  refine lv_iload_n hx hb dX2_set_39 rfl (lv_at hl 2 rfl) ?_
  refine lv_iload_n hx hb dX2_set_40 rfl (lv_at hl 3 rfl) ?_
  obtain ⟨r7, h7, h⟩ := ob h
  refine call_v (wc := (gA t (nb 5) 4 now.2.2.2.2.2.1)) (wc' := (gA t (nb 5) 4 r7)) (ws' := (gBo bh bk r5.1 ++ (gS t (bk 0) nb (now.1, now.2.1, now.2.2.1, now.2.2.2.1, now.2.2.2.2.1, r7, now.2.2.2.2.2.2.1, now.2.2.2.2.2.2.2.1, now.2.2.2.2.2.2.2.2.1, now.2.2.2.2.2.2.2.2.2) ++ (gQ t (bk 3) sa ++ (g6 t sa sb r5.2))))) (cutI (wc := (gA t (nb 5) 4 now.2.2.2.2.2.1)) (wc' := (gA t (nb 5) 4 r7)) (ws' := (gBo bh bk r5.1 ++ (gS t (bk 0) nb (now.1, now.2.1, now.2.2.1, now.2.2.2.1, now.2.2.2.2.1, r7, now.2.2.2.2.2.2.1, now.2.2.2.2.2.2.2.1, now.2.2.2.2.2.2.2.2.1, now.2.2.2.2.2.2.2.2.2) ++ (gQ t (bk 3) sa ++ (g6 t sa sb r5.2))))) [7] hP hD hS hA rfl rfl rfl rfl) hS (fun hPc hDc => va_runS (As := [.ref (nb 5), .int v, .int w]) (rest := []) ⟨hx, hb, hml, hown, hts⟩ (mtX2_put l D t (nb 5) 4 now.2.2.2.2.2.1 v w r7 h7 (by decide) _) (va_cwS 3 hts (gBS kw210 kw150 kw2 kw151) rfl rfl rfl (by decide +kernel) ⟨Nat.le_of_ble_eq_true rfl, Nat.le_of_ble_eq_true rfl⟩) (sPc_S hPc hK hDc hE) rfl rfl hl.1 rfl (lv_room (Nat.le_of_ble_eq_true rfl)) dX2_set_41 ⟨Nat.zero_le _, Nat.zero_le _⟩) (fun H locs hP hD hS => ?_)
  refine lv_iload_n hx hb dX2_set_44 rfl (lv_at hl 0 rfl) ?_
  obtain rfl := oi h
  exact ret_i hx hb hr hlocks hP hK hD hS dX2_set_45

theorem dX2_shoot_0 : decode cX2_shoot 0 = .ok (.iload_n 1, 1) := by decide +kernel
theorem dX2_shoot_1 : decode cX2_shoot 1 = .ok (.invokestatic 73, 3) := by decide +kernel
theorem dX2_shoot_4 : decode cX2_shoot 4 = .ok (.iload_n 2, 1) := by decide +kernel
theorem dX2_shoot_5 : decode cX2_shoot 5 = .ok (.iconst 1, 1) := by decide +kernel
theorem dX2_shoot_6 : decode cX2_shoot 6 = .ok (.bipush 50, 2) := by decide +kernel
theorem dX2_shoot_8 : decode cX2_shoot 8 = .ok (.invokestatic 48, 3) := by decide +kernel
theorem dX2_shoot_11 : decode cX2_shoot 11 = .ok (.aload_n 0, 1) := by decide +kernel
theorem dX2_shoot_12 : decode cX2_shoot 12 = .ok (.invokevirtual 52, 3) := by decide +kernel
theorem dX2_shoot_15 : decode cX2_shoot 15 = .ok (.aload_n 0, 1) := by decide +kernel
theorem dX2_shoot_16 : decode cX2_shoot 16 = .ok (.aload_n 0, 1) := by decide +kernel
theorem dX2_shoot_17 : decode cX2_shoot 17 = .ok (.getfield 10, 3) := by decide +kernel
theorem dX2_shoot_20 : decode cX2_shoot 20 = .ok (.iload_n 1, 1) := by decide +kernel
theorem dX2_shoot_21 : decode cX2_shoot 21 = .ok (.iload_n 2, 1) := by decide +kernel
theorem dX2_shoot_22 : decode cX2_shoot 22 = .ok (.invokevirtual 92, 3) := by decide +kernel
theorem dX2_shoot_25 : decode cX2_shoot 25 = .ok (.aload_n 0, 1) := by decide +kernel
theorem dX2_shoot_26 : decode cX2_shoot 26 = .ok (.getfield 22, 3) := by decide +kernel
theorem dX2_shoot_29 : decode cX2_shoot 29 = .ok (.invokevirtual 96, 3) := by decide +kernel
theorem dX2_shoot_32 : decode cX2_shoot 32 = .ok (.ireturn, 1) := by decide +kernel
abbrev zX2_shoot : List Cond := .code yX2_shoot cX2_shoot 3 (some .int) :: BIG
def fX2_shoot (bo : BoT) (now : ShT) (ex : ExT) (sv : (Nat → ShT)) (v : Int32) (w : Int32) : Option (Nat ⊕ (Int32 × BoT × ShT × ExT × (Nat → ShT))) := tb (fX2_needSpeed v) (fun r1 => tb (fX2_needRange w 1 50) (fun r2 => (fX2_saveState bo now sv).bind (fun r3 => (fX2_fire r3.1 ex now v w).bind (fun r4 => (fX0_spread r4.1).bind (fun r5 => some (.inr (r5, r3.1, r4.2, r4.1, r3.2)))))))
set_option maxHeartbeats 4000000 in
set_option maxRecDepth 100000 in
theorem mtX2_shoot (l : Launch) (D : va_G) (t : Nat → ClassId) (bh : Nat) (bk : Nat → Nat) (bo : BoT) (nb : Nat → Nat) (now : ShT) (eb : Nat → Nat) (ex : ExT) (sa : Nat → Nat) (sb : Nat → Nat → Nat) (sv : (Nat → ShT)) (v : Int32) (w : Int32) (out : Int32 × BoT × ShT × ExT × (Nat → ShT)) (h : fX2_shoot bo now ex sv v w = some (.inr out))  (sz : Nat) : Met l yX2_shoot zX2_shoot ({ frames := 5, cells := 0, slots := 0, locals := 117 }) (sPc D t (gBo bh bk bo ++ (gS t (bk 0) nb now ++ (gE t (bk 2) eb ex ++ (gQ t (bk 3) sa ++ (g6 t sa sb sv))))) sz [.ref bh, .int v, .int w]) (qI D t (gBo bh bk out.2.1 ++ (gS t (bk 0) nb out.2.2.1 ++ (gE t (bk 2) eb out.2.2.2.1 ++ (gQ t (bk 3) sa ++ (g6 t sa sb out.2.2.2.2))))) out.1 (va_A (gBo bh bk bo ++ (gS t (bk 0) nb now ++ (gE t (bk 2) eb ex ++ (gQ t (bk 3) sa ++ (g6 t sa sb sv))))) sz)) 0 0 (va_A (gBo bh bk bo ++ (gS t (bk 0) nb now ++ (gE t (bk 2) eb ex ++ (gQ t (bk 3) sa ++ (g6 t sa sb sv))))) sz) := by
  refine met_of (Qf := fun A => qI D t (gBo bh bk out.2.1 ++ (gS t (bk 0) nb out.2.2.1 ++ (gE t (bk 2) eb out.2.2.2.1 ++ (gQ t (bk 3) sa ++ (g6 t sa sb out.2.2.2.2))))) out.1 A) (cc := cX2_shoot) (maxL := 3) (ret := some .int) (by decide) rfl (Nat.le_of_ble_eq_true rfl) ?_
  intro p e s m args below meth c A hx hb hr hml hts hown hlocks hA hP hK hD hE hS ls hl
  have htB : ∀ w ∈ BIG, w.before args s = true := fun w h => hts w (List.mem_cons_of_mem _ h)
  have hown : s.vm.findClass RX2 = some m.cls := hown
  have hl : lv_has ls 3 [(0, .ref bh), (1, .int v), (2, .int w)] := hl
  unfold fX2_shoot at h
  refine lv_iload_n hx hb dX2_shoot_0 rfl (lv_at hl 1 rfl) ?_
  obtain ⟨r1, h1, h⟩ := tb_r h
  refine call_v (wc := ([] : va_W)) (wc' := ([] : va_W)) (ws' := (gBo bh bk bo ++ (gS t (bk 0) nb now ++ (gE t (bk 2) eb ex ++ (gQ t (bk 3) sa ++ (g6 t sa sb sv)))))) (cutB (bs := [gBo bh bk bo, gS t (bk 0) nb now, gE t (bk 2) eb ex, gQ t (bk 3) sa, g6 t sa sb sv]) (cs := []) (cs' := []) (bs' := [gBo bh bk bo, gS t (bk 0) nb now, gE t (bk 2) eb ex, gQ t (bk 3) sa, g6 t sa sb sv]) [] hP hD hS hA rfl rfl rfl rfl) hS (fun hPc hDc => va_runS (As := [.int v]) (rest := []) ⟨hx, hb, hml, hown, hts⟩ (mtX2_needSpeed l D t v r1 h1 _) (va_cwS 1 hts (gBS kw82 kw83 kw2 kw84) rfl rfl rfl (by decide +kernel) ⟨Nat.le_of_ble_eq_true rfl, Nat.le_of_ble_eq_true rfl⟩) (sPc_S hPc hK hDc hE) rfl rfl hl.1 rfl (lv_room (Nat.le_of_ble_eq_true rfl)) dX2_shoot_1 ⟨Nat.zero_le _, Nat.zero_le _⟩) (fun H locs hP hD hS => ?_)
  refine lv_iload_n hx hb dX2_shoot_4 rfl (lv_at hl 2 rfl) ?_
  refine lv_iconst (v := 1) hx hb dX2_shoot_5 (by decide) ?_
  refine lv_bipush (v := 50) hx hb dX2_shoot_6 (by decide) ?_
  obtain ⟨r2, h2, h⟩ := tb_r h
  refine call_v (wc := ([] : va_W)) (wc' := ([] : va_W)) (ws' := (gBo bh bk bo ++ (gS t (bk 0) nb now ++ (gE t (bk 2) eb ex ++ (gQ t (bk 3) sa ++ (g6 t sa sb sv)))))) (cutB (bs := [gBo bh bk bo, gS t (bk 0) nb now, gE t (bk 2) eb ex, gQ t (bk 3) sa, g6 t sa sb sv]) (cs := []) (cs' := []) (bs' := [gBo bh bk bo, gS t (bk 0) nb now, gE t (bk 2) eb ex, gQ t (bk 3) sa, g6 t sa sb sv]) [] hP hD hS hA rfl rfl rfl rfl) hS (fun hPc hDc => va_runS (As := [.int w, .int 1, .int 50]) (rest := []) ⟨hx, hb, hml, hown, hts⟩ (mtX2_needRange l D t w 1 50 r2 h2 _) (va_cwS 3 hts (gBS kw52 kw53 kw2 kw54) rfl rfl rfl (by decide +kernel) ⟨Nat.le_of_ble_eq_true rfl, Nat.le_of_ble_eq_true rfl⟩) (sPc_S hPc hK hDc hE) rfl rfl hl.1 rfl (lv_room (Nat.le_of_ble_eq_true rfl)) dX2_shoot_8 ⟨Nat.zero_le _, Nat.zero_le _⟩) (fun H locs hP hD hS => ?_)
  refine lv_aload_n hx hb dX2_shoot_11 rfl (lv_at hl 0 rfl) ?_
  obtain ⟨r3, h3, h⟩ := ob h
  refine call_v (wc := (gBo bh bk bo ++ (gS t (bk 0) nb now ++ (gQ t (bk 3) sa ++ (g6 t sa sb sv))))) (wc' := (gBo bh bk r3.1 ++ (gS t (bk 0) nb now ++ (gQ t (bk 3) sa ++ (g6 t sa sb r3.2))))) (ws' := (gBo bh bk r3.1 ++ (gS t (bk 0) nb now ++ (gE t (bk 2) eb ex ++ (gQ t (bk 3) sa ++ (g6 t sa sb r3.2)))))) (cutB (bs := [gBo bh bk bo, gS t (bk 0) nb now, gE t (bk 2) eb ex, gQ t (bk 3) sa, g6 t sa sb sv]) (cs := [gBo bh bk bo, gS t (bk 0) nb now, gQ t (bk 3) sa, g6 t sa sb sv]) (cs' := [gBo bh bk r3.1, gS t (bk 0) nb now, gQ t (bk 3) sa, g6 t sa sb r3.2]) (bs' := [gBo bh bk r3.1, gS t (bk 0) nb now, gE t (bk 2) eb ex, gQ t (bk 3) sa, g6 t sa sb r3.2]) [0, 1, 3, 4] hP hD hS hA rfl rfl rfl rfl) hS (fun hPc hDc => va_runV (As := []) (rest := []) ⟨hx, hb, hml, hown, hts⟩ (mtX2_saveState l D t bh bk bo nb now sa sb sv r3 h3 _) (cwV 0 hts (gBV kw201 kw202 kw203 kw2 kw204) rfl rfl rfl (by decide +kernel) ⟨Nat.le_of_ble_eq_true rfl, Nat.le_of_ble_eq_true rfl⟩) (sPc_V hPc hK hDc hE (va_recv hK hP (ci := 2) (q0 := 0) rfl rfl)) rfl rfl hl.1 rfl (lv_room (Nat.le_of_ble_eq_true rfl)) dX2_shoot_12 ⟨Nat.zero_le _, Nat.zero_le _⟩) (fun H locs hP hD hS => ?_)
  refine lv_aload_n hx hb dX2_shoot_15 rfl (lv_at hl 0 rfl) ?_
  refine lv_aload_n hx hb dX2_shoot_16 rfl (lv_at hl 0 rfl) ?_
  refine va_get (D := D) (ci := 2) (v := .ref (bk 0)) (C := RX2) (T := TX2) (N := 8) hx hb htB inlX2 hown hK hP 0 rfl rfl 0 (by decide) (htB _ kw12) (fun _ h9 => h9) rfl dX2_shoot_17 ?_
  refine lv_iload_n hx hb dX2_shoot_20 rfl (lv_at hl 1 rfl) ?_
  refine lv_iload_n hx hb dX2_shoot_21 rfl (lv_at hl 2 rfl) ?_
  obtain ⟨r4, h4, h⟩ := ob h
  refine call_v (wc := (gBo bh bk r3.1 ++ (gE t (bk 2) eb ex ++ (gS t (bk 0) nb now)))) (wc' := (gBo bh bk r3.1 ++ (gE t (bk 2) eb r4.1 ++ (gS t (bk 0) nb r4.2)))) (ws' := (gBo bh bk r3.1 ++ (gS t (bk 0) nb r4.2 ++ (gE t (bk 2) eb r4.1 ++ (gQ t (bk 3) sa ++ (g6 t sa sb r3.2)))))) (cutB (bs := [gBo bh bk r3.1, gS t (bk 0) nb now, gE t (bk 2) eb ex, gQ t (bk 3) sa, g6 t sa sb r3.2]) (cs := [gBo bh bk r3.1, gE t (bk 2) eb ex, gS t (bk 0) nb now]) (cs' := [gBo bh bk r3.1, gE t (bk 2) eb r4.1, gS t (bk 0) nb r4.2]) (bs' := [gBo bh bk r3.1, gS t (bk 0) nb r4.2, gE t (bk 2) eb r4.1, gQ t (bk 3) sa, g6 t sa sb r3.2]) [0, 2, 1] hP hD hS hA rfl rfl rfl rfl) hS (fun hPc hDc => va_runV (As := [.ref (bk 0), .int v, .int w]) (rest := []) ⟨hx, hb, hml, hown, hts⟩ (mtX2_fire l D t bh bk r3.1 eb ex (bk 0) nb now v w r4 h4 _) (cwV 3 hts (gBV kw96 kw97 kw98 kw2 kw99) rfl rfl rfl (by decide +kernel) ⟨Nat.le_of_ble_eq_true rfl, Nat.le_of_ble_eq_true rfl⟩) (sPc_V hPc hK hDc hE (va_recv hK hP (ci := 2) (q0 := 0) rfl rfl)) rfl rfl hl.1 rfl (lv_room (Nat.le_of_ble_eq_true rfl)) dX2_shoot_22 ⟨Nat.zero_le _, Nat.zero_le _⟩) (fun H locs hP hD hS => ?_)
  refine lv_aload_n hx hb dX2_shoot_25 rfl (lv_at hl 0 rfl) ?_
  refine va_get (D := D) (ci := 2) (v := .ref (bk 2)) (C := RX2) (T := TX2) (N := 8) hx hb htB inlX2 hown hK hP 0 rfl rfl 2 (by decide) (htB _ kw17) (fun _ h9 => h9) rfl dX2_shoot_26 ?_
  obtain ⟨r5, h5, h⟩ := ob h
  refine call_i (v := r5) (wc := (gE t (bk 2) eb r4.1)) (wc' := (gE t (bk 2) eb r4.1)) (ws' := (gBo bh bk r3.1 ++ (gS t (bk 0) nb r4.2 ++ (gE t (bk 2) eb r4.1 ++ (gQ t (bk 3) sa ++ (g6 t sa sb r3.2)))))) (cutB (bs := [gBo bh bk r3.1, gS t (bk 0) nb r4.2, gE t (bk 2) eb r4.1, gQ t (bk 3) sa, g6 t sa sb r3.2]) (cs := [gE t (bk 2) eb r4.1]) (cs' := [gE t (bk 2) eb r4.1]) (bs' := [gBo bh bk r3.1, gS t (bk 0) nb r4.2, gE t (bk 2) eb r4.1, gQ t (bk 3) sa, g6 t sa sb r3.2]) [2] hP hD hS hA rfl rfl rfl rfl) hS (fun hPc hDc => va_runV (As := []) (rest := []) ⟨hx, hb, hml, hown, hts⟩ (mtX0_spread l D t (bk 2) eb r4.1 r5 h5 _) (cwV 0 hts (gBV kw156 kw153 kw154 kw16 kw155) rfl rfl rfl (by decide +kernel) ⟨Nat.le_of_ble_eq_true rfl, Nat.le_of_ble_eq_true rfl⟩) (sPc_V hPc hK hDc hE (va_recv hK hP (ci := 0) (q0 := 9) rfl rfl)) rfl rfl hl.1 rfl (lv_room (Nat.le_of_ble_eq_true rfl)) dX2_shoot_29 ⟨Nat.zero_le _, Nat.zero_le _⟩) (fun H locs hP hD hS => ?_)
  obtain rfl := oi h
  exact ret_i hx hb hr hlocks hP hK hD hS dX2_shoot_32

theorem dX2_undo_0 : decode cX2_undo 0 = .ok (.aload_n 0, 1) := by decide +kernel
theorem dX2_undo_1 : decode cX2_undo 1 = .ok (.getfield 30, 3) := by decide +kernel
theorem dX2_undo_4 : decode cX2_undo 4 = .ok (.iconst 1, 1) := by decide +kernel
theorem dX2_undo_5 : decode cX2_undo 5 = .ok (.if_icmp .ge 13, 3) := by decide +kernel
theorem dX2_undo_8 : decode cX2_undo 8 = .ok (.new 100, 3) := by decide +kernel
theorem dX2_undo_18 : decode cX2_undo 18 = .ok (.aload_n 0, 1) := by decide +kernel
theorem dX2_undo_19 : decode cX2_undo 19 = .ok (.aload_n 0, 1) := by decide +kernel
theorem dX2_undo_20 : decode cX2_undo 20 = .ok (.getfield 34, 3) := by decide +kernel
theorem dX2_undo_23 : decode cX2_undo 23 = .ok (.ifCond .le 12, 3) := by decide +kernel
theorem dX2_undo_26 : decode cX2_undo 26 = .ok (.aload_n 0, 1) := by decide +kernel
theorem dX2_undo_27 : decode cX2_undo 27 = .ok (.getfield 34, 3) := by decide +kernel
theorem dX2_undo_30 : decode cX2_undo 30 = .ok (.iconst 1, 1) := by decide +kernel
theorem dX2_undo_31 : decode cX2_undo 31 = .ok (.isub, 1) := by decide +kernel
theorem dX2_undo_32 : decode cX2_undo 32 = .ok (.goto 4, 3) := by decide +kernel
theorem dX2_undo_35 : decode cX2_undo 35 = .ok (.iconst 5, 1) := by decide +kernel
theorem dX2_undo_36 : decode cX2_undo 36 = .ok (.putfield 34, 3) := by decide +kernel
theorem dX2_undo_39 : decode cX2_undo 39 = .ok (.aload_n 0, 1) := by decide +kernel
theorem dX2_undo_40 : decode cX2_undo 40 = .ok (.dup, 1) := by decide +kernel
theorem dX2_undo_41 : decode cX2_undo 41 = .ok (.getfield 30, 3) := by decide +kernel
theorem dX2_undo_44 : decode cX2_undo 44 = .ok (.iconst 1, 1) := by decide +kernel
theorem dX2_undo_45 : decode cX2_undo 45 = .ok (.isub, 1) := by decide +kernel
theorem dX2_undo_46 : decode cX2_undo 46 = .ok (.putfield 30, 3) := by decide +kernel
theorem dX2_undo_49 : decode cX2_undo 49 = .ok (.aload_n 0, 1) := by decide +kernel
theorem dX2_undo_50 : decode cX2_undo 50 = .ok (.aload_n 0, 1) := by decide +kernel
theorem dX2_undo_51 : decode cX2_undo 51 = .ok (.getfield 34, 3) := by decide +kernel
theorem dX2_undo_54 : decode cX2_undo 54 = .ok (.invokevirtual 125, 3) := by decide +kernel
theorem dX2_undo_57 : decode cX2_undo 57 = .ok (.astore_n 1, 1) := by decide +kernel
theorem dX2_undo_58 : decode cX2_undo 58 = .ok (.aload_n 1, 1) := by decide +kernel
theorem dX2_undo_59 : decode cX2_undo 59 = .ok (.ifnull 11, 3) := by decide +kernel
theorem dX2_undo_62 : decode cX2_undo 62 = .ok (.aload_n 0, 1) := by decide +kernel
theorem dX2_undo_63 : decode cX2_undo 63 = .ok (.getfield 10, 3) := by decide +kernel
theorem dX2_undo_66 : decode cX2_undo 66 = .ok (.aload_n 1, 1) := by decide +kernel
theorem dX2_undo_67 : decode cX2_undo 67 = .ok (.invokevirtual 129, 3) := by decide +kernel
theorem dX2_undo_70 : decode cX2_undo 70 = .ok (.aload_n 0, 1) := by decide +kernel
theorem dX2_undo_71 : decode cX2_undo 71 = .ok (.getfield 30, 3) := by decide +kernel
theorem dX2_undo_74 : decode cX2_undo 74 = .ok (.ireturn, 1) := by decide +kernel
abbrev zX2_undo : List Cond := .code yX2_undo cX2_undo 2 (some .int) :: BIG
def fX2_undo_j36 (sv : (Nat → ShT))  (v36 : BoT × ShT × Int32) : Option (Nat ⊕ (Int32 × BoT × ShT)) := (fX2_savedAt ((v36.1.1 - 1), v36.2.2, v36.1.2.2) v36.2.2).bind (fun r3 => (fX1_become v36.2.1 (sv (Int32.toNatClampNeg v36.2.2))).bind (fun r4 => some (.inr ((v36.1.1 - 1), ((v36.1.1 - 1), v36.2.2, v36.1.2.2), r4))))
def fX2_undo (bo : BoT) (now : ShT) (sv : (Nat → ShT)) : Option (Nat ⊕ (Int32 × BoT × ShT)) := (if 1 ≤ bo.1 then (if bo.2.1 ≤ 0 then fX2_undo_j36 sv (bo, now, 5) else fX2_undo_j36 sv (bo, now, bo.2.1 - 1)) else some (.inl 2))
set_option maxHeartbeats 4000000 in
set_option maxRecDepth 100000 in
theorem mtX2_undo (l : Launch) (D : va_G) (t : Nat → ClassId) (bh : Nat) (bk : Nat → Nat) (bo : BoT) (nb : Nat → Nat) (now : ShT) (sa : Nat → Nat) (sb : Nat → Nat → Nat) (sv : (Nat → ShT)) (out : Int32 × BoT × ShT) (h : fX2_undo bo now sv = some (.inr out))  (sz : Nat) : Met l yX2_undo zX2_undo ({ frames := 2, cells := 0, slots := 0, locals := 43 }) (sPc D t (gBo bh bk bo ++ (gS t (bk 0) nb now ++ (gQ t (bk 3) sa ++ (g6 t sa sb sv)))) sz [.ref bh]) (qI D t (gBo bh bk out.2.1 ++ (gS t (bk 0) nb out.2.2 ++ (gQ t (bk 3) sa ++ (g6 t sa sb sv)))) out.1 (va_A (gBo bh bk bo ++ (gS t (bk 0) nb now ++ (gQ t (bk 3) sa ++ (g6 t sa sb sv)))) sz)) 0 0 (va_A (gBo bh bk bo ++ (gS t (bk 0) nb now ++ (gQ t (bk 3) sa ++ (g6 t sa sb sv)))) sz) := by
  refine met_of (Qf := fun A => qI D t (gBo bh bk out.2.1 ++ (gS t (bk 0) nb out.2.2 ++ (gQ t (bk 3) sa ++ (g6 t sa sb sv)))) out.1 A) (cc := cX2_undo) (maxL := 2) (ret := some .int) (by decide) rfl (Nat.le_of_ble_eq_true rfl) ?_
  intro p e s m args below meth c A hx hb hr hml hts hown hlocks hA hP hK hD hE hS ls hl
  have htB : ∀ w ∈ BIG, w.before args s = true := fun w h => hts w (List.mem_cons_of_mem _ h)
  have hown : s.vm.findClass RX2 = some m.cls := hown
  have hl : lv_has ls 2 [(0, .ref bh)] := hl
  unfold fX2_undo at h
  have J36 : ∀ v36 : BoT × ShT × Int32, fX2_undo_j36 sv v36 = some (.inr out) → ∀ (H : Heap) (locs : List Loc), va_P D vwCl (gBo bh bk v36.1 ++ (gS t (bk 0) nb v36.2.1 ++ (gQ t (bk 3) sa ++ (g6 t sa sb sv)))) H → va_D A (gBo bh bk v36.1 ++ (gS t (bk 0) nb v36.2.1 ++ (gQ t (bk 3) sa ++ (g6 t sa sb sv)))) → va_S A s.heap H locs → ∀ ls : Array Slot, lv_has ls 2 [(0, .ref bh)] → W p l e ({ frames := 2, cells := 0, slots := 0, locals := 43 }) s m args below meth c H locs 0 0 (MQ below (qI D t (gBo bh bk out.2.1 ++ (gS t (bk 0) nb out.2.2 ++ (gQ t (bk 3) sa ++ (g6 t sa sb sv)))) out.1 A) args s 0 0 A) (F0 m 36 ls [.int v36.2.2, .ref bh]) := by
    intro v36 h H locs hP hD hS ls hl
    unfold fX2_undo_j36 at h
    refine va_put (D := D) (ci := 2) (v := .int v36.2.2) (ty := .int) (C := RX2) (T := TX2) (N := 8) hx hb htB inlX2 tyX2 tyX2_ok nmX2 hown hK hP hD hS 0 rfl rfl 5 (by decide) (htB _ kw20) (fun _ h9 => h9) rfl (by decide +kernel) rfl rfl (Nat.le_of_ble_eq_true rfl) dX2_undo_36 (fun H locs hP hD hS => ?_)
    have hP : va_P D vwCl (gBo bh bk (v36.1.1, v36.2.2, v36.1.2.2) ++ (gS t (bk 0) nb v36.2.1 ++ (gQ t (bk 3) sa ++ (g6 t sa sb sv)))) H := hP
    have hD : va_D A (gBo bh bk (v36.1.1, v36.2.2, v36.1.2.2) ++ (gS t (bk 0) nb v36.2.1 ++ (gQ t (bk 3) sa ++ (g6 t sa sb sv)))) := hD
    refine lv_aload_n hx hb dX2_undo_39 rfl (lv_at hl 0 rfl) ?_
    refine lv_dup hx hb dX2_undo_40 rfl ?_
    refine va_get (D := D) (ci := 2) (v := .int v36.1.1) (C := RX2) (T := TX2) (N := 8) hx hb htB inlX2 hown hK hP 0 rfl rfl 4 (by decide) (htB _ kw19) (fun _ h9 => h9) rfl dX2_undo_41 ?_
    refine lv_iconst (v := 1) hx hb dX2_undo_44 (by decide) ?_
    refine lv_isub hx hb dX2_undo_45 ?_
    refine va_put (D := D) (ci := 2) (v := .int (v36.1.1 - 1)) (ty := .int) (C := RX2) (T := TX2) (N := 8) hx hb htB inlX2 tyX2 tyX2_ok nmX2 hown hK hP hD hS 0 rfl rfl 4 (by decide) (htB _ kw19) (fun _ h9 => h9) rfl (by decide +kernel) rfl rfl (Nat.le_of_ble_eq_true rfl) dX2_undo_46 (fun H locs hP hD hS => ?_)
    have hP : va_P D vwCl (gBo bh bk ((v36.1.1 - 1), v36.2.2, v36.1.2.2) ++ (gS t (bk 0) nb v36.2.1 ++ (gQ t (bk 3) sa ++ (g6 t sa sb sv)))) H := hP
    have hD : va_D A (gBo bh bk ((v36.1.1 - 1), v36.2.2, v36.1.2.2) ++ (gS t (bk 0) nb v36.2.1 ++ (gQ t (bk 3) sa ++ (g6 t sa sb sv)))) := hD
    refine lv_aload_n hx hb dX2_undo_49 rfl (lv_at hl 0 rfl) ?_
    refine lv_aload_n hx hb dX2_undo_50 rfl (lv_at hl 0 rfl) ?_
    refine va_get (D := D) (ci := 2) (v := .int v36.2.2) (C := RX2) (T := TX2) (N := 8) hx hb htB inlX2 hown hK hP 0 rfl rfl 5 (by decide) (htB _ kw20) (fun _ h9 => h9) rfl dX2_undo_51 ?_
    obtain ⟨r3, h3, h⟩ := ob h
    refine call_r (v := sa (Int32.toNatClampNeg v36.2.2)) (wc := (gBo bh bk ((v36.1.1 - 1), v36.2.2, v36.1.2.2) ++ (gQ t (bk 3) sa))) (wc' := (gBo bh bk ((v36.1.1 - 1), v36.2.2, v36.1.2.2) ++ (gQ t (bk 3) sa))) (ws' := (gBo bh bk ((v36.1.1 - 1), v36.2.2, v36.1.2.2) ++ (gS t (bk 0) nb v36.2.1 ++ (gQ t (bk 3) sa ++ (g6 t sa sb sv))))) (cutB (bs := [gBo bh bk ((v36.1.1 - 1), v36.2.2, v36.1.2.2), gS t (bk 0) nb v36.2.1, gQ t (bk 3) sa, g6 t sa sb sv]) (cs := [gBo bh bk ((v36.1.1 - 1), v36.2.2, v36.1.2.2), gQ t (bk 3) sa]) (cs' := [gBo bh bk ((v36.1.1 - 1), v36.2.2, v36.1.2.2), gQ t (bk 3) sa]) (bs' := [gBo bh bk ((v36.1.1 - 1), v36.2.2, v36.1.2.2), gS t (bk 0) nb v36.2.1, gQ t (bk 3) sa, g6 t sa sb sv]) [0, 2] hP hD hS hA rfl rfl rfl rfl) hS (fun hPc hDc => va_runV (As := [.int v36.2.2]) (rest := []) ⟨hx, hb, hml, hown, hts⟩ (mtX2_savedAt l D t bh bk ((v36.1.1 - 1), v36.2.2, v36.1.2.2) sa v36.2.2 r3 h3 _) (cwV 1 hts (gBV kw206 kw207 kw208 kw2 kw209) rfl rfl rfl (by decide +kernel) ⟨Nat.le_of_ble_eq_true rfl, Nat.le_of_ble_eq_true rfl⟩) (sPc_V hPc hK hDc hE (va_recv hK hP (ci := 2) (q0 := 0) rfl rfl)) rfl rfl hl.1 rfl (lv_room (Nat.le_of_ble_eq_true rfl)) dX2_undo_54 ⟨Nat.zero_le _, Nat.zero_le _⟩) (fun H locs hP hD hS => ?_)
    have hj6 := pin6 (sv_pin h3)
    refine lv_astore_n (lv' := [(1, .ref (sa (Int32.toNatClampNeg v36.2.2))), (0, .ref bh)]) hx hb dX2_undo_57 rfl hl (by decide) rfl (fun ls hl => ?_)
    refine lv_aload_n hx hb dX2_undo_58 rfl (lv_at hl 0 rfl) ?_
    refine lv_ifnull hx hb dX2_undo_59 ?_
    refine lv_aload_n hx hb dX2_undo_62 rfl (lv_at hl 1 rfl) ?_
    refine va_get (D := D) (ci := 2) (v := .ref (bk 0)) (C := RX2) (T := TX2) (N := 8) hx hb htB inlX2 hown hK hP 0 rfl rfl 0 (by decide) (htB _ kw12) (fun _ h9 => h9) rfl dX2_undo_63 ?_
    refine lv_aload_n hx hb dX2_undo_66 rfl (lv_at hl 0 rfl) ?_
    obtain ⟨r4, h4, h⟩ := ob h
    refine call_v (wc := (gS t (bk 0) nb v36.2.1 ++ (gS t (sa (Int32.toNatClampNeg v36.2.2)) (sb (Int32.toNatClampNeg v36.2.2)) (sv (Int32.toNatClampNeg v36.2.2))))) (wc' := (gS t (bk 0) nb r4 ++ (gS t (sa (Int32.toNatClampNeg v36.2.2)) (sb (Int32.toNatClampNeg v36.2.2)) (sv (Int32.toNatClampNeg v36.2.2))))) (ws' := (gBo bh bk ((v36.1.1 - 1), v36.2.2, v36.1.2.2) ++ (gS t (bk 0) nb r4 ++ (gQ t (bk 3) sa ++ (g6 t sa sb sv))))) (cutB (bs := [gBo bh bk ((v36.1.1 - 1), v36.2.2, v36.1.2.2), gS t (bk 0) nb v36.2.1, gQ t (bk 3) sa, gS t (sa 0) (sb 0) (sv 0), gS t (sa 1) (sb 1) (sv 1), gS t (sa 2) (sb 2) (sv 2), gS t (sa 3) (sb 3) (sv 3), gS t (sa 4) (sb 4) (sv 4), gS t (sa 5) (sb 5) (sv 5)]) (cs := [gS t (bk 0) nb v36.2.1, gS t (sa (Int32.toNatClampNeg v36.2.2)) (sb (Int32.toNatClampNeg v36.2.2)) (sv (Int32.toNatClampNeg v36.2.2))]) (cs' := [gS t (bk 0) nb r4, gS t (sa (Int32.toNatClampNeg v36.2.2)) (sb (Int32.toNatClampNeg v36.2.2)) (sv (Int32.toNatClampNeg v36.2.2))]) (bs' := [gBo bh bk ((v36.1.1 - 1), v36.2.2, v36.1.2.2), gS t (bk 0) nb r4, gQ t (bk 3) sa, gS t (sa 0) (sb 0) (sv 0), gS t (sa 1) (sb 1) (sv 1), gS t (sa 2) (sb 2) (sv 2), gS t (sa 3) (sb 3) (sv 3), gS t (sa 4) (sb 4) (sv 4), gS t (sa 5) (sb 5) (sv 5)]) [1, 3 + (Int32.toNatClampNeg v36.2.2)] hP hD hS hA (by rcases hj6 with e9 | e9 | e9 | e9 | e9 | e9 <;> rw [e9] <;> rfl) (by rcases hj6 with e9 | e9 | e9 | e9 | e9 | e9 <;> rw [e9] <;> rfl) (by rcases hj6 with e9 | e9 | e9 | e9 | e9 | e9 <;> rw [e9] <;> rfl) rfl) hS (fun hPc hDc => va_runV (As := [.ref (sa (Int32.toNatClampNeg v36.2.2))]) (rest := []) ⟨hx, hb, hml, hown, hts⟩ (mtX1_become l D t (bk 0) nb v36.2.1 (sa (Int32.toNatClampNeg v36.2.2)) (sb (Int32.toNatClampNeg v36.2.2)) (sv (Int32.toNatClampNeg v36.2.2)) r4 h4 _) (cwV 1 hts (gBV kw90 kw91 kw92 kw11 kw93) rfl rfl rfl (by decide +kernel) ⟨Nat.le_of_ble_eq_true rfl, Nat.le_of_ble_eq_true rfl⟩) (sPc_V hPc hK hDc hE (va_recv hK hP (ci := 1) (q0 := 1) rfl rfl)) rfl rfl hl.1 rfl (lv_room (Nat.le_of_ble_eq_true rfl)) dX2_undo_67 ⟨Nat.zero_le _, Nat.zero_le _⟩) (fun H locs hP hD hS => ?_)
    refine lv_aload_n hx hb dX2_undo_70 rfl (lv_at hl 1 rfl) ?_
    refine va_get (D := D) (ci := 2) (v := .int (v36.1.1 - 1)) (C := RX2) (T := TX2) (N := 8) hx hb htB inlX2 hown hK hP 0 rfl rfl 4 (by decide) (htB _ kw19) (fun _ h9 => h9) rfl dX2_undo_71 ?_
    obtain rfl := oi h
    exact ret_i hx hb hr hlocks hP hK hD hS dX2_undo_74
  refine lv_aload_n hx hb dX2_undo_0 rfl (lv_at hl 0 rfl) ?_
  refine va_get (D := D) (ci := 2) (v := .int bo.1) (C := RX2) (T := TX2) (N := 8) hx hb htB inlX2 hown hK hP 0 rfl rfl 4 (by decide) (htB _ kw19) (fun _ h9 => h9) rfl dX2_undo_1 ?_
  refine lv_iconst (v := 1) hx hb dX2_undo_4 (by decide) ?_
  refine lv_icmp_ge (tgt := 18) hx hb dX2_undo_5 (by decide) (fun c1 => ?_) (fun c1 => ?_)
  · have h := it_p c1 h
    refine lv_aload_n hx hb dX2_undo_18 rfl (lv_at hl 0 rfl) ?_
    refine lv_aload_n hx hb dX2_undo_19 rfl (lv_at hl 0 rfl) ?_
    refine va_get (D := D) (ci := 2) (v := .int bo.2.1) (C := RX2) (T := TX2) (N := 8) hx hb htB inlX2 hown hK hP 0 rfl rfl 5 (by decide) (htB _ kw20) (fun _ h9 => h9) rfl dX2_undo_20 ?_
    refine lv_if_le (tgt := 35) hx hb dX2_undo_23 (by decide) (fun c2 => ?_) (fun c2 => ?_)
    · have h := it_p c2 h
      refine lv_iconst (v := 5) hx hb dX2_undo_35 (by decide) ?_
      exact J36 (bo, now, 5) h _ _ hP hD hS _ (lv_sub hl [0] rfl)
    · have h := it_n c2 h
      refine lv_aload_n hx hb dX2_undo_26 rfl (lv_at hl 0 rfl) ?_
      refine va_get (D := D) (ci := 2) (v := .int bo.2.1) (C := RX2) (T := TX2) (N := 8) hx hb htB inlX2 hown hK hP 0 rfl rfl 5 (by decide) (htB _ kw20) (fun _ h9 => h9) rfl dX2_undo_27 ?_
      refine lv_iconst (v := 1) hx hb dX2_undo_30 (by decide) ?_
      refine lv_isub hx hb dX2_undo_31 ?_
      refine lv_goto (tgt := 36) hx hb dX2_undo_32 (by decide) ?_
      exact J36 (bo, now, bo.2.1 - 1) h _ _ hP hD hS _ (lv_sub hl [0] rfl)
  · have h := it_n c1 h
    cases h
end
section
theorem dX2_curtain_0 : decode cX2_curtain 0 = .ok (.iload_n 1, 1) := by decide +kernel
theorem dX2_curtain_1 : decode cX2_curtain 1 = .ok (.invokestatic 44, 3) := by decide +kernel
theorem dX2_curtain_4 : decode cX2_curtain 4 = .ok (.iload_n 2, 1) := by decide +kernel
theorem dX2_curtain_5 : decode cX2_curtain 5 = .ok (.iconst 0, 1) := by decide +kernel
theorem dX2_curtain_6 : decode cX2_curtain 6 = .ok (.iconst 3, 1) := by decide +kernel
theorem dX2_curtain_7 : decode cX2_curtain 7 = .ok (.invokestatic 48, 3) := by decide +kernel
theorem dX2_curtain_10 : decode cX2_curtain 10 = .ok (.iload_n 2, 1) := by decide +kernel
theorem dX2_curtain_11 : decode cX2_curtain 11 = .ok (.tableswitch 58 0 2 #[25, 37, 49], 25) := by decide +kernel
theorem dX2_curtain_36 : decode cX2_curtain 36 = .ok (.aload_n 0, 1) := by decide +kernel
theorem dX2_curtain_37 : decode cX2_curtain 37 = .ok (.getfield 10, 3) := by decide +kernel
theorem dX2_curtain_40 : decode cX2_curtain 40 = .ok (.getfield 55, 3) := by decide +kernel
theorem dX2_curtain_43 : decode cX2_curtain 43 = .ok (.iload_n 1, 1) := by decide +kernel
theorem dX2_curtain_44 : decode cX2_curtain 44 = .ok (.invokestatic 58, 3) := by decide +kernel
theorem dX2_curtain_47 : decode cX2_curtain 47 = .ok (.ireturn, 1) := by decide +kernel
theorem dX2_curtain_48 : decode cX2_curtain 48 = .ok (.aload_n 0, 1) := by decide +kernel
theorem dX2_curtain_49 : decode cX2_curtain 49 = .ok (.getfield 10, 3) := by decide +kernel
theorem dX2_curtain_52 : decode cX2_curtain 52 = .ok (.getfield 70, 3) := by decide +kernel
theorem dX2_curtain_55 : decode cX2_curtain 55 = .ok (.iload_n 1, 1) := by decide +kernel
theorem dX2_curtain_56 : decode cX2_curtain 56 = .ok (.invokestatic 58, 3) := by decide +kernel
theorem dX2_curtain_59 : decode cX2_curtain 59 = .ok (.ireturn, 1) := by decide +kernel
theorem dX2_curtain_60 : decode cX2_curtain 60 = .ok (.aload_n 0, 1) := by decide +kernel
theorem dX2_curtain_61 : decode cX2_curtain 61 = .ok (.getfield 10, 3) := by decide +kernel
theorem dX2_curtain_64 : decode cX2_curtain 64 = .ok (.iload_n 1, 1) := by decide +kernel
theorem dX2_curtain_65 : decode cX2_curtain 65 = .ok (.invokevirtual 133, 3) := by decide +kernel
theorem dX2_curtain_68 : decode cX2_curtain 68 = .ok (.ireturn, 1) := by decide +kernel
theorem dX2_curtain_69 : decode cX2_curtain 69 = .ok (.aload_n 0, 1) := by decide +kernel
theorem dX2_curtain_70 : decode cX2_curtain 70 = .ok (.getfield 10, 3) := by decide +kernel
theorem dX2_curtain_73 : decode cX2_curtain 73 = .ok (.iload_n 1, 1) := by decide +kernel
theorem dX2_curtain_74 : decode cX2_curtain 74 = .ok (.invokevirtual 136, 3) := by decide +kernel
theorem dX2_curtain_77 : decode cX2_curtain 77 = .ok (.ireturn, 1) := by decide +kernel
abbrev zX2_curtain : List Cond := .code yX2_curtain cX2_curtain 3 (some .int) :: BIG
def fX2_curtain (bo : BoT) (now : ShT) (cu : Int32) (w : Int32) : Option (Nat ⊕ (Int32)) := tb (fX2_needCurtain cu) (fun r1 => tb (fX2_needRange w 0 3) (fun r2 => (if w = 0 then (fX2_at 2 now.1 cu).bind (fun r4 => some (.inr r4)) else (if w = 1 then (fX2_at 2 now.2.1 cu).bind (fun r6 => some (.inr r6)) else (if w = 2 then (fX1_ticksForAll now cu).bind (fun r8 => some (.inr r8)) else (fX1_slowestColumn now cu).bind (fun r9 => some (.inr r9)))))))
set_option maxHeartbeats 4000000 in
set_option maxRecDepth 100000 in
theorem mtX2_curtain (l : Launch) (D : va_G) (t : Nat → ClassId) (bh : Nat) (bk : Nat → Nat) (bo : BoT) (nb : Nat → Nat) (now : ShT) (cu : Int32) (w : Int32) (out : Int32) (h : fX2_curtain bo now cu w = some (.inr out))  (sz : Nat) : Met l yX2_curtain zX2_curtain ({ frames := 3, cells := 0, slots := 0, locals := 68 }) (sPc D t (gBo bh bk bo ++ (gS t (bk 0) nb now)) sz [.ref bh, .int cu, .int w]) (qI D t (gBo bh bk bo ++ (gS t (bk 0) nb now)) out (va_A (gBo bh bk bo ++ (gS t (bk 0) nb now)) sz)) 0 0 (va_A (gBo bh bk bo ++ (gS t (bk 0) nb now)) sz) := by
  refine met_of (Qf := fun A => qI D t (gBo bh bk bo ++ (gS t (bk 0) nb now)) out A) (cc := cX2_curtain) (maxL := 3) (ret := some .int) (by decide) rfl (Nat.le_of_ble_eq_true rfl) ?_
  intro p e s m args below meth c A hx hb hr hml hts hown hlocks hA hP hK hD hE hS ls hl
  have htB : ∀ w ∈ BIG, w.before args s = true := fun w h => hts w (List.mem_cons_of_mem _ h)
  have hown : s.vm.findClass RX2 = some m.cls := hown
  have hl : lv_has ls 3 [(0, .ref bh), (1, .int cu), (2, .int w)] := hl
  unfold fX2_curtain at h
  refine lv_iload_n hx hb dX2_curtain_0 rfl (lv_at hl 1 rfl) ?_
  obtain ⟨r1, h1, h⟩ := tb_r h
  refine call_v (wc := ([] : va_W)) (wc' := ([] : va_W)) (ws' := (gBo bh bk bo ++ (gS t (bk 0) nb now))) (cutB (bs := [gBo bh bk bo, gS t (bk 0) nb now]) (cs := []) (cs' := []) (bs' := [gBo bh bk bo, gS t (bk 0) nb now]) [] hP hD hS hA rfl rfl rfl rfl) hS (fun hPc hDc => va_runS (As := [.int cu]) (rest := []) ⟨hx, hb, hml, hown, hts⟩ (mtX2_needCurtain l D t cu r1 h1 _) (va_cwS 1 hts (gBS kw163 kw164 kw2 kw165) rfl rfl rfl (by decide +kernel) ⟨Nat.le_of_ble_eq_true rfl, Nat.le_of_ble_eq_true rfl⟩) (sPc_S hPc hK hDc hE) rfl rfl hl.1 rfl (lv_room (Nat.le_of_ble_eq_true rfl)) dX2_curtain_1 ⟨Nat.zero_le _, Nat.zero_le _⟩) (fun H locs hP hD hS => ?_)
  refine lv_iload_n hx hb dX2_curtain_4 rfl (lv_at hl 2 rfl) ?_
  refine lv_iconst (v := 0) hx hb dX2_curtain_5 (by decide) ?_
  refine lv_iconst (v := 3) hx hb dX2_curtain_6 (by decide) ?_
  obtain ⟨r2, h2, h⟩ := tb_r h
  refine call_v (wc := ([] : va_W)) (wc' := ([] : va_W)) (ws' := (gBo bh bk bo ++ (gS t (bk 0) nb now))) (cutB (bs := [gBo bh bk bo, gS t (bk 0) nb now]) (cs := []) (cs' := []) (bs' := [gBo bh bk bo, gS t (bk 0) nb now]) [] hP hD hS hA rfl rfl rfl rfl) hS (fun hPc hDc => va_runS (As := [.int w, .int 0, .int 3]) (rest := []) ⟨hx, hb, hml, hown, hts⟩ (mtX2_needRange l D t w 0 3 r2 h2 _) (va_cwS 3 hts (gBS kw52 kw53 kw2 kw54) rfl rfl rfl (by decide +kernel) ⟨Nat.le_of_ble_eq_true rfl, Nat.le_of_ble_eq_true rfl⟩) (sPc_S hPc hK hDc hE) rfl rfl hl.1 rfl (lv_room (Nat.le_of_ble_eq_true rfl)) dX2_curtain_7 ⟨Nat.zero_le _, Nat.zero_le _⟩) (fun H locs hP hD hS => ?_)
  refine lv_iload_n hx hb dX2_curtain_10 rfl (lv_at hl 2 rfl) ?_
  by_cases c3 : w = 0
  · have h := it_p c3 h
    refine lv_tableIn (off := 25) (tgt := 36) hx hb dX2_curtain_11 (by rw [c3]; decide) (by rw [c3]; decide) (by rw [c3]; rfl) (by decide) ?_
    refine lv_aload_n hx hb dX2_curtain_36 rfl (lv_at hl 0 rfl) ?_
    refine va_get (D := D) (ci := 2) (v := .ref (bk 0)) (C := RX2) (T := TX2) (N := 8) hx hb htB inlX2 hown hK hP 0 rfl rfl 0 (by decide) (htB _ kw12) (fun _ h9 => h9) rfl dX2_curtain_37 ?_
    refine va_get (D := D) (ci := 1) (v := .ref (nb 0)) (C := RX1) (T := TX1) (N := 10) hx hb htB inlX1 hown hK hP 1 rfl rfl 0 (by decide) (htB _ kw80) (fun _ h9 => h9) rfl dX2_curtain_40 ?_
    refine lv_iload_n hx hb dX2_curtain_43 rfl (lv_at hl 1 rfl) ?_
    obtain ⟨r4, h4, h⟩ := ob h
    refine call_i (v := r4) (wc := (gA t (nb 0) 2 now.1)) (wc' := (gA t (nb 0) 2 now.1)) (ws' := (gBo bh bk bo ++ (gS t (bk 0) nb now))) (cutI (wc := (gA t (nb 0) 2 now.1)) (wc' := (gA t (nb 0) 2 now.1)) (ws' := (gBo bh bk bo ++ (gS t (bk 0) nb now))) [2] hP hD hS hA rfl rfl rfl rfl) hS (fun hPc hDc => va_runS (As := [.ref (nb 0), .int cu]) (rest := []) ⟨hx, hb, hml, hown, hts⟩ (mtX2_at l D t (nb 0) 2 now.1 cu r4 h4 (by decide) _) (va_cwS 2 hts (gBS kw157 kw65 kw2 kw66) rfl rfl rfl (by decide +kernel) ⟨Nat.le_of_ble_eq_true rfl, Nat.le_of_ble_eq_true rfl⟩) (sPc_S hPc hK hDc hE) rfl rfl hl.1 rfl (lv_room (Nat.le_of_ble_eq_true rfl)) dX2_curtain_44 ⟨Nat.zero_le _, Nat.zero_le _⟩) (fun H locs hP hD hS => ?_)
    obtain rfl := oi h
    exact ret_i hx hb hr hlocks hP hK hD hS dX2_curtain_47
  · have h := it_n c3 h
    by_cases c5 : w = 1
    · have h := it_p c5 h
      refine lv_tableIn (off := 37) (tgt := 48) hx hb dX2_curtain_11 (by rw [c5]; decide) (by rw [c5]; decide) (by rw [c5]; rfl) (by decide) ?_
      refine lv_aload_n hx hb dX2_curtain_48 rfl (lv_at hl 0 rfl) ?_
      refine va_get (D := D) (ci := 2) (v := .ref (bk 0)) (C := RX2) (T := TX2) (N := 8) hx hb htB inlX2 hown hK hP 0 rfl rfl 0 (by decide) (htB _ kw12) (fun _ h9 => h9) rfl dX2_curtain_49 ?_
      refine va_get (D := D) (ci := 1) (v := .ref (nb 1)) (C := RX1) (T := TX1) (N := 10) hx hb htB inlX1 hown hK hP 1 rfl rfl 1 (by decide) (htB _ kw162) (fun _ h9 => h9) rfl dX2_curtain_52 ?_
      refine lv_iload_n hx hb dX2_curtain_55 rfl (lv_at hl 1 rfl) ?_
      obtain ⟨r6, h6, h⟩ := ob h
      refine call_i (v := r6) (wc := (gA t (nb 1) 2 now.2.1)) (wc' := (gA t (nb 1) 2 now.2.1)) (ws' := (gBo bh bk bo ++ (gS t (bk 0) nb now))) (cutI (wc := (gA t (nb 1) 2 now.2.1)) (wc' := (gA t (nb 1) 2 now.2.1)) (ws' := (gBo bh bk bo ++ (gS t (bk 0) nb now))) [3] hP hD hS hA rfl rfl rfl rfl) hS (fun hPc hDc => va_runS (As := [.ref (nb 1), .int cu]) (rest := []) ⟨hx, hb, hml, hown, hts⟩ (mtX2_at l D t (nb 1) 2 now.2.1 cu r6 h6 (by decide) _) (va_cwS 2 hts (gBS kw157 kw65 kw2 kw66) rfl rfl rfl (by decide +kernel) ⟨Nat.le_of_ble_eq_true rfl, Nat.le_of_ble_eq_true rfl⟩) (sPc_S hPc hK hDc hE) rfl rfl hl.1 rfl (lv_room (Nat.le_of_ble_eq_true rfl)) dX2_curtain_56 ⟨Nat.zero_le _, Nat.zero_le _⟩) (fun H locs hP hD hS => ?_)
      obtain rfl := oi h
      exact ret_i hx hb hr hlocks hP hK hD hS dX2_curtain_59
    · have h := it_n c5 h
      by_cases c7 : w = 2
      · have h := it_p c7 h
        refine lv_tableIn (off := 49) (tgt := 60) hx hb dX2_curtain_11 (by rw [c7]; decide) (by rw [c7]; decide) (by rw [c7]; rfl) (by decide) ?_
        refine lv_aload_n hx hb dX2_curtain_60 rfl (lv_at hl 0 rfl) ?_
        refine va_get (D := D) (ci := 2) (v := .ref (bk 0)) (C := RX2) (T := TX2) (N := 8) hx hb htB inlX2 hown hK hP 0 rfl rfl 0 (by decide) (htB _ kw12) (fun _ h9 => h9) rfl dX2_curtain_61 ?_
        refine lv_iload_n hx hb dX2_curtain_64 rfl (lv_at hl 1 rfl) ?_
        obtain ⟨r8, h8, h⟩ := ob h
        refine call_i (v := r8) (wc := (gS t (bk 0) nb now)) (wc' := (gS t (bk 0) nb now)) (ws' := (gBo bh bk bo ++ (gS t (bk 0) nb now))) (cutB (bs := [gBo bh bk bo, gS t (bk 0) nb now]) (cs := [gS t (bk 0) nb now]) (cs' := [gS t (bk 0) nb now]) (bs' := [gBo bh bk bo, gS t (bk 0) nb now]) [1] hP hD hS hA rfl rfl rfl rfl) hS (fun hPc hDc => va_runV (As := [.int cu]) (rest := []) ⟨hx, hb, hml, hown, hts⟩ (mtX1_ticksForAll l D t (bk 0) nb now cu r8 h8 _) (cwV 1 hts (gBV kw166 kw167 kw168 kw11 kw169) rfl rfl rfl (by decide +kernel) ⟨Nat.le_of_ble_eq_true rfl, Nat.le_of_ble_eq_true rfl⟩) (sPc_V hPc hK hDc hE (va_recv hK hP (ci := 1) (q0 := 1) rfl rfl)) rfl rfl hl.1 rfl (lv_room (Nat.le_of_ble_eq_true rfl)) dX2_curtain_65 ⟨Nat.zero_le _, Nat.zero_le _⟩) (fun H locs hP hD hS => ?_)
        obtain rfl := oi h
        exact ret_i hx hb hr hlocks hP hK hD hS dX2_curtain_68
      · have h := it_n c7 h
        refine lv_tableOut (tgt := 69) hx hb dX2_curtain_11 (tab_0_2 c3 c5 c7) (by decide) ?_
        refine lv_aload_n hx hb dX2_curtain_69 rfl (lv_at hl 0 rfl) ?_
        refine va_get (D := D) (ci := 2) (v := .ref (bk 0)) (C := RX2) (T := TX2) (N := 8) hx hb htB inlX2 hown hK hP 0 rfl rfl 0 (by decide) (htB _ kw12) (fun _ h9 => h9) rfl dX2_curtain_70 ?_
        refine lv_iload_n hx hb dX2_curtain_73 rfl (lv_at hl 1 rfl) ?_
        obtain ⟨r9, h9, h⟩ := ob h
        refine call_i (v := r9) (wc := (gS t (bk 0) nb now)) (wc' := (gS t (bk 0) nb now)) (ws' := (gBo bh bk bo ++ (gS t (bk 0) nb now))) (cutB (bs := [gBo bh bk bo, gS t (bk 0) nb now]) (cs := [gS t (bk 0) nb now]) (cs' := [gS t (bk 0) nb now]) (bs' := [gBo bh bk bo, gS t (bk 0) nb now]) [1] hP hD hS hA rfl rfl rfl rfl) hS (fun hPc hDc => va_runV (As := [.int cu]) (rest := []) ⟨hx, hb, hml, hown, hts⟩ (mtX1_slowestColumn l D t (bk 0) nb now cu r9 h9 _) (cwV 1 hts (gBV kw175 kw176 kw177 kw11 kw178) rfl rfl rfl (by decide +kernel) ⟨Nat.le_of_ble_eq_true rfl, Nat.le_of_ble_eq_true rfl⟩) (sPc_V hPc hK hDc hE (va_recv hK hP (ci := 1) (q0 := 1) rfl rfl)) rfl rfl hl.1 rfl (lv_room (Nat.le_of_ble_eq_true rfl)) dX2_curtain_74 ⟨Nat.zero_le _, Nat.zero_le _⟩) (fun H locs hP hD hS => ?_)
        obtain rfl := oi h
        exact ret_i hx hb hr hlocks hP hK hD hS dX2_curtain_77

theorem dX2_column_0 : decode cX2_column 0 = .ok (.iload_n 1, 1) := by decide +kernel
theorem dX2_column_1 : decode cX2_column 1 = .ok (.invokestatic 73, 3) := by decide +kernel
theorem dX2_column_4 : decode cX2_column 4 = .ok (.iload_n 2, 1) := by decide +kernel
theorem dX2_column_5 : decode cX2_column 5 = .ok (.bipush 24, 2) := by decide +kernel
theorem dX2_column_7 : decode cX2_column 7 = .ok (.invokestatic 139, 3) := by decide +kernel
theorem dX2_column_10 : decode cX2_column 10 = .ok (.iload_n 3, 1) := by decide +kernel
theorem dX2_column_11 : decode cX2_column 11 = .ok (.iconst 0, 1) := by decide +kernel
theorem dX2_column_12 : decode cX2_column 12 = .ok (.iconst 5, 1) := by decide +kernel
theorem dX2_column_13 : decode cX2_column 13 = .ok (.invokestatic 48, 3) := by decide +kernel
theorem dX2_column_16 : decode cX2_column 16 = .ok (.aload_n 0, 1) := by decide +kernel
theorem dX2_column_17 : decode cX2_column 17 = .ok (.getfield 22, 3) := by decide +kernel
theorem dX2_column_20 : decode cX2_column 20 = .ok (.aload_n 0, 1) := by decide +kernel
theorem dX2_column_21 : decode cX2_column 21 = .ok (.getfield 10, 3) := by decide +kernel
theorem dX2_column_24 : decode cX2_column 24 = .ok (.iload_n 1, 1) := by decide +kernel
theorem dX2_column_25 : decode cX2_column 25 = .ok (.invokevirtual 143, 3) := by decide +kernel
theorem dX2_column_28 : decode cX2_column 28 = .ok (.iload_n 3, 1) := by decide +kernel
theorem dX2_column_29 : decode cX2_column 29 = .ok (.tableswitch 104 0 4 #[35, 47, 59, 71, 91], 35) := by decide +kernel
theorem dX2_column_64 : decode cX2_column 64 = .ok (.aload_n 0, 1) := by decide +kernel
theorem dX2_column_65 : decode cX2_column 65 = .ok (.getfield 22, 3) := by decide +kernel
theorem dX2_column_68 : decode cX2_column 68 = .ok (.getfield 147, 3) := by decide +kernel
theorem dX2_column_71 : decode cX2_column 71 = .ok (.iload_n 2, 1) := by decide +kernel
theorem dX2_column_72 : decode cX2_column 72 = .ok (.invokestatic 58, 3) := by decide +kernel
theorem dX2_column_75 : decode cX2_column 75 = .ok (.ireturn, 1) := by decide +kernel
theorem dX2_column_76 : decode cX2_column 76 = .ok (.aload_n 0, 1) := by decide +kernel
theorem dX2_column_77 : decode cX2_column 77 = .ok (.getfield 22, 3) := by decide +kernel
theorem dX2_column_80 : decode cX2_column 80 = .ok (.getfield 150, 3) := by decide +kernel
theorem dX2_column_83 : decode cX2_column 83 = .ok (.iload_n 2, 1) := by decide +kernel
theorem dX2_column_84 : decode cX2_column 84 = .ok (.invokestatic 58, 3) := by decide +kernel
theorem dX2_column_87 : decode cX2_column 87 = .ok (.ireturn, 1) := by decide +kernel
theorem dX2_column_88 : decode cX2_column 88 = .ok (.aload_n 0, 1) := by decide +kernel
theorem dX2_column_89 : decode cX2_column 89 = .ok (.getfield 22, 3) := by decide +kernel
theorem dX2_column_92 : decode cX2_column 92 = .ok (.getfield 153, 3) := by decide +kernel
theorem dX2_column_95 : decode cX2_column 95 = .ok (.iload_n 2, 1) := by decide +kernel
theorem dX2_column_96 : decode cX2_column 96 = .ok (.invokestatic 58, 3) := by decide +kernel
theorem dX2_column_99 : decode cX2_column 99 = .ok (.ireturn, 1) := by decide +kernel
theorem dX2_column_100 : decode cX2_column 100 = .ok (.aload_n 0, 1) := by decide +kernel
theorem dX2_column_101 : decode cX2_column 101 = .ok (.getfield 22, 3) := by decide +kernel
theorem dX2_column_104 : decode cX2_column 104 = .ok (.getfield 153, 3) := by decide +kernel
theorem dX2_column_107 : decode cX2_column 107 = .ok (.iload_n 2, 1) := by decide +kernel
theorem dX2_column_108 : decode cX2_column 108 = .ok (.invokestatic 58, 3) := by decide +kernel
theorem dX2_column_111 : decode cX2_column 111 = .ok (.iload_n 1, 1) := by decide +kernel
theorem dX2_column_112 : decode cX2_column 112 = .ok (.invokestatic 156, 3) := by decide +kernel
theorem dX2_column_115 : decode cX2_column 115 = .ok (.isub, 1) := by decide +kernel
theorem dX2_column_116 : decode cX2_column 116 = .ok (.invokestatic 159, 3) := by decide +kernel
theorem dX2_column_119 : decode cX2_column 119 = .ok (.ireturn, 1) := by decide +kernel
theorem dX2_column_120 : decode cX2_column 120 = .ok (.aload_n 0, 1) := by decide +kernel
theorem dX2_column_121 : decode cX2_column 121 = .ok (.getfield 10, 3) := by decide +kernel
theorem dX2_column_124 : decode cX2_column 124 = .ok (.iconst 0, 1) := by decide +kernel
theorem dX2_column_125 : decode cX2_column 125 = .ok (.invokevirtual 66, 3) := by decide +kernel
theorem dX2_column_128 : decode cX2_column 128 = .ok (.iload_n 2, 1) := by decide +kernel
theorem dX2_column_129 : decode cX2_column 129 = .ok (.invokestatic 58, 3) := by decide +kernel
theorem dX2_column_132 : decode cX2_column 132 = .ok (.ireturn, 1) := by decide +kernel
theorem dX2_column_133 : decode cX2_column 133 = .ok (.aload_n 0, 1) := by decide +kernel
theorem dX2_column_134 : decode cX2_column 134 = .ok (.getfield 10, 3) := by decide +kernel
theorem dX2_column_137 : decode cX2_column 137 = .ok (.iconst 1, 1) := by decide +kernel
theorem dX2_column_138 : decode cX2_column 138 = .ok (.invokevirtual 66, 3) := by decide +kernel
theorem dX2_column_141 : decode cX2_column 141 = .ok (.iload_n 2, 1) := by decide +kernel
theorem dX2_column_142 : decode cX2_column 142 = .ok (.invokestatic 58, 3) := by decide +kernel
theorem dX2_column_145 : decode cX2_column 145 = .ok (.ireturn, 1) := by decide +kernel
abbrev zX2_column : List Cond := .code yX2_column cX2_column 4 (some .int) :: BIG
def fX2_column (bo : BoT) (now : ShT) (ex : ExT) (v : Int32) (k : Int32) (w : Int32) : Option (Nat ⊕ (Int32 × ExT)) := tb (fX2_needSpeed v) (fun r1 => tb (fX2_needIndex k 24) (fun r2 => tb (fX2_needRange w 0 5) (fun r3 => (fX0_expose ex now v).bind (fun r4 => (if w = 0 then (fX2_at 24 r4.1 k).bind (fun r6 => some (.inr (r6, r4))) else (if w = 1 then (fX2_at 24 r4.2.1 k).bind (fun r8 => some (.inr (r8, r4))) else (if w = 2 then (fX2_at 24 r4.2.2.1 k).bind (fun r10 => some (.inr (r10, r4))) else (if w = 3 then (fX2_at 24 r4.2.2.1 k).bind (fun r12 => (fX2_wantedLight v).bind (fun r13 => some (.inr (iabs (r12 - r13), r4)))) else (if w = 4 then (fX1_dragsOf now 0).bind (fun r15 => (fX2_at 24 now.2.2.1 k).bind (fun r16 => some (.inr (r16, r4)))) else (fX1_dragsOf now 1).bind (fun r17 => (fX2_at 24 now.2.2.2.1 k).bind (fun r18 => some (.inr (r18, r4)))))))))))))
set_option maxHeartbeats 4000000 in
set_option maxRecDepth 100000 in
theorem mtX2_column (l : Launch) (D : va_G) (t : Nat → ClassId) (bh : Nat) (bk : Nat → Nat) (bo : BoT) (nb : Nat → Nat) (now : ShT) (eb : Nat → Nat) (ex : ExT) (v : Int32) (k : Int32) (w : Int32) (out : Int32 × ExT) (h : fX2_column bo now ex v k w = some (.inr out))  (sz : Nat) : Met l yX2_column zX2_column ({ frames := 4, cells := 0, slots := 0, locals := 93 }) (sPc D t (gBo bh bk bo ++ (gS t (bk 0) nb now ++ (gE t (bk 2) eb ex))) sz [.ref bh, .int v, .int k, .int w]) (qI D t (gBo bh bk bo ++ (gS t (bk 0) nb now ++ (gE t (bk 2) eb out.2))) out.1 (va_A (gBo bh bk bo ++ (gS t (bk 0) nb now ++ (gE t (bk 2) eb ex))) sz)) 0 0 (va_A (gBo bh bk bo ++ (gS t (bk 0) nb now ++ (gE t (bk 2) eb ex))) sz) := by
  refine met_of (Qf := fun A => qI D t (gBo bh bk bo ++ (gS t (bk 0) nb now ++ (gE t (bk 2) eb out.2))) out.1 A) (cc := cX2_column) (maxL := 4) (ret := some .int) (by decide) rfl (Nat.le_of_ble_eq_true rfl) ?_
  intro p e s m args below meth c A hx hb hr hml hts hown hlocks hA hP hK hD hE hS ls hl
  have htB : ∀ w ∈ BIG, w.before args s = true := fun w h => hts w (List.mem_cons_of_mem _ h)
  have hown : s.vm.findClass RX2 = some m.cls := hown
  have hl : lv_has ls 4 [(0, .ref bh), (1, .int v), (2, .int k), (3, .int w)] := hl
  unfold fX2_column at h
  refine lv_iload_n hx hb dX2_column_0 rfl (lv_at hl 1 rfl) ?_
  obtain ⟨r1, h1, h⟩ := tb_r h
  refine call_v (wc := ([] : va_W)) (wc' := ([] : va_W)) (ws' := (gBo bh bk bo ++ (gS t (bk 0) nb now ++ (gE t (bk 2) eb ex)))) (cutB (bs := [gBo bh bk bo, gS t (bk 0) nb now, gE t (bk 2) eb ex]) (cs := []) (cs' := []) (bs' := [gBo bh bk bo, gS t (bk 0) nb now, gE t (bk 2) eb ex]) [] hP hD hS hA rfl rfl rfl rfl) hS (fun hPc hDc => va_runS (As := [.int v]) (rest := []) ⟨hx, hb, hml, hown, hts⟩ (mtX2_needSpeed l D t v r1 h1 _) (va_cwS 1 hts (gBS kw82 kw83 kw2 kw84) rfl rfl rfl (by decide +kernel) ⟨Nat.le_of_ble_eq_true rfl, Nat.le_of_ble_eq_true rfl⟩) (sPc_S hPc hK hDc hE) rfl rfl hl.1 rfl (lv_room (Nat.le_of_ble_eq_true rfl)) dX2_column_1 ⟨Nat.zero_le _, Nat.zero_le _⟩) (fun H locs hP hD hS => ?_)
  refine lv_iload_n hx hb dX2_column_4 rfl (lv_at hl 2 rfl) ?_
  refine lv_bipush (v := 24) hx hb dX2_column_5 (by decide) ?_
  obtain ⟨r2, h2, h⟩ := tb_r h
  refine call_v (wc := ([] : va_W)) (wc' := ([] : va_W)) (ws' := (gBo bh bk bo ++ (gS t (bk 0) nb now ++ (gE t (bk 2) eb ex)))) (cutB (bs := [gBo bh bk bo, gS t (bk 0) nb now, gE t (bk 2) eb ex]) (cs := []) (cs' := []) (bs' := [gBo bh bk bo, gS t (bk 0) nb now, gE t (bk 2) eb ex]) [] hP hD hS hA rfl rfl rfl rfl) hS (fun hPc hDc => va_runS (As := [.int k, .int 24]) (rest := []) ⟨hx, hb, hml, hown, hts⟩ (mtX2_needIndex l D t k 24 r2 h2 _) (va_cwS 2 hts (gBS kw85 kw86 kw2 kw87) rfl rfl rfl (by decide +kernel) ⟨Nat.le_of_ble_eq_true rfl, Nat.le_of_ble_eq_true rfl⟩) (sPc_S hPc hK hDc hE) rfl rfl hl.1 rfl (lv_room (Nat.le_of_ble_eq_true rfl)) dX2_column_7 ⟨Nat.zero_le _, Nat.zero_le _⟩) (fun H locs hP hD hS => ?_)
  refine lv_iload_n hx hb dX2_column_10 rfl (lv_at hl 3 rfl) ?_
  refine lv_iconst (v := 0) hx hb dX2_column_11 (by decide) ?_
  refine lv_iconst (v := 5) hx hb dX2_column_12 (by decide) ?_
  obtain ⟨r3, h3, h⟩ := tb_r h
  refine call_v (wc := ([] : va_W)) (wc' := ([] : va_W)) (ws' := (gBo bh bk bo ++ (gS t (bk 0) nb now ++ (gE t (bk 2) eb ex)))) (cutB (bs := [gBo bh bk bo, gS t (bk 0) nb now, gE t (bk 2) eb ex]) (cs := []) (cs' := []) (bs' := [gBo bh bk bo, gS t (bk 0) nb now, gE t (bk 2) eb ex]) [] hP hD hS hA rfl rfl rfl rfl) hS (fun hPc hDc => va_runS (As := [.int w, .int 0, .int 5]) (rest := []) ⟨hx, hb, hml, hown, hts⟩ (mtX2_needRange l D t w 0 5 r3 h3 _) (va_cwS 3 hts (gBS kw52 kw53 kw2 kw54) rfl rfl rfl (by decide +kernel) ⟨Nat.le_of_ble_eq_true rfl, Nat.le_of_ble_eq_true rfl⟩) (sPc_S hPc hK hDc hE) rfl rfl hl.1 rfl (lv_room (Nat.le_of_ble_eq_true rfl)) dX2_column_13 ⟨Nat.zero_le _, Nat.zero_le _⟩) (fun H locs hP hD hS => ?_)
  refine lv_aload_n hx hb dX2_column_16 rfl (lv_at hl 0 rfl) ?_
  refine va_get (D := D) (ci := 2) (v := .ref (bk 2)) (C := RX2) (T := TX2) (N := 8) hx hb htB inlX2 hown hK hP 0 rfl rfl 2 (by decide) (htB _ kw17) (fun _ h9 => h9) rfl dX2_column_17 ?_
  refine lv_aload_n hx hb dX2_column_20 rfl (lv_at hl 0 rfl) ?_
  refine va_get (D := D) (ci := 2) (v := .ref (bk 0)) (C := RX2) (T := TX2) (N := 8) hx hb htB inlX2 hown hK hP 0 rfl rfl 0 (by decide) (htB _ kw12) (fun _ h9 => h9) rfl dX2_column_21 ?_
  refine lv_iload_n hx hb dX2_column_24 rfl (lv_at hl 1 rfl) ?_
  obtain ⟨r4, h4, h⟩ := ob h
  refine call_v (wc := (gE t (bk 2) eb ex ++ (gS t (bk 0) nb now))) (wc' := (gE t (bk 2) eb r4 ++ (gS t (bk 0) nb now))) (ws' := (gBo bh bk bo ++ (gS t (bk 0) nb now ++ (gE t (bk 2) eb r4)))) (cutB (bs := [gBo bh bk bo, gS t (bk 0) nb now, gE t (bk 2) eb ex]) (cs := [gE t (bk 2) eb ex, gS t (bk 0) nb now]) (cs' := [gE t (bk 2) eb r4, gS t (bk 0) nb now]) (bs' := [gBo bh bk bo, gS t (bk 0) nb now, gE t (bk 2) eb r4]) [2, 1] hP hD hS hA rfl rfl rfl rfl) hS (fun hPc hDc => va_runV (As := [.ref (bk 0), .int v]) (rest := []) ⟨hx, hb, hml, hown, hts⟩ (mtX0_expose l D t (bk 2) eb ex (bk 0) nb now v r4 h4 _) (cwV 2 hts (gBV kw100 kw101 kw102 kw16 kw103) rfl rfl rfl (by decide +kernel) ⟨Nat.le_of_ble_eq_true rfl, Nat.le_of_ble_eq_true rfl⟩) (sPc_V hPc hK hDc hE (va_recv hK hP (ci := 0) (q0 := 9) rfl rfl)) rfl rfl hl.1 rfl (lv_room (Nat.le_of_ble_eq_true rfl)) dX2_column_25 ⟨Nat.zero_le _, Nat.zero_le _⟩) (fun H locs hP hD hS => ?_)
  refine lv_iload_n hx hb dX2_column_28 rfl (lv_at hl 3 rfl) ?_
  by_cases c5 : w = 0
  · have h := it_p c5 h
    refine lv_tableIn (off := 35) (tgt := 64) hx hb dX2_column_29 (by rw [c5]; decide) (by rw [c5]; decide) (by rw [c5]; rfl) (by decide) ?_
    refine lv_aload_n hx hb dX2_column_64 rfl (lv_at hl 0 rfl) ?_
    refine va_get (D := D) (ci := 2) (v := .ref (bk 2)) (C := RX2) (T := TX2) (N := 8) hx hb htB inlX2 hown hK hP 0 rfl rfl 2 (by decide) (htB _ kw17) (fun _ h9 => h9) rfl dX2_column_65 ?_
    refine va_get (D := D) (ci := 0) (v := .ref (eb 0)) (C := RX0) (T := TX0) (N := 10) hx hb htB inlX0 hown hK hP 9 rfl rfl 0 (by decide) (htB _ kw264) (fun _ h9 => h9) rfl dX2_column_68 ?_
    refine lv_iload_n hx hb dX2_column_71 rfl (lv_at hl 2 rfl) ?_
    obtain ⟨r6, h6, h⟩ := ob h
    refine call_i (v := r6) (wc := (gA t (eb 0) 24 r4.1)) (wc' := (gA t (eb 0) 24 r4.1)) (ws' := (gBo bh bk bo ++ (gS t (bk 0) nb now ++ (gE t (bk 2) eb r4)))) (cutI (wc := (gA t (eb 0) 24 r4.1)) (wc' := (gA t (eb 0) 24 r4.1)) (ws' := (gBo bh bk bo ++ (gS t (bk 0) nb now ++ (gE t (bk 2) eb r4)))) [10] hP hD hS hA rfl rfl rfl rfl) hS (fun hPc hDc => va_runS (As := [.ref (eb 0), .int k]) (rest := []) ⟨hx, hb, hml, hown, hts⟩ (mtX2_at l D t (eb 0) 24 r4.1 k r6 h6 (by decide) _) (va_cwS 2 hts (gBS kw157 kw65 kw2 kw66) rfl rfl rfl (by decide +kernel) ⟨Nat.le_of_ble_eq_true rfl, Nat.le_of_ble_eq_true rfl⟩) (sPc_S hPc hK hDc hE) rfl rfl hl.1 rfl (lv_room (Nat.le_of_ble_eq_true rfl)) dX2_column_72 ⟨Nat.zero_le _, Nat.zero_le _⟩) (fun H locs hP hD hS => ?_)
    obtain rfl := oi h
    exact ret_i hx hb hr hlocks hP hK hD hS dX2_column_75
  · have h := it_n c5 h
    by_cases c7 : w = 1
    · have h := it_p c7 h
      refine lv_tableIn (off := 47) (tgt := 76) hx hb dX2_column_29 (by rw [c7]; decide) (by rw [c7]; decide) (by rw [c7]; rfl) (by decide) ?_
      refine lv_aload_n hx hb dX2_column_76 rfl (lv_at hl 0 rfl) ?_
      refine va_get (D := D) (ci := 2) (v := .ref (bk 2)) (C := RX2) (T := TX2) (N := 8) hx hb htB inlX2 hown hK hP 0 rfl rfl 2 (by decide) (htB _ kw17) (fun _ h9 => h9) rfl dX2_column_77 ?_
      refine va_get (D := D) (ci := 0) (v := .ref (eb 1)) (C := RX0) (T := TX0) (N := 10) hx hb htB inlX0 hown hK hP 9 rfl rfl 1 (by decide) (htB _ kw265) (fun _ h9 => h9) rfl dX2_column_80 ?_
      refine lv_iload_n hx hb dX2_column_83 rfl (lv_at hl 2 rfl) ?_
      obtain ⟨r8, h8, h⟩ := ob h
      refine call_i (v := r8) (wc := (gA t (eb 1) 24 r4.2.1)) (wc' := (gA t (eb 1) 24 r4.2.1)) (ws' := (gBo bh bk bo ++ (gS t (bk 0) nb now ++ (gE t (bk 2) eb r4)))) (cutI (wc := (gA t (eb 1) 24 r4.2.1)) (wc' := (gA t (eb 1) 24 r4.2.1)) (ws' := (gBo bh bk bo ++ (gS t (bk 0) nb now ++ (gE t (bk 2) eb r4)))) [11] hP hD hS hA rfl rfl rfl rfl) hS (fun hPc hDc => va_runS (As := [.ref (eb 1), .int k]) (rest := []) ⟨hx, hb, hml, hown, hts⟩ (mtX2_at l D t (eb 1) 24 r4.2.1 k r8 h8 (by decide) _) (va_cwS 2 hts (gBS kw157 kw65 kw2 kw66) rfl rfl rfl (by decide +kernel) ⟨Nat.le_of_ble_eq_true rfl, Nat.le_of_ble_eq_true rfl⟩) (sPc_S hPc hK hDc hE) rfl rfl hl.1 rfl (lv_room (Nat.le_of_ble_eq_true rfl)) dX2_column_84 ⟨Nat.zero_le _, Nat.zero_le _⟩) (fun H locs hP hD hS => ?_)
      obtain rfl := oi h
      exact ret_i hx hb hr hlocks hP hK hD hS dX2_column_87
    · have h := it_n c7 h
      by_cases c9 : w = 2
      · have h := it_p c9 h
        refine lv_tableIn (off := 59) (tgt := 88) hx hb dX2_column_29 (by rw [c9]; decide) (by rw [c9]; decide) (by rw [c9]; rfl) (by decide) ?_
        refine lv_aload_n hx hb dX2_column_88 rfl (lv_at hl 0 rfl) ?_
        refine va_get (D := D) (ci := 2) (v := .ref (bk 2)) (C := RX2) (T := TX2) (N := 8) hx hb htB inlX2 hown hK hP 0 rfl rfl 2 (by decide) (htB _ kw17) (fun _ h9 => h9) rfl dX2_column_89 ?_
        refine va_get (D := D) (ci := 0) (v := .ref (eb 2)) (C := RX0) (T := TX0) (N := 10) hx hb htB inlX0 hown hK hP 9 rfl rfl 2 (by decide) (htB _ kw266) (fun _ h9 => h9) rfl dX2_column_92 ?_
        refine lv_iload_n hx hb dX2_column_95 rfl (lv_at hl 2 rfl) ?_
        obtain ⟨r10, h10, h⟩ := ob h
        refine call_i (v := r10) (wc := (gA t (eb 2) 24 r4.2.2.1)) (wc' := (gA t (eb 2) 24 r4.2.2.1)) (ws' := (gBo bh bk bo ++ (gS t (bk 0) nb now ++ (gE t (bk 2) eb r4)))) (cutI (wc := (gA t (eb 2) 24 r4.2.2.1)) (wc' := (gA t (eb 2) 24 r4.2.2.1)) (ws' := (gBo bh bk bo ++ (gS t (bk 0) nb now ++ (gE t (bk 2) eb r4)))) [12] hP hD hS hA rfl rfl rfl rfl) hS (fun hPc hDc => va_runS (As := [.ref (eb 2), .int k]) (rest := []) ⟨hx, hb, hml, hown, hts⟩ (mtX2_at l D t (eb 2) 24 r4.2.2.1 k r10 h10 (by decide) _) (va_cwS 2 hts (gBS kw157 kw65 kw2 kw66) rfl rfl rfl (by decide +kernel) ⟨Nat.le_of_ble_eq_true rfl, Nat.le_of_ble_eq_true rfl⟩) (sPc_S hPc hK hDc hE) rfl rfl hl.1 rfl (lv_room (Nat.le_of_ble_eq_true rfl)) dX2_column_96 ⟨Nat.zero_le _, Nat.zero_le _⟩) (fun H locs hP hD hS => ?_)
        obtain rfl := oi h
        exact ret_i hx hb hr hlocks hP hK hD hS dX2_column_99
      · have h := it_n c9 h
        by_cases c11 : w = 3
        · have h := it_p c11 h
          refine lv_tableIn (off := 71) (tgt := 100) hx hb dX2_column_29 (by rw [c11]; decide) (by rw [c11]; decide) (by rw [c11]; rfl) (by decide) ?_
          refine lv_aload_n hx hb dX2_column_100 rfl (lv_at hl 0 rfl) ?_
          refine va_get (D := D) (ci := 2) (v := .ref (bk 2)) (C := RX2) (T := TX2) (N := 8) hx hb htB inlX2 hown hK hP 0 rfl rfl 2 (by decide) (htB _ kw17) (fun _ h9 => h9) rfl dX2_column_101 ?_
          refine va_get (D := D) (ci := 0) (v := .ref (eb 2)) (C := RX0) (T := TX0) (N := 10) hx hb htB inlX0 hown hK hP 9 rfl rfl 2 (by decide) (htB _ kw266) (fun _ h9 => h9) rfl dX2_column_104 ?_
          refine lv_iload_n hx hb dX2_column_107 rfl (lv_at hl 2 rfl) ?_
          obtain ⟨r12, h12, h⟩ := ob h
          refine call_i (v := r12) (wc := (gA t (eb 2) 24 r4.2.2.1)) (wc' := (gA t (eb 2) 24 r4.2.2.1)) (ws' := (gBo bh bk bo ++ (gS t (bk 0) nb now ++ (gE t (bk 2) eb r4)))) (cutI (wc := (gA t (eb 2) 24 r4.2.2.1)) (wc' := (gA t (eb 2) 24 r4.2.2.1)) (ws' := (gBo bh bk bo ++ (gS t (bk 0) nb now ++ (gE t (bk 2) eb r4)))) [12] hP hD hS hA rfl rfl rfl rfl) hS (fun hPc hDc => va_runS (As := [.ref (eb 2), .int k]) (rest := []) ⟨hx, hb, hml, hown, hts⟩ (mtX2_at l D t (eb 2) 24 r4.2.2.1 k r12 h12 (by decide) _) (va_cwS 2 hts (gBS kw157 kw65 kw2 kw66) rfl rfl rfl (by decide +kernel) ⟨Nat.le_of_ble_eq_true rfl, Nat.le_of_ble_eq_true rfl⟩) (sPc_S hPc hK hDc hE) rfl rfl hl.1 rfl (lv_room (Nat.le_of_ble_eq_true rfl)) dX2_column_108 ⟨Nat.zero_le _, Nat.zero_le _⟩) (fun H locs hP hD hS => ?_)
          refine lv_iload_n hx hb dX2_column_111 rfl (lv_at hl 1 rfl) ?_
          obtain ⟨r13, h13, h⟩ := ob h
          refine call_i (v := r13) (wc := ([] : va_W)) (wc' := ([] : va_W)) (ws' := (gBo bh bk bo ++ (gS t (bk 0) nb now ++ (gE t (bk 2) eb r4)))) (cutB (bs := [gBo bh bk bo, gS t (bk 0) nb now, gE t (bk 2) eb r4]) (cs := []) (cs' := []) (bs' := [gBo bh bk bo, gS t (bk 0) nb now, gE t (bk 2) eb r4]) [] hP hD hS hA rfl rfl rfl rfl) hS (fun hPc hDc => va_runS (As := [.int v]) (rest := [.int r12]) ⟨hx, hb, hml, hown, hts⟩ (mtX2_wantedLight l D t v r13 h13 _) (va_cwS 1 hts (gBS kw192 kw122 kw2 kw123) rfl rfl rfl (by decide +kernel) ⟨Nat.le_of_ble_eq_true rfl, Nat.le_of_ble_eq_true rfl⟩) (sPc_S hPc hK hDc hE) rfl rfl hl.1 rfl (lv_room (Nat.le_of_ble_eq_true rfl)) dX2_column_112 ⟨Nat.zero_le _, Nat.zero_le _⟩) (fun H locs hP hD hS => ?_)
          refine lv_isub hx hb dX2_column_115 ?_
          refine va_mabs hx hb (by rw [hml]; exact hl.1.symm) hown (htB _ kw267) (htB _ kw143) (htB _ kw63) (htB _ kw144) (Nat.le_of_ble_eq_true rfl) (Nat.le_of_ble_eq_true rfl) (Nat.zero_le _) (Nat.zero_le _) dX2_column_116 ?_
          obtain rfl := oi h
          exact ret_i hx hb hr hlocks hP hK hD hS dX2_column_119
        · have h := it_n c11 h
          by_cases c14 : w = 4
          · have h := it_p c14 h
            refine lv_tableIn (off := 91) (tgt := 120) hx hb dX2_column_29 (by rw [c14]; decide) (by rw [c14]; decide) (by rw [c14]; rfl) (by decide) ?_
            refine lv_aload_n hx hb dX2_column_120 rfl (lv_at hl 0 rfl) ?_
            refine va_get (D := D) (ci := 2) (v := .ref (bk 0)) (C := RX2) (T := TX2) (N := 8) hx hb htB inlX2 hown hK hP 0 rfl rfl 0 (by decide) (htB _ kw12) (fun _ h9 => h9) rfl dX2_column_121 ?_
            refine lv_iconst (v := 0) hx hb dX2_column_124 (by decide) ?_
            obtain ⟨r15, h15, h⟩ := ob h
            refine call_r (v := if 0 = 0 then nb 2 else nb 3) (wc := (gS t (bk 0) nb now)) (wc' := (gS t (bk 0) nb now)) (ws' := (gBo bh bk bo ++ (gS t (bk 0) nb now ++ (gE t (bk 2) eb r4)))) (cutB (bs := [gBo bh bk bo, gS t (bk 0) nb now, gE t (bk 2) eb r4]) (cs := [gS t (bk 0) nb now]) (cs' := [gS t (bk 0) nb now]) (bs' := [gBo bh bk bo, gS t (bk 0) nb now, gE t (bk 2) eb r4]) [1] hP hD hS hA rfl rfl rfl rfl) hS (fun hPc hDc => va_runV (As := [.int 0]) (rest := []) ⟨hx, hb, hml, hown, hts⟩ (mtX1_dragsOf l D t (bk 0) nb now 0 r15 h15 _) (cwV 1 hts (gBV kw215 kw171 kw172 kw11 kw173) rfl rfl rfl (by decide +kernel) ⟨Nat.le_of_ble_eq_true rfl, Nat.le_of_ble_eq_true rfl⟩) (sPc_V hPc hK hDc hE (va_recv hK hP (ci := 1) (q0 := 1) rfl rfl)) rfl rfl hl.1 rfl (lv_room (Nat.le_of_ble_eq_true rfl)) dX2_column_125 ⟨Nat.zero_le _, Nat.zero_le _⟩) (fun H locs hP hD hS => ?_)
            rw [if_pos (by decide)]
            refine lv_iload_n hx hb dX2_column_128 rfl (lv_at hl 2 rfl) ?_
            obtain ⟨r16, h16, h⟩ := ob h
            refine call_i (v := r16) (wc := (gA t (nb 2) 24 now.2.2.1)) (wc' := (gA t (nb 2) 24 now.2.2.1)) (ws' := (gBo bh bk bo ++ (gS t (bk 0) nb now ++ (gE t (bk 2) eb r4)))) (cutI (wc := (gA t (nb 2) 24 now.2.2.1)) (wc' := (gA t (nb 2) 24 now.2.2.1)) (ws' := (gBo bh bk bo ++ (gS t (bk 0) nb now ++ (gE t (bk 2) eb r4)))) [4] hP hD hS hA rfl rfl rfl rfl) hS (fun hPc hDc => va_runS (As := [.ref (nb 2), .int k]) (rest := []) ⟨hx, hb, hml, hown, hts⟩ (mtX2_at l D t (nb 2) 24 now.2.2.1 k r16 h16 (by decide) _) (va_cwS 2 hts (gBS kw157 kw65 kw2 kw66) rfl rfl rfl (by decide +kernel) ⟨Nat.le_of_ble_eq_true rfl, Nat.le_of_ble_eq_true rfl⟩) (sPc_S hPc hK hDc hE) rfl rfl hl.1 rfl (lv_room (Nat.le_of_ble_eq_true rfl)) dX2_column_129 ⟨Nat.zero_le _, Nat.zero_le _⟩) (fun H locs hP hD hS => ?_)
            obtain rfl := oi h
            exact ret_i hx hb hr hlocks hP hK hD hS dX2_column_132
          · have h := it_n c14 h
            refine lv_tableOut (tgt := 133) hx hb dX2_column_29 (tab_0_4 c5 c7 c9 c11 c14) (by decide) ?_
            refine lv_aload_n hx hb dX2_column_133 rfl (lv_at hl 0 rfl) ?_
            refine va_get (D := D) (ci := 2) (v := .ref (bk 0)) (C := RX2) (T := TX2) (N := 8) hx hb htB inlX2 hown hK hP 0 rfl rfl 0 (by decide) (htB _ kw12) (fun _ h9 => h9) rfl dX2_column_134 ?_
            refine lv_iconst (v := 1) hx hb dX2_column_137 (by decide) ?_
            obtain ⟨r17, h17, h⟩ := ob h
            refine call_r (v := if 1 = 0 then nb 2 else nb 3) (wc := (gS t (bk 0) nb now)) (wc' := (gS t (bk 0) nb now)) (ws' := (gBo bh bk bo ++ (gS t (bk 0) nb now ++ (gE t (bk 2) eb r4)))) (cutB (bs := [gBo bh bk bo, gS t (bk 0) nb now, gE t (bk 2) eb r4]) (cs := [gS t (bk 0) nb now]) (cs' := [gS t (bk 0) nb now]) (bs' := [gBo bh bk bo, gS t (bk 0) nb now, gE t (bk 2) eb r4]) [1] hP hD hS hA rfl rfl rfl rfl) hS (fun hPc hDc => va_runV (As := [.int 1]) (rest := []) ⟨hx, hb, hml, hown, hts⟩ (mtX1_dragsOf l D t (bk 0) nb now 1 r17 h17 _) (cwV 1 hts (gBV kw215 kw171 kw172 kw11 kw173) rfl rfl rfl (by decide +kernel) ⟨Nat.le_of_ble_eq_true rfl, Nat.le_of_ble_eq_true rfl⟩) (sPc_V hPc hK hDc hE (va_recv hK hP (ci := 1) (q0 := 1) rfl rfl)) rfl rfl hl.1 rfl (lv_room (Nat.le_of_ble_eq_true rfl)) dX2_column_138 ⟨Nat.zero_le _, Nat.zero_le _⟩) (fun H locs hP hD hS => ?_)
            rw [if_neg (by decide)]
            refine lv_iload_n hx hb dX2_column_141 rfl (lv_at hl 2 rfl) ?_
            obtain ⟨r18, h18, h⟩ := ob h
            refine call_i (v := r18) (wc := (gA t (nb 3) 24 now.2.2.2.1)) (wc' := (gA t (nb 3) 24 now.2.2.2.1)) (ws' := (gBo bh bk bo ++ (gS t (bk 0) nb now ++ (gE t (bk 2) eb r4)))) (cutI (wc := (gA t (nb 3) 24 now.2.2.2.1)) (wc' := (gA t (nb 3) 24 now.2.2.2.1)) (ws' := (gBo bh bk bo ++ (gS t (bk 0) nb now ++ (gE t (bk 2) eb r4)))) [5] hP hD hS hA rfl rfl rfl rfl) hS (fun hPc hDc => va_runS (As := [.ref (nb 3), .int k]) (rest := []) ⟨hx, hb, hml, hown, hts⟩ (mtX2_at l D t (nb 3) 24 now.2.2.2.1 k r18 h18 (by decide) _) (va_cwS 2 hts (gBS kw157 kw65 kw2 kw66) rfl rfl rfl (by decide +kernel) ⟨Nat.le_of_ble_eq_true rfl, Nat.le_of_ble_eq_true rfl⟩) (sPc_S hPc hK hDc hE) rfl rfl hl.1 rfl (lv_room (Nat.le_of_ble_eq_true rfl)) dX2_column_142 ⟨Nat.zero_le _, Nat.zero_le _⟩) (fun H locs hP hD hS => ?_)
            obtain rfl := oi h
            exact ret_i hx hb hr hlocks hP hK hD hS dX2_column_145

theorem dX2_speed_0 : decode cX2_speed 0 = .ok (.iload_n 1, 1) := by decide +kernel
theorem dX2_speed_1 : decode cX2_speed 1 = .ok (.invokestatic 73, 3) := by decide +kernel
theorem dX2_speed_4 : decode cX2_speed 4 = .ok (.iload_n 2, 1) := by decide +kernel
theorem dX2_speed_5 : decode cX2_speed 5 = .ok (.iconst 0, 1) := by decide +kernel
theorem dX2_speed_6 : decode cX2_speed 6 = .ok (.bipush 8, 2) := by decide +kernel
theorem dX2_speed_8 : decode cX2_speed 8 = .ok (.invokestatic 48, 3) := by decide +kernel
theorem dX2_speed_11 : decode cX2_speed 11 = .ok (.aload_n 0, 1) := by decide +kernel
theorem dX2_speed_12 : decode cX2_speed 12 = .ok (.getfield 22, 3) := by decide +kernel
theorem dX2_speed_15 : decode cX2_speed 15 = .ok (.aload_n 0, 1) := by decide +kernel
theorem dX2_speed_16 : decode cX2_speed 16 = .ok (.getfield 10, 3) := by decide +kernel
theorem dX2_speed_19 : decode cX2_speed 19 = .ok (.iload_n 1, 1) := by decide +kernel
theorem dX2_speed_20 : decode cX2_speed 20 = .ok (.invokevirtual 143, 3) := by decide +kernel
theorem dX2_speed_23 : decode cX2_speed 23 = .ok (.iload_n 2, 1) := by decide +kernel
theorem dX2_speed_24 : decode cX2_speed 24 = .ok (.tableswitch 117 0 7 #[48, 53, 68, 77, 85, 93, 101, 109], 48) := by decide +kernel
theorem dX2_speed_72 : decode cX2_speed 72 = .ok (.iload_n 1, 1) := by decide +kernel
theorem dX2_speed_73 : decode cX2_speed 73 = .ok (.invokestatic 156, 3) := by decide +kernel
theorem dX2_speed_76 : decode cX2_speed 76 = .ok (.ireturn, 1) := by decide +kernel
theorem dX2_speed_77 : decode cX2_speed 77 = .ok (.aload_n 0, 1) := by decide +kernel
theorem dX2_speed_78 : decode cX2_speed 78 = .ok (.getfield 10, 3) := by decide +kernel
theorem dX2_speed_81 : decode cX2_speed 81 = .ok (.getfield 76, 3) := by decide +kernel
theorem dX2_speed_84 : decode cX2_speed 84 = .ok (.iload_n 1, 1) := by decide +kernel
theorem dX2_speed_85 : decode cX2_speed 85 = .ok (.invokestatic 58, 3) := by decide +kernel
theorem dX2_speed_88 : decode cX2_speed 88 = .ok (.bipush 100, 2) := by decide +kernel
theorem dX2_speed_90 : decode cX2_speed 90 = .ok (.iadd, 1) := by decide +kernel
theorem dX2_speed_91 : decode cX2_speed 91 = .ok (.ireturn, 1) := by decide +kernel
theorem dX2_speed_92 : decode cX2_speed 92 = .ok (.aload_n 0, 1) := by decide +kernel
theorem dX2_speed_93 : decode cX2_speed 93 = .ok (.getfield 10, 3) := by decide +kernel
theorem dX2_speed_96 : decode cX2_speed 96 = .ok (.iload_n 1, 1) := by decide +kernel
theorem dX2_speed_97 : decode cX2_speed 97 = .ok (.invokevirtual 164, 3) := by decide +kernel
theorem dX2_speed_100 : decode cX2_speed 100 = .ok (.ireturn, 1) := by decide +kernel
theorem dX2_speed_101 : decode cX2_speed 101 = .ok (.aload_n 0, 1) := by decide +kernel
theorem dX2_speed_102 : decode cX2_speed 102 = .ok (.getfield 22, 3) := by decide +kernel
theorem dX2_speed_105 : decode cX2_speed 105 = .ok (.getfield 167, 3) := by decide +kernel
theorem dX2_speed_108 : decode cX2_speed 108 = .ok (.ireturn, 1) := by decide +kernel
theorem dX2_speed_109 : decode cX2_speed 109 = .ok (.aload_n 0, 1) := by decide +kernel
theorem dX2_speed_110 : decode cX2_speed 110 = .ok (.getfield 22, 3) := by decide +kernel
theorem dX2_speed_113 : decode cX2_speed 113 = .ok (.invokevirtual 96, 3) := by decide +kernel
theorem dX2_speed_116 : decode cX2_speed 116 = .ok (.ireturn, 1) := by decide +kernel
theorem dX2_speed_117 : decode cX2_speed 117 = .ok (.aload_n 0, 1) := by decide +kernel
theorem dX2_speed_118 : decode cX2_speed 118 = .ok (.getfield 22, 3) := by decide +kernel
theorem dX2_speed_121 : decode cX2_speed 121 = .ok (.getfield 170, 3) := by decide +kernel
theorem dX2_speed_124 : decode cX2_speed 124 = .ok (.ireturn, 1) := by decide +kernel
theorem dX2_speed_125 : decode cX2_speed 125 = .ok (.aload_n 0, 1) := by decide +kernel
theorem dX2_speed_126 : decode cX2_speed 126 = .ok (.getfield 22, 3) := by decide +kernel
theorem dX2_speed_129 : decode cX2_speed 129 = .ok (.getfield 173, 3) := by decide +kernel
theorem dX2_speed_132 : decode cX2_speed 132 = .ok (.ireturn, 1) := by decide +kernel
theorem dX2_speed_133 : decode cX2_speed 133 = .ok (.aload_n 0, 1) := by decide +kernel
theorem dX2_speed_134 : decode cX2_speed 134 = .ok (.getfield 22, 3) := by decide +kernel
theorem dX2_speed_137 : decode cX2_speed 137 = .ok (.getfield 176, 3) := by decide +kernel
theorem dX2_speed_140 : decode cX2_speed 140 = .ok (.ireturn, 1) := by decide +kernel
theorem dX2_speed_141 : decode cX2_speed 141 = .ok (.aload_n 0, 1) := by decide +kernel
theorem dX2_speed_142 : decode cX2_speed 142 = .ok (.getfield 10, 3) := by decide +kernel
theorem dX2_speed_145 : decode cX2_speed 145 = .ok (.getfield 179, 3) := by decide +kernel
theorem dX2_speed_148 : decode cX2_speed 148 = .ok (.iload_n 1, 1) := by decide +kernel
theorem dX2_speed_149 : decode cX2_speed 149 = .ok (.invokestatic 58, 3) := by decide +kernel
theorem dX2_speed_152 : decode cX2_speed 152 = .ok (.ireturn, 1) := by decide +kernel
abbrev zX2_speed : List Cond := .code yX2_speed cX2_speed 3 (some .int) :: BIG
def fX2_speed (bo : BoT) (now : ShT) (ex : ExT) (v : Int32) (w : Int32) : Option (Nat ⊕ (Int32 × ExT)) := tb (fX2_needSpeed v) (fun r1 => tb (fX2_needRange w 0 8) (fun r2 => (fX0_expose ex now v).bind (fun r3 => (if w = 0 then (fX2_wantedLight v).bind (fun r5 => some (.inr (r5, r3))) else (if w = 1 then (fX2_at 6 now.2.2.2.2.1 v).bind (fun r7 => some (.inr (r7 + 100, r3))) else (if w = 2 then (fX1_startOfSecond now v).bind (fun r9 => some (.inr (r9, r3))) else (if w = 3 then some (.inr (r3.2.2.2.1, r3)) else (if w = 4 then (fX0_spread r3).bind (fun r12 => some (.inr (r12, r3))) else (if w = 5 then some (.inr (r3.2.2.2.2.2.2.2.1, r3)) else (if w = 6 then some (.inr (r3.2.2.2.2.2.2.2.2.1, r3)) else (if w = 7 then some (.inr (r3.2.2.2.2.2.2.2.2.2, r3)) else (fX2_at 6 now.2.2.2.2.2.2.1 v).bind (fun r16 => some (.inr (r16, r3))))))))))))))
set_option maxHeartbeats 4000000 in
set_option maxRecDepth 100000 in
theorem mtX2_speed (l : Launch) (D : va_G) (t : Nat → ClassId) (bh : Nat) (bk : Nat → Nat) (bo : BoT) (nb : Nat → Nat) (now : ShT) (eb : Nat → Nat) (ex : ExT) (v : Int32) (w : Int32) (out : Int32 × ExT) (h : fX2_speed bo now ex v w = some (.inr out))  (sz : Nat) : Met l yX2_speed zX2_speed ({ frames := 4, cells := 0, slots := 0, locals := 93 }) (sPc D t (gBo bh bk bo ++ (gS t (bk 0) nb now ++ (gE t (bk 2) eb ex))) sz [.ref bh, .int v, .int w]) (qI D t (gBo bh bk bo ++ (gS t (bk 0) nb now ++ (gE t (bk 2) eb out.2))) out.1 (va_A (gBo bh bk bo ++ (gS t (bk 0) nb now ++ (gE t (bk 2) eb ex))) sz)) 0 0 (va_A (gBo bh bk bo ++ (gS t (bk 0) nb now ++ (gE t (bk 2) eb ex))) sz) := by
  refine met_of (Qf := fun A => qI D t (gBo bh bk bo ++ (gS t (bk 0) nb now ++ (gE t (bk 2) eb out.2))) out.1 A) (cc := cX2_speed) (maxL := 3) (ret := some .int) (by decide) rfl (Nat.le_of_ble_eq_true rfl) ?_
  intro p e s m args below meth c A hx hb hr hml hts hown hlocks hA hP hK hD hE hS ls hl
  have htB : ∀ w ∈ BIG, w.before args s = true := fun w h => hts w (List.mem_cons_of_mem _ h)
  have hown : s.vm.findClass RX2 = some m.cls := hown
  have hl : lv_has ls 3 [(0, .ref bh), (1, .int v), (2, .int w)] := hl
  unfold fX2_speed at h
  refine lv_iload_n hx hb dX2_speed_0 rfl (lv_at hl 1 rfl) ?_
  obtain ⟨r1, h1, h⟩ := tb_r h
  refine call_v (wc := ([] : va_W)) (wc' := ([] : va_W)) (ws' := (gBo bh bk bo ++ (gS t (bk 0) nb now ++ (gE t (bk 2) eb ex)))) (cutB (bs := [gBo bh bk bo, gS t (bk 0) nb now, gE t (bk 2) eb ex]) (cs := []) (cs' := []) (bs' := [gBo bh bk bo, gS t (bk 0) nb now, gE t (bk 2) eb ex]) [] hP hD hS hA rfl rfl rfl rfl) hS (fun hPc hDc => va_runS (As := [.int v]) (rest := []) ⟨hx, hb, hml, hown, hts⟩ (mtX2_needSpeed l D t v r1 h1 _) (va_cwS 1 hts (gBS kw82 kw83 kw2 kw84) rfl rfl rfl (by decide +kernel) ⟨Nat.le_of_ble_eq_true rfl, Nat.le_of_ble_eq_true rfl⟩) (sPc_S hPc hK hDc hE) rfl rfl hl.1 rfl (lv_room (Nat.le_of_ble_eq_true rfl)) dX2_speed_1 ⟨Nat.zero_le _, Nat.zero_le _⟩) (fun H locs hP hD hS => ?_)
  refine lv_iload_n hx hb dX2_speed_4 rfl (lv_at hl 2 rfl) ?_
  refine lv_iconst (v := 0) hx hb dX2_speed_5 (by decide) ?_
  refine lv_bipush (v := 8) hx hb dX2_speed_6 (by decide) ?_
  obtain ⟨r2, h2, h⟩ := tb_r h
  refine call_v (wc := ([] : va_W)) (wc' := ([] : va_W)) (ws' := (gBo bh bk bo ++ (gS t (bk 0) nb now ++ (gE t (bk 2) eb ex)))) (cutB (bs := [gBo bh bk bo, gS t (bk 0) nb now, gE t (bk 2) eb ex]) (cs := []) (cs' := []) (bs' := [gBo bh bk bo, gS t (bk 0) nb now, gE t (bk 2) eb ex]) [] hP hD hS hA rfl rfl rfl rfl) hS (fun hPc hDc => va_runS (As := [.int w, .int 0, .int 8]) (rest := []) ⟨hx, hb, hml, hown, hts⟩ (mtX2_needRange l D t w 0 8 r2 h2 _) (va_cwS 3 hts (gBS kw52 kw53 kw2 kw54) rfl rfl rfl (by decide +kernel) ⟨Nat.le_of_ble_eq_true rfl, Nat.le_of_ble_eq_true rfl⟩) (sPc_S hPc hK hDc hE) rfl rfl hl.1 rfl (lv_room (Nat.le_of_ble_eq_true rfl)) dX2_speed_8 ⟨Nat.zero_le _, Nat.zero_le _⟩) (fun H locs hP hD hS => ?_)
  refine lv_aload_n hx hb dX2_speed_11 rfl (lv_at hl 0 rfl) ?_
  refine va_get (D := D) (ci := 2) (v := .ref (bk 2)) (C := RX2) (T := TX2) (N := 8) hx hb htB inlX2 hown hK hP 0 rfl rfl 2 (by decide) (htB _ kw17) (fun _ h9 => h9) rfl dX2_speed_12 ?_
  refine lv_aload_n hx hb dX2_speed_15 rfl (lv_at hl 0 rfl) ?_
  refine va_get (D := D) (ci := 2) (v := .ref (bk 0)) (C := RX2) (T := TX2) (N := 8) hx hb htB inlX2 hown hK hP 0 rfl rfl 0 (by decide) (htB _ kw12) (fun _ h9 => h9) rfl dX2_speed_16 ?_
  refine lv_iload_n hx hb dX2_speed_19 rfl (lv_at hl 1 rfl) ?_
  obtain ⟨r3, h3, h⟩ := ob h
  refine call_v (wc := (gE t (bk 2) eb ex ++ (gS t (bk 0) nb now))) (wc' := (gE t (bk 2) eb r3 ++ (gS t (bk 0) nb now))) (ws' := (gBo bh bk bo ++ (gS t (bk 0) nb now ++ (gE t (bk 2) eb r3)))) (cutB (bs := [gBo bh bk bo, gS t (bk 0) nb now, gE t (bk 2) eb ex]) (cs := [gE t (bk 2) eb ex, gS t (bk 0) nb now]) (cs' := [gE t (bk 2) eb r3, gS t (bk 0) nb now]) (bs' := [gBo bh bk bo, gS t (bk 0) nb now, gE t (bk 2) eb r3]) [2, 1] hP hD hS hA rfl rfl rfl rfl) hS (fun hPc hDc => va_runV (As := [.ref (bk 0), .int v]) (rest := []) ⟨hx, hb, hml, hown, hts⟩ (mtX0_expose l D t (bk 2) eb ex (bk 0) nb now v r3 h3 _) (cwV 2 hts (gBV kw100 kw101 kw102 kw16 kw103) rfl rfl rfl (by decide +kernel) ⟨Nat.le_of_ble_eq_true rfl, Nat.le_of_ble_eq_true rfl⟩) (sPc_V hPc hK hDc hE (va_recv hK hP (ci := 0) (q0 := 9) rfl rfl)) rfl rfl hl.1 rfl (lv_room (Nat.le_of_ble_eq_true rfl)) dX2_speed_20 ⟨Nat.zero_le _, Nat.zero_le _⟩) (fun H locs hP hD hS => ?_)
  refine lv_iload_n hx hb dX2_speed_23 rfl (lv_at hl 2 rfl) ?_
  by_cases c4 : w = 0
  · have h := it_p c4 h
    refine lv_tableIn (off := 48) (tgt := 72) hx hb dX2_speed_24 (by rw [c4]; decide) (by rw [c4]; decide) (by rw [c4]; rfl) (by decide) ?_
    refine lv_iload_n hx hb dX2_speed_72 rfl (lv_at hl 1 rfl) ?_
    obtain ⟨r5, h5, h⟩ := ob h
    refine call_i (v := r5) (wc := ([] : va_W)) (wc' := ([] : va_W)) (ws' := (gBo bh bk bo ++ (gS t (bk 0) nb now ++ (gE t (bk 2) eb r3)))) (cutB (bs := [gBo bh bk bo, gS t (bk 0) nb now, gE t (bk 2) eb r3]) (cs := []) (cs' := []) (bs' := [gBo bh bk bo, gS t (bk 0) nb now, gE t (bk 2) eb r3]) [] hP hD hS hA rfl rfl rfl rfl) hS (fun hPc hDc => va_runS (As := [.int v]) (rest := []) ⟨hx, hb, hml, hown, hts⟩ (mtX2_wantedLight l D t v r5 h5 _) (va_cwS 1 hts (gBS kw192 kw122 kw2 kw123) rfl rfl rfl (by decide +kernel) ⟨Nat.le_of_ble_eq_true rfl, Nat.le_of_ble_eq_true rfl⟩) (sPc_S hPc hK hDc hE) rfl rfl hl.1 rfl (lv_room (Nat.le_of_ble_eq_true rfl)) dX2_speed_73 ⟨Nat.zero_le _, Nat.zero_le _⟩) (fun H locs hP hD hS => ?_)
    obtain rfl := oi h
    exact ret_i hx hb hr hlocks hP hK hD hS dX2_speed_76
  · have h := it_n c4 h
    by_cases c6 : w = 1
    · have h := it_p c6 h
      refine lv_tableIn (off := 53) (tgt := 77) hx hb dX2_speed_24 (by rw [c6]; decide) (by rw [c6]; decide) (by rw [c6]; rfl) (by decide) ?_
      refine lv_aload_n hx hb dX2_speed_77 rfl (lv_at hl 0 rfl) ?_
      refine va_get (D := D) (ci := 2) (v := .ref (bk 0)) (C := RX2) (T := TX2) (N := 8) hx hb htB inlX2 hown hK hP 0 rfl rfl 0 (by decide) (htB _ kw12) (fun _ h9 => h9) rfl dX2_speed_78 ?_
      refine va_get (D := D) (ci := 1) (v := .ref (nb 4)) (C := RX1) (T := TX1) (N := 10) hx hb htB inlX1 hown hK hP 1 rfl rfl 4 (by decide) (htB _ kw187) (fun _ h9 => h9) rfl dX2_speed_81 ?_
      refine lv_iload_n hx hb dX2_speed_84 rfl (lv_at hl 1 rfl) ?_
      obtain ⟨r7, h7, h⟩ := ob h
      refine call_i (v := r7) (wc := (gA t (nb 4) 6 now.2.2.2.2.1)) (wc' := (gA t (nb 4) 6 now.2.2.2.2.1)) (ws' := (gBo bh bk bo ++ (gS t (bk 0) nb now ++ (gE t (bk 2) eb r3)))) (cutI (wc := (gA t (nb 4) 6 now.2.2.2.2.1)) (wc' := (gA t (nb 4) 6 now.2.2.2.2.1)) (ws' := (gBo bh bk bo ++ (gS t (bk 0) nb now ++ (gE t (bk 2) eb r3)))) [6] hP hD hS hA rfl rfl rfl rfl) hS (fun hPc hDc => va_runS (As := [.ref (nb 4), .int v]) (rest := []) ⟨hx, hb, hml, hown, hts⟩ (mtX2_at l D t (nb 4) 6 now.2.2.2.2.1 v r7 h7 (by decide) _) (va_cwS 2 hts (gBS kw157 kw65 kw2 kw66) rfl rfl rfl (by decide +kernel) ⟨Nat.le_of_ble_eq_true rfl, Nat.le_of_ble_eq_true rfl⟩) (sPc_S hPc hK hDc hE) rfl rfl hl.1 rfl (lv_room (Nat.le_of_ble_eq_true rfl)) dX2_speed_85 ⟨Nat.zero_le _, Nat.zero_le _⟩) (fun H locs hP hD hS => ?_)
      refine lv_bipush (v := 100) hx hb dX2_speed_88 (by decide) ?_
      refine lv_iadd hx hb dX2_speed_90 ?_
      obtain rfl := oi h
      exact ret_i hx hb hr hlocks hP hK hD hS dX2_speed_91
    · have h := it_n c6 h
      by_cases c8 : w = 2
      · have h := it_p c8 h
        refine lv_tableIn (off := 68) (tgt := 92) hx hb dX2_speed_24 (by rw [c8]; decide) (by rw [c8]; decide) (by rw [c8]; rfl) (by decide) ?_
        refine lv_aload_n hx hb dX2_speed_92 rfl (lv_at hl 0 rfl) ?_
        refine va_get (D := D) (ci := 2) (v := .ref (bk 0)) (C := RX2) (T := TX2) (N := 8) hx hb htB inlX2 hown hK hP 0 rfl rfl 0 (by decide) (htB _ kw12) (fun _ h9 => h9) rfl dX2_speed_93 ?_
        refine lv_iload_n hx hb dX2_speed_96 rfl (lv_at hl 1 rfl) ?_
        obtain ⟨r9, h9, h⟩ := ob h
        refine call_i (v := r9) (wc := (gS t (bk 0) nb now)) (wc' := (gS t (bk 0) nb now)) (ws' := (gBo bh bk bo ++ (gS t (bk 0) nb now ++ (gE t (bk 2) eb r3)))) (cutB (bs := [gBo bh bk bo, gS t (bk 0) nb now, gE t (bk 2) eb r3]) (cs := [gS t (bk 0) nb now]) (cs' := [gS t (bk 0) nb now]) (bs' := [gBo bh bk bo, gS t (bk 0) nb now, gE t (bk 2) eb r3]) [1] hP hD hS hA rfl rfl rfl rfl) hS (fun hPc hDc => va_runV (As := [.int v]) (rest := []) ⟨hx, hb, hml, hown, hts⟩ (mtX1_startOfSecond l D t (bk 0) nb now v r9 h9 _) (cwV 1 hts (gBV kw193 kw118 kw119 kw11 kw120) rfl rfl rfl (by decide +kernel) ⟨Nat.le_of_ble_eq_true rfl, Nat.le_of_ble_eq_true rfl⟩) (sPc_V hPc hK hDc hE (va_recv hK hP (ci := 1) (q0 := 1) rfl rfl)) rfl rfl hl.1 rfl (lv_room (Nat.le_of_ble_eq_true rfl)) dX2_speed_97 ⟨Nat.zero_le _, Nat.zero_le _⟩) (fun H locs hP hD hS => ?_)
        obtain rfl := oi h
        exact ret_i hx hb hr hlocks hP hK hD hS dX2_speed_100
      · have h := it_n c8 h
        by_cases c10 : w = 3
        · have h := it_p c10 h
          refine lv_tableIn (off := 77) (tgt := 101) hx hb dX2_speed_24 (by rw [c10]; decide) (by rw [c10]; decide) (by rw [c10]; rfl) (by decide) ?_
          refine lv_aload_n hx hb dX2_speed_101 rfl (lv_at hl 0 rfl) ?_
          refine va_get (D := D) (ci := 2) (v := .ref (bk 2)) (C := RX2) (T := TX2) (N := 8) hx hb htB inlX2 hown hK hP 0 rfl rfl 2 (by decide) (htB _ kw17) (fun _ h9 => h9) rfl dX2_speed_102 ?_
          refine va_get (D := D) (ci := 0) (v := .int r3.2.2.2.1) (C := RX0) (T := TX0) (N := 10) hx hb htB inlX0 hown hK hP 9 rfl rfl 3 (by decide) (htB _ kw188) (fun _ h9 => h9) rfl dX2_speed_105 ?_
          obtain rfl := oi h
          exact ret_i hx hb hr hlocks hP hK hD hS dX2_speed_108
        · have h := it_n c10 h
          by_cases c11 : w = 4
          · have h := it_p c11 h
            refine lv_tableIn (off := 85) (tgt := 109) hx hb dX2_speed_24 (by rw [c11]; decide) (by rw [c11]; decide) (by rw [c11]; rfl) (by decide) ?_
            refine lv_aload_n hx hb dX2_speed_109 rfl (lv_at hl 0 rfl) ?_
            refine va_get (D := D) (ci := 2) (v := .ref (bk 2)) (C := RX2) (T := TX2) (N := 8) hx hb htB inlX2 hown hK hP 0 rfl rfl 2 (by decide) (htB _ kw17) (fun _ h9 => h9) rfl dX2_speed_110 ?_
            obtain ⟨r12, h12, h⟩ := ob h
            refine call_i (v := r12) (wc := (gE t (bk 2) eb r3)) (wc' := (gE t (bk 2) eb r3)) (ws' := (gBo bh bk bo ++ (gS t (bk 0) nb now ++ (gE t (bk 2) eb r3)))) (cutB (bs := [gBo bh bk bo, gS t (bk 0) nb now, gE t (bk 2) eb r3]) (cs := [gE t (bk 2) eb r3]) (cs' := [gE t (bk 2) eb r3]) (bs' := [gBo bh bk bo, gS t (bk 0) nb now, gE t (bk 2) eb r3]) [2] hP hD hS hA rfl rfl rfl rfl) hS (fun hPc hDc => va_runV (As := []) (rest := []) ⟨hx, hb, hml, hown, hts⟩ (mtX0_spread l D t (bk 2) eb r3 r12 h12 _) (cwV 0 hts (gBV kw156 kw153 kw154 kw16 kw155) rfl rfl rfl (by decide +kernel) ⟨Nat.le_of_ble_eq_true rfl, Nat.le_of_ble_eq_true rfl⟩) (sPc_V hPc hK hDc hE (va_recv hK hP (ci := 0) (q0 := 9) rfl rfl)) rfl rfl hl.1 rfl (lv_room (Nat.le_of_ble_eq_true rfl)) dX2_speed_113 ⟨Nat.zero_le _, Nat.zero_le _⟩) (fun H locs hP hD hS => ?_)
            obtain rfl := oi h
            exact ret_i hx hb hr hlocks hP hK hD hS dX2_speed_116
          · have h := it_n c11 h
            by_cases c13 : w = 5
            · have h := it_p c13 h
              refine lv_tableIn (off := 93) (tgt := 117) hx hb dX2_speed_24 (by rw [c13]; decide) (by rw [c13]; decide) (by rw [c13]; rfl) (by decide) ?_
              refine lv_aload_n hx hb dX2_speed_117 rfl (lv_at hl 0 rfl) ?_
              refine va_get (D := D) (ci := 2) (v := .ref (bk 2)) (C := RX2) (T := TX2) (N := 8) hx hb htB inlX2 hown hK hP 0 rfl rfl 2 (by decide) (htB _ kw17) (fun _ h9 => h9) rfl dX2_speed_118 ?_
              refine va_get (D := D) (ci := 0) (v := .int r3.2.2.2.2.2.2.2.1) (C := RX0) (T := TX0) (N := 10) hx hb htB inlX0 hown hK hP 9 rfl rfl 7 (by decide) (htB _ kw81) (fun _ h9 => h9) rfl dX2_speed_121 ?_
              obtain rfl := oi h
              exact ret_i hx hb hr hlocks hP hK hD hS dX2_speed_124
            · have h := it_n c13 h
              by_cases c14 : w = 6
              · have h := it_p c14 h
                refine lv_tableIn (off := 101) (tgt := 125) hx hb dX2_speed_24 (by rw [c14]; decide) (by rw [c14]; decide) (by rw [c14]; rfl) (by decide) ?_
                refine lv_aload_n hx hb dX2_speed_125 rfl (lv_at hl 0 rfl) ?_
                refine va_get (D := D) (ci := 2) (v := .ref (bk 2)) (C := RX2) (T := TX2) (N := 8) hx hb htB inlX2 hown hK hP 0 rfl rfl 2 (by decide) (htB _ kw17) (fun _ h9 => h9) rfl dX2_speed_126 ?_
                refine va_get (D := D) (ci := 0) (v := .int r3.2.2.2.2.2.2.2.2.1) (C := RX0) (T := TX0) (N := 10) hx hb htB inlX0 hown hK hP 9 rfl rfl 8 (by decide) (htB _ kw189) (fun _ h9 => h9) rfl dX2_speed_129 ?_
                obtain rfl := oi h
                exact ret_i hx hb hr hlocks hP hK hD hS dX2_speed_132
              · have h := it_n c14 h
                by_cases c15 : w = 7
                · have h := it_p c15 h
                  refine lv_tableIn (off := 109) (tgt := 133) hx hb dX2_speed_24 (by rw [c15]; decide) (by rw [c15]; decide) (by rw [c15]; rfl) (by decide) ?_
                  refine lv_aload_n hx hb dX2_speed_133 rfl (lv_at hl 0 rfl) ?_
                  refine va_get (D := D) (ci := 2) (v := .ref (bk 2)) (C := RX2) (T := TX2) (N := 8) hx hb htB inlX2 hown hK hP 0 rfl rfl 2 (by decide) (htB _ kw17) (fun _ h9 => h9) rfl dX2_speed_134 ?_
                  refine va_get (D := D) (ci := 0) (v := .int r3.2.2.2.2.2.2.2.2.2) (C := RX0) (T := TX0) (N := 10) hx hb htB inlX0 hown hK hP 9 rfl rfl 9 (by decide) (htB _ kw190) (fun _ h9 => h9) rfl dX2_speed_137 ?_
                  obtain rfl := oi h
                  exact ret_i hx hb hr hlocks hP hK hD hS dX2_speed_140
                · have h := it_n c15 h
                  refine lv_tableOut (tgt := 141) hx hb dX2_speed_24 (tab_0_7 c4 c6 c8 c10 c11 c13 c14 c15) (by decide) ?_
                  refine lv_aload_n hx hb dX2_speed_141 rfl (lv_at hl 0 rfl) ?_
                  refine va_get (D := D) (ci := 2) (v := .ref (bk 0)) (C := RX2) (T := TX2) (N := 8) hx hb htB inlX2 hown hK hP 0 rfl rfl 0 (by decide) (htB _ kw12) (fun _ h9 => h9) rfl dX2_speed_142 ?_
                  refine va_get (D := D) (ci := 1) (v := .ref (nb 6)) (C := RX1) (T := TX1) (N := 10) hx hb htB inlX1 hown hK hP 1 rfl rfl 6 (by decide) (htB _ kw191) (fun _ h9 => h9) rfl dX2_speed_145 ?_
                  refine lv_iload_n hx hb dX2_speed_148 rfl (lv_at hl 1 rfl) ?_
                  obtain ⟨r16, h16, h⟩ := ob h
                  refine call_i (v := r16) (wc := (gA t (nb 6) 6 now.2.2.2.2.2.2.1)) (wc' := (gA t (nb 6) 6 now.2.2.2.2.2.2.1)) (ws' := (gBo bh bk bo ++ (gS t (bk 0) nb now ++ (gE t (bk 2) eb r3)))) (cutI (wc := (gA t (nb 6) 6 now.2.2.2.2.2.2.1)) (wc' := (gA t (nb 6) 6 now.2.2.2.2.2.2.1)) (ws' := (gBo bh bk bo ++ (gS t (bk 0) nb now ++ (gE t (bk 2) eb r3)))) [8] hP hD hS hA rfl rfl rfl rfl) hS (fun hPc hDc => va_runS (As := [.ref (nb 6), .int v]) (rest := []) ⟨hx, hb, hml, hown, hts⟩ (mtX2_at l D t (nb 6) 6 now.2.2.2.2.2.2.1 v r16 h16 (by decide) _) (va_cwS 2 hts (gBS kw157 kw65 kw2 kw66) rfl rfl rfl (by decide +kernel) ⟨Nat.le_of_ble_eq_true rfl, Nat.le_of_ble_eq_true rfl⟩) (sPc_S hPc hK hDc hE) rfl rfl hl.1 rfl (lv_room (Nat.le_of_ble_eq_true rfl)) dX2_speed_149 ⟨Nat.zero_le _, Nat.zero_le _⟩) (fun H locs hP hD hS => ?_)
                  obtain rfl := oi h
                  exact ret_i hx hb hr hlocks hP hK hD hS dX2_speed_152

theorem dX2_count_0 : decode cX2_count 0 = .ok (.iload_n 1, 1) := by decide +kernel
theorem dX2_count_1 : decode cX2_count 1 = .ok (.iconst 0, 1) := by decide +kernel
theorem dX2_count_2 : decode cX2_count 2 = .ok (.iconst 4, 1) := by decide +kernel
theorem dX2_count_3 : decode cX2_count 3 = .ok (.invokestatic 48, 3) := by decide +kernel
theorem dX2_count_6 : decode cX2_count 6 = .ok (.iload_n 1, 1) := by decide +kernel
theorem dX2_count_7 : decode cX2_count 7 = .ok (.tableswitch 61 0 3 #[29, 37, 45, 53], 29) := by decide +kernel
theorem dX2_count_36 : decode cX2_count 36 = .ok (.aload_n 0, 1) := by decide +kernel
theorem dX2_count_37 : decode cX2_count 37 = .ok (.getfield 10, 3) := by decide +kernel
theorem dX2_count_40 : decode cX2_count 40 = .ok (.getfield 182, 3) := by decide +kernel
theorem dX2_count_43 : decode cX2_count 43 = .ok (.ireturn, 1) := by decide +kernel
theorem dX2_count_44 : decode cX2_count 44 = .ok (.aload_n 0, 1) := by decide +kernel
theorem dX2_count_45 : decode cX2_count 45 = .ok (.getfield 10, 3) := by decide +kernel
theorem dX2_count_48 : decode cX2_count 48 = .ok (.getfield 185, 3) := by decide +kernel
theorem dX2_count_51 : decode cX2_count 51 = .ok (.ireturn, 1) := by decide +kernel
theorem dX2_count_52 : decode cX2_count 52 = .ok (.aload_n 0, 1) := by decide +kernel
theorem dX2_count_53 : decode cX2_count 53 = .ok (.getfield 10, 3) := by decide +kernel
theorem dX2_count_56 : decode cX2_count 56 = .ok (.invokevirtual 188, 3) := by decide +kernel
theorem dX2_count_59 : decode cX2_count 59 = .ok (.ireturn, 1) := by decide +kernel
theorem dX2_count_60 : decode cX2_count 60 = .ok (.aload_n 0, 1) := by decide +kernel
theorem dX2_count_61 : decode cX2_count 61 = .ok (.getfield 10, 3) := by decide +kernel
theorem dX2_count_64 : decode cX2_count 64 = .ok (.getfield 191, 3) := by decide +kernel
theorem dX2_count_67 : decode cX2_count 67 = .ok (.ireturn, 1) := by decide +kernel
theorem dX2_count_68 : decode cX2_count 68 = .ok (.aload_n 0, 1) := by decide +kernel
theorem dX2_count_69 : decode cX2_count 69 = .ok (.getfield 30, 3) := by decide +kernel
theorem dX2_count_72 : decode cX2_count 72 = .ok (.ireturn, 1) := by decide +kernel
abbrev zX2_count : List Cond := .code yX2_count cX2_count 2 (some .int) :: BIG
def fX2_count (bo : BoT) (now : ShT) (w : Int32) : Option (Nat ⊕ (Int32)) := tb (fX2_needRange w 0 4) (fun r1 => (if w = 0 then some (.inr now.2.2.2.2.2.2.2.1) else (if w = 1 then some (.inr now.2.2.2.2.2.2.2.2.1) else (if w = 2 then (fX1_bounceColumns now).bind (fun r5 => some (.inr r5)) else (if w = 3 then some (.inr now.2.2.2.2.2.2.2.2.2) else some (.inr bo.1))))))
set_option maxHeartbeats 4000000 in
set_option maxRecDepth 100000 in
theorem mtX2_count (l : Launch) (D : va_G) (t : Nat → ClassId) (bh : Nat) (bk : Nat → Nat) (bo : BoT) (nb : Nat → Nat) (now : ShT) (w : Int32) (out : Int32) (h : fX2_count bo now w = some (.inr out))  (sz : Nat) : Met l yX2_count zX2_count ({ frames := 2, cells := 0, slots := 0, locals := 42 }) (sPc D t (gBo bh bk bo ++ (gS t (bk 0) nb now)) sz [.ref bh, .int w]) (qI D t (gBo bh bk bo ++ (gS t (bk 0) nb now)) out (va_A (gBo bh bk bo ++ (gS t (bk 0) nb now)) sz)) 0 0 (va_A (gBo bh bk bo ++ (gS t (bk 0) nb now)) sz) := by
  refine met_of (Qf := fun A => qI D t (gBo bh bk bo ++ (gS t (bk 0) nb now)) out A) (cc := cX2_count) (maxL := 2) (ret := some .int) (by decide) rfl (Nat.le_of_ble_eq_true rfl) ?_
  intro p e s m args below meth c A hx hb hr hml hts hown hlocks hA hP hK hD hE hS ls hl
  have htB : ∀ w ∈ BIG, w.before args s = true := fun w h => hts w (List.mem_cons_of_mem _ h)
  have hown : s.vm.findClass RX2 = some m.cls := hown
  have hl : lv_has ls 2 [(0, .ref bh), (1, .int w)] := hl
  unfold fX2_count at h
  refine lv_iload_n hx hb dX2_count_0 rfl (lv_at hl 1 rfl) ?_
  refine lv_iconst (v := 0) hx hb dX2_count_1 (by decide) ?_
  refine lv_iconst (v := 4) hx hb dX2_count_2 (by decide) ?_
  obtain ⟨r1, h1, h⟩ := tb_r h
  refine call_v (wc := ([] : va_W)) (wc' := ([] : va_W)) (ws' := (gBo bh bk bo ++ (gS t (bk 0) nb now))) (cutB (bs := [gBo bh bk bo, gS t (bk 0) nb now]) (cs := []) (cs' := []) (bs' := [gBo bh bk bo, gS t (bk 0) nb now]) [] hP hD hS hA rfl rfl rfl rfl) hS (fun hPc hDc => va_runS (As := [.int w, .int 0, .int 4]) (rest := []) ⟨hx, hb, hml, hown, hts⟩ (mtX2_needRange l D t w 0 4 r1 h1 _) (va_cwS 3 hts (gBS kw52 kw53 kw2 kw54) rfl rfl rfl (by decide +kernel) ⟨Nat.le_of_ble_eq_true rfl, Nat.le_of_ble_eq_true rfl⟩) (sPc_S hPc hK hDc hE) rfl rfl hl.1 rfl (lv_room (Nat.le_of_ble_eq_true rfl)) dX2_count_3 ⟨Nat.zero_le _, Nat.zero_le _⟩) (fun H locs hP hD hS => ?_)
  refine lv_iload_n hx hb dX2_count_6 rfl (lv_at hl 1 rfl) ?_
  by_cases c2 : w = 0
  · have h := it_p c2 h
    refine lv_tableIn (off := 29) (tgt := 36) hx hb dX2_count_7 (by rw [c2]; decide) (by rw [c2]; decide) (by rw [c2]; rfl) (by decide) ?_
    refine lv_aload_n hx hb dX2_count_36 rfl (lv_at hl 0 rfl) ?_
    refine va_get (D := D) (ci := 2) (v := .ref (bk 0)) (C := RX2) (T := TX2) (N := 8) hx hb htB inlX2 hown hK hP 0 rfl rfl 0 (by decide) (htB _ kw12) (fun _ h9 => h9) rfl dX2_count_37 ?_
    refine va_get (D := D) (ci := 1) (v := .int now.2.2.2.2.2.2.2.1) (C := RX1) (T := TX1) (N := 10) hx hb htB inlX1 hown hK hP 1 rfl rfl 7 (by decide) (htB _ kw49) (fun _ h9 => h9) rfl dX2_count_40 ?_
    obtain rfl := oi h
    exact ret_i hx hb hr hlocks hP hK hD hS dX2_count_43
  · have h := it_n c2 h
    by_cases c3 : w = 1
    · have h := it_p c3 h
      refine lv_tableIn (off := 37) (tgt := 44) hx hb dX2_count_7 (by rw [c3]; decide) (by rw [c3]; decide) (by rw [c3]; rfl) (by decide) ?_
      refine lv_aload_n hx hb dX2_count_44 rfl (lv_at hl 0 rfl) ?_
      refine va_get (D := D) (ci := 2) (v := .ref (bk 0)) (C := RX2) (T := TX2) (N := 8) hx hb htB inlX2 hown hK hP 0 rfl rfl 0 (by decide) (htB _ kw12) (fun _ h9 => h9) rfl dX2_count_45 ?_
      refine va_get (D := D) (ci := 1) (v := .int now.2.2.2.2.2.2.2.2.1) (C := RX1) (T := TX1) (N := 10) hx hb htB inlX1 hown hK hP 1 rfl rfl 8 (by decide) (htB _ kw50) (fun _ h9 => h9) rfl dX2_count_48 ?_
      obtain rfl := oi h
      exact ret_i hx hb hr hlocks hP hK hD hS dX2_count_51
    · have h := it_n c3 h
      by_cases c4 : w = 2
      · have h := it_p c4 h
        refine lv_tableIn (off := 45) (tgt := 52) hx hb dX2_count_7 (by rw [c4]; decide) (by rw [c4]; decide) (by rw [c4]; rfl) (by decide) ?_
        refine lv_aload_n hx hb dX2_count_52 rfl (lv_at hl 0 rfl) ?_
        refine va_get (D := D) (ci := 2) (v := .ref (bk 0)) (C := RX2) (T := TX2) (N := 8) hx hb htB inlX2 hown hK hP 0 rfl rfl 0 (by decide) (htB _ kw12) (fun _ h9 => h9) rfl dX2_count_53 ?_
        obtain ⟨r5, h5, h⟩ := ob h
        refine call_i (v := r5) (wc := (gS t (bk 0) nb now)) (wc' := (gS t (bk 0) nb now)) (ws' := (gBo bh bk bo ++ (gS t (bk 0) nb now))) (cutB (bs := [gBo bh bk bo, gS t (bk 0) nb now]) (cs := [gS t (bk 0) nb now]) (cs' := [gS t (bk 0) nb now]) (bs' := [gBo bh bk bo, gS t (bk 0) nb now]) [1] hP hD hS hA rfl rfl rfl rfl) hS (fun hPc hDc => va_runV (As := []) (rest := []) ⟨hx, hb, hml, hown, hts⟩ (mtX1_bounceColumns l D t (bk 0) nb now r5 h5 _) (cwV 0 hts (gBV kw57 kw58 kw59 kw11 kw60) rfl rfl rfl (by decide +kernel) ⟨Nat.le_of_ble_eq_true rfl, Nat.le_of_ble_eq_true rfl⟩) (sPc_V hPc hK hDc hE (va_recv hK hP (ci := 1) (q0 := 1) rfl rfl)) rfl rfl hl.1 rfl (lv_room (Nat.le_of_ble_eq_true rfl)) dX2_count_56 ⟨Nat.zero_le _, Nat.zero_le _⟩) (fun H locs hP hD hS => ?_)
        obtain rfl := oi h
        exact ret_i hx hb hr hlocks hP hK hD hS dX2_count_59
      · have h := it_n c4 h
        by_cases c6 : w = 3
        · have h := it_p c6 h
          refine lv_tableIn (off := 53) (tgt := 60) hx hb dX2_count_7 (by rw [c6]; decide) (by rw [c6]; decide) (by rw [c6]; rfl) (by decide) ?_
          refine lv_aload_n hx hb dX2_count_60 rfl (lv_at hl 0 rfl) ?_
          refine va_get (D := D) (ci := 2) (v := .ref (bk 0)) (C := RX2) (T := TX2) (N := 8) hx hb htB inlX2 hown hK hP 0 rfl rfl 0 (by decide) (htB _ kw12) (fun _ h9 => h9) rfl dX2_count_61 ?_
          refine va_get (D := D) (ci := 1) (v := .int now.2.2.2.2.2.2.2.2.2) (C := RX1) (T := TX1) (N := 10) hx hb htB inlX1 hown hK hP 1 rfl rfl 9 (by decide) (htB _ kw51) (fun _ h9 => h9) rfl dX2_count_64 ?_
          obtain rfl := oi h
          exact ret_i hx hb hr hlocks hP hK hD hS dX2_count_67
        · have h := it_n c6 h
          refine lv_tableOut (tgt := 68) hx hb dX2_count_7 (tab_0_3 c2 c3 c4 c6) (by decide) ?_
          refine lv_aload_n hx hb dX2_count_68 rfl (lv_at hl 0 rfl) ?_
          refine va_get (D := D) (ci := 2) (v := .int bo.1) (C := RX2) (T := TX2) (N := 8) hx hb htB inlX2 hown hK hP 0 rfl rfl 4 (by decide) (htB _ kw19) (fun _ h9 => h9) rfl dX2_count_69 ?_
          obtain rfl := oi h
          exact ret_i hx hb hr hlocks hP hK hD hS dX2_count_72

theorem dX2_setting_0 : decode cX2_setting 0 = .ok (.iload_n 1, 1) := by decide +kernel
theorem dX2_setting_1 : decode cX2_setting 1 = .ok (.invokestatic 79, 3) := by decide +kernel
theorem dX2_setting_4 : decode cX2_setting 4 = .ok (.aload_n 0, 1) := by decide +kernel
theorem dX2_setting_5 : decode cX2_setting 5 = .ok (.getfield 10, 3) := by decide +kernel
theorem dX2_setting_8 : decode cX2_setting 8 = .ok (.getfield 89, 3) := by decide +kernel
theorem dX2_setting_11 : decode cX2_setting 11 = .ok (.iload_n 1, 1) := by decide +kernel
theorem dX2_setting_12 : decode cX2_setting 12 = .ok (.invokestatic 58, 3) := by decide +kernel
theorem dX2_setting_15 : decode cX2_setting 15 = .ok (.ireturn, 1) := by decide +kernel
abbrev zX2_setting : List Cond := .code yX2_setting cX2_setting 2 (some .int) :: BIG
def fX2_setting (bo : BoT) (now : ShT) (w : Int32) : Option (Nat ⊕ (Int32)) := tb (fX2_needSetting w) (fun r1 => (fX2_at 4 now.2.2.2.2.2.1 w).bind (fun r2 => some (.inr r2)))
set_option maxHeartbeats 4000000 in
set_option maxRecDepth 100000 in
theorem mtX2_setting (l : Launch) (D : va_G) (t : Nat → ClassId) (bh : Nat) (bk : Nat → Nat) (bo : BoT) (nb : Nat → Nat) (now : ShT) (w : Int32) (out : Int32) (h : fX2_setting bo now w = some (.inr out))  (sz : Nat) : Met l yX2_setting zX2_setting ({ frames := 2, cells := 0, slots := 0, locals := 41 }) (sPc D t (gBo bh bk bo ++ (gS t (bk 0) nb now)) sz [.ref bh, .int w]) (qI D t (gBo bh bk bo ++ (gS t (bk 0) nb now)) out (va_A (gBo bh bk bo ++ (gS t (bk 0) nb now)) sz)) 0 0 (va_A (gBo bh bk bo ++ (gS t (bk 0) nb now)) sz) := by
  refine met_of (Qf := fun A => qI D t (gBo bh bk bo ++ (gS t (bk 0) nb now)) out A) (cc := cX2_setting) (maxL := 2) (ret := some .int) (by decide) rfl (Nat.le_of_ble_eq_true rfl) ?_
  intro p e s m args below meth c A hx hb hr hml hts hown hlocks hA hP hK hD hE hS ls hl
  have htB : ∀ w ∈ BIG, w.before args s = true := fun w h => hts w (List.mem_cons_of_mem _ h)
  have hown : s.vm.findClass RX2 = some m.cls := hown
  have hl : lv_has ls 2 [(0, .ref bh), (1, .int w)] := hl
  unfold fX2_setting at h
  refine lv_iload_n hx hb dX2_setting_0 rfl (lv_at hl 1 rfl) ?_
  obtain ⟨r1, h1, h⟩ := tb_r h
  refine call_v (wc := ([] : va_W)) (wc' := ([] : va_W)) (ws' := (gBo bh bk bo ++ (gS t (bk 0) nb now))) (cutB (bs := [gBo bh bk bo, gS t (bk 0) nb now]) (cs := []) (cs' := []) (bs' := [gBo bh bk bo, gS t (bk 0) nb now]) [] hP hD hS hA rfl rfl rfl rfl) hS (fun hPc hDc => va_runS (As := [.int w]) (rest := []) ⟨hx, hb, hml, hown, hts⟩ (mtX2_needSetting l D t w r1 h1 _) (va_cwS 1 hts (gBS kw229 kw230 kw2 kw231) rfl rfl rfl (by decide +kernel) ⟨Nat.le_of_ble_eq_true rfl, Nat.le_of_ble_eq_true rfl⟩) (sPc_S hPc hK hDc hE) rfl rfl hl.1 rfl (lv_room (Nat.le_of_ble_eq_true rfl)) dX2_setting_1 ⟨Nat.zero_le _, Nat.zero_le _⟩) (fun H locs hP hD hS => ?_)
  refine lv_aload_n hx hb dX2_setting_4 rfl (lv_at hl 0 rfl) ?_
  refine va_get (D := D) (ci := 2) (v := .ref (bk 0)) (C := RX2) (T := TX2) (N := 8) hx hb htB inlX2 hown hK hP 0 rfl rfl 0 (by decide) (htB _ kw12) (fun _ h9 => h9) rfl dX2_setting_5 ?_
  refine va_get (D := D) (ci := 1) (v := .ref (nb 5)) (C := RX1) (T := TX1) (N := 10) hx hb htB inlX1 hown hK hP 1 rfl rfl 5 (by decide) (htB _ kw228) (fun _ h9 => h9) rfl dX2_setting_8 ?_
  refine lv_iload_n hx hb dX2_setting_11 rfl (lv_at hl 1 rfl) ?_
  obtain ⟨r2, h2, h⟩ := ob h
  refine call_i (v := r2) (wc := (gA t (nb 5) 4 now.2.2.2.2.2.1)) (wc' := (gA t (nb 5) 4 now.2.2.2.2.2.1)) (ws' := (gBo bh bk bo ++ (gS t (bk 0) nb now))) (cutI (wc := (gA t (nb 5) 4 now.2.2.2.2.2.1)) (wc' := (gA t (nb 5) 4 now.2.2.2.2.2.1)) (ws' := (gBo bh bk bo ++ (gS t (bk 0) nb now))) [7] hP hD hS hA rfl rfl rfl rfl) hS (fun hPc hDc => va_runS (As := [.ref (nb 5), .int w]) (rest := []) ⟨hx, hb, hml, hown, hts⟩ (mtX2_at l D t (nb 5) 4 now.2.2.2.2.2.1 w r2 h2 (by decide) _) (va_cwS 2 hts (gBS kw157 kw65 kw2 kw66) rfl rfl rfl (by decide +kernel) ⟨Nat.le_of_ble_eq_true rfl, Nat.le_of_ble_eq_true rfl⟩) (sPc_S hPc hK hDc hE) rfl rfl hl.1 rfl (lv_room (Nat.le_of_ble_eq_true rfl)) dX2_setting_12 ⟨Nat.zero_le _, Nat.zero_le _⟩) (fun H locs hP hD hS => ?_)
  obtain rfl := oi h
  exact ret_i hx hb hr hlocks hP hK hD hS dX2_setting_15

theorem dX2_ifShot_0 : decode cX2_ifShot 0 = .ok (.iload_n 1, 1) := by decide +kernel
theorem dX2_ifShot_1 : decode cX2_ifShot 1 = .ok (.invokestatic 73, 3) := by decide +kernel
theorem dX2_ifShot_4 : decode cX2_ifShot 4 = .ok (.iload_n 2, 1) := by decide +kernel
theorem dX2_ifShot_5 : decode cX2_ifShot 5 = .ok (.iconst 1, 1) := by decide +kernel
theorem dX2_ifShot_6 : decode cX2_ifShot 6 = .ok (.bipush 50, 2) := by decide +kernel
theorem dX2_ifShot_8 : decode cX2_ifShot 8 = .ok (.invokestatic 48, 3) := by decide +kernel
theorem dX2_ifShot_11 : decode cX2_ifShot 11 = .ok (.iload_n 3, 1) := by decide +kernel
theorem dX2_ifShot_12 : decode cX2_ifShot 12 = .ok (.iconst 0, 1) := by decide +kernel
theorem dX2_ifShot_13 : decode cX2_ifShot 13 = .ok (.iconst 2, 1) := by decide +kernel
theorem dX2_ifShot_14 : decode cX2_ifShot 14 = .ok (.invokestatic 48, 3) := by decide +kernel
theorem dX2_ifShot_17 : decode cX2_ifShot 17 = .ok (.aload_n 0, 1) := by decide +kernel
theorem dX2_ifShot_18 : decode cX2_ifShot 18 = .ok (.getfield 16, 3) := by decide +kernel
theorem dX2_ifShot_21 : decode cX2_ifShot 21 = .ok (.aload_n 0, 1) := by decide +kernel
theorem dX2_ifShot_22 : decode cX2_ifShot 22 = .ok (.getfield 10, 3) := by decide +kernel
theorem dX2_ifShot_25 : decode cX2_ifShot 25 = .ok (.invokevirtual 129, 3) := by decide +kernel
theorem dX2_ifShot_28 : decode cX2_ifShot 28 = .ok (.aload_n 0, 1) := by decide +kernel
theorem dX2_ifShot_29 : decode cX2_ifShot 29 = .ok (.aload_n 0, 1) := by decide +kernel
theorem dX2_ifShot_30 : decode cX2_ifShot 30 = .ok (.getfield 16, 3) := by decide +kernel
theorem dX2_ifShot_33 : decode cX2_ifShot 33 = .ok (.iload_n 1, 1) := by decide +kernel
theorem dX2_ifShot_34 : decode cX2_ifShot 34 = .ok (.iload_n 2, 1) := by decide +kernel
theorem dX2_ifShot_35 : decode cX2_ifShot 35 = .ok (.invokevirtual 92, 3) := by decide +kernel
theorem dX2_ifShot_38 : decode cX2_ifShot 38 = .ok (.iload_n 3, 1) := by decide +kernel
theorem dX2_ifShot_39 : decode cX2_ifShot 39 = .ok (.lookupswitch 45 #[(0, 25), (1, 33)], 25) := by decide +kernel
theorem dX2_ifShot_64 : decode cX2_ifShot 64 = .ok (.aload_n 0, 1) := by decide +kernel
theorem dX2_ifShot_65 : decode cX2_ifShot 65 = .ok (.getfield 22, 3) := by decide +kernel
theorem dX2_ifShot_68 : decode cX2_ifShot 68 = .ok (.invokevirtual 96, 3) := by decide +kernel
theorem dX2_ifShot_71 : decode cX2_ifShot 71 = .ok (.ireturn, 1) := by decide +kernel
theorem dX2_ifShot_72 : decode cX2_ifShot 72 = .ok (.aload_n 0, 1) := by decide +kernel
theorem dX2_ifShot_73 : decode cX2_ifShot 73 = .ok (.getfield 16, 3) := by decide +kernel
theorem dX2_ifShot_76 : decode cX2_ifShot 76 = .ok (.getfield 55, 3) := by decide +kernel
theorem dX2_ifShot_79 : decode cX2_ifShot 79 = .ok (.iconst 0, 1) := by decide +kernel
theorem dX2_ifShot_80 : decode cX2_ifShot 80 = .ok (.invokestatic 58, 3) := by decide +kernel
theorem dX2_ifShot_83 : decode cX2_ifShot 83 = .ok (.ireturn, 1) := by decide +kernel
theorem dX2_ifShot_84 : decode cX2_ifShot 84 = .ok (.aload_n 0, 1) := by decide +kernel
theorem dX2_ifShot_85 : decode cX2_ifShot 85 = .ok (.getfield 22, 3) := by decide +kernel
theorem dX2_ifShot_88 : decode cX2_ifShot 88 = .ok (.getfield 170, 3) := by decide +kernel
theorem dX2_ifShot_91 : decode cX2_ifShot 91 = .ok (.ireturn, 1) := by decide +kernel
abbrev zX2_ifShot : List Cond := .code yX2_ifShot cX2_ifShot 4 (some .int) :: BIG
def fX2_ifShot (bo : BoT) (now : ShT) (pr : ShT) (ex : ExT) (v : Int32) (n : Int32) (w : Int32) : Option (Nat ⊕ (Int32 × ShT × ExT)) := tb (fX2_needSpeed v) (fun r1 => tb (fX2_needRange n 1 50) (fun r2 => tb (fX2_needRange w 0 2) (fun r3 => (fX1_become pr now).bind (fun r4 => (fX2_fire bo ex r4 v n).bind (fun r5 => (if w = 0 then (fX0_spread r5.1).bind (fun r7 => some (.inr (r7, r5.2, r5.1))) else (if w = 1 then (fX2_at 2 r5.2.1 0).bind (fun r9 => some (.inr (r9, r5.2, r5.1))) else some (.inr (r5.1.2.2.2.2.2.2.2.1, r5.2, r5.1)))))))))
set_option maxHeartbeats 4000000 in
set_option maxRecDepth 100000 in
theorem mtX2_ifShot (l : Launch) (D : va_G) (t : Nat → ClassId) (bh : Nat) (bk : Nat → Nat) (bo : BoT) (nb : Nat → Nat) (now : ShT) (pb : Nat → Nat) (pr : ShT) (eb : Nat → Nat) (ex : ExT) (v : Int32) (n : Int32) (w : Int32) (out : Int32 × ShT × ExT) (h : fX2_ifShot bo now pr ex v n w = some (.inr out))  (sz : Nat) : Met l yX2_ifShot zX2_ifShot ({ frames := 5, cells := 0, slots := 0, locals := 117 }) (sPc D t (gBo bh bk bo ++ (gS t (bk 0) nb now ++ (gS t (bk 1) pb pr ++ (gE t (bk 2) eb ex)))) sz [.ref bh, .int v, .int n, .int w]) (qI D t (gBo bh bk bo ++ (gS t (bk 0) nb now ++ (gS t (bk 1) pb out.2.1 ++ (gE t (bk 2) eb out.2.2)))) out.1 (va_A (gBo bh bk bo ++ (gS t (bk 0) nb now ++ (gS t (bk 1) pb pr ++ (gE t (bk 2) eb ex)))) sz)) 0 0 (va_A (gBo bh bk bo ++ (gS t (bk 0) nb now ++ (gS t (bk 1) pb pr ++ (gE t (bk 2) eb ex)))) sz) := by
  refine met_of (Qf := fun A => qI D t (gBo bh bk bo ++ (gS t (bk 0) nb now ++ (gS t (bk 1) pb out.2.1 ++ (gE t (bk 2) eb out.2.2)))) out.1 A) (cc := cX2_ifShot) (maxL := 4) (ret := some .int) (by decide) rfl (Nat.le_of_ble_eq_true rfl) ?_
  intro p e s m args below meth c A hx hb hr hml hts hown hlocks hA hP hK hD hE hS ls hl
  have htB : ∀ w ∈ BIG, w.before args s = true := fun w h => hts w (List.mem_cons_of_mem _ h)
  have hown : s.vm.findClass RX2 = some m.cls := hown
  have hl : lv_has ls 4 [(0, .ref bh), (1, .int v), (2, .int n), (3, .int w)] := hl
  unfold fX2_ifShot at h
  refine lv_iload_n hx hb dX2_ifShot_0 rfl (lv_at hl 1 rfl) ?_
  obtain ⟨r1, h1, h⟩ := tb_r h
  refine call_v (wc := ([] : va_W)) (wc' := ([] : va_W)) (ws' := (gBo bh bk bo ++ (gS t (bk 0) nb now ++ (gS t (bk 1) pb pr ++ (gE t (bk 2) eb ex))))) (cutB (bs := [gBo bh bk bo, gS t (bk 0) nb now, gS t (bk 1) pb pr, gE t (bk 2) eb ex]) (cs := []) (cs' := []) (bs' := [gBo bh bk bo, gS t (bk 0) nb now, gS t (bk 1) pb pr, gE t (bk 2) eb ex]) [] hP hD hS hA rfl rfl rfl rfl) hS (fun hPc hDc => va_runS (As := [.int v]) (rest := []) ⟨hx, hb, hml, hown, hts⟩ (mtX2_needSpeed l D t v r1 h1 _) (va_cwS 1 hts (gBS kw82 kw83 kw2 kw84) rfl rfl rfl (by decide +kernel) ⟨Nat.le_of_ble_eq_true rfl, Nat.le_of_ble_eq_true rfl⟩) (sPc_S hPc hK hDc hE) rfl rfl hl.1 rfl (lv_room (Nat.le_of_ble_eq_true rfl)) dX2_ifShot_1 ⟨Nat.zero_le _, Nat.zero_le _⟩) (fun H locs hP hD hS => ?_)
  refine lv_iload_n hx hb dX2_ifShot_4 rfl (lv_at hl 2 rfl) ?_
  refine lv_iconst (v := 1) hx hb dX2_ifShot_5 (by decide) ?_
  refine lv_bipush (v := 50) hx hb dX2_ifShot_6 (by decide) ?_
  obtain ⟨r2, h2, h⟩ := tb_r h
  refine call_v (wc := ([] : va_W)) (wc' := ([] : va_W)) (ws' := (gBo bh bk bo ++ (gS t (bk 0) nb now ++ (gS t (bk 1) pb pr ++ (gE t (bk 2) eb ex))))) (cutB (bs := [gBo bh bk bo, gS t (bk 0) nb now, gS t (bk 1) pb pr, gE t (bk 2) eb ex]) (cs := []) (cs' := []) (bs' := [gBo bh bk bo, gS t (bk 0) nb now, gS t (bk 1) pb pr, gE t (bk 2) eb ex]) [] hP hD hS hA rfl rfl rfl rfl) hS (fun hPc hDc => va_runS (As := [.int n, .int 1, .int 50]) (rest := []) ⟨hx, hb, hml, hown, hts⟩ (mtX2_needRange l D t n 1 50 r2 h2 _) (va_cwS 3 hts (gBS kw52 kw53 kw2 kw54) rfl rfl rfl (by decide +kernel) ⟨Nat.le_of_ble_eq_true rfl, Nat.le_of_ble_eq_true rfl⟩) (sPc_S hPc hK hDc hE) rfl rfl hl.1 rfl (lv_room (Nat.le_of_ble_eq_true rfl)) dX2_ifShot_8 ⟨Nat.zero_le _, Nat.zero_le _⟩) (fun H locs hP hD hS => ?_)
  refine lv_iload_n hx hb dX2_ifShot_11 rfl (lv_at hl 3 rfl) ?_
  refine lv_iconst (v := 0) hx hb dX2_ifShot_12 (by decide) ?_
  refine lv_iconst (v := 2) hx hb dX2_ifShot_13 (by decide) ?_
  obtain ⟨r3, h3, h⟩ := tb_r h
  refine call_v (wc := ([] : va_W)) (wc' := ([] : va_W)) (ws' := (gBo bh bk bo ++ (gS t (bk 0) nb now ++ (gS t (bk 1) pb pr ++ (gE t (bk 2) eb ex))))) (cutB (bs := [gBo bh bk bo, gS t (bk 0) nb now, gS t (bk 1) pb pr, gE t (bk 2) eb ex]) (cs := []) (cs' := []) (bs' := [gBo bh bk bo, gS t (bk 0) nb now, gS t (bk 1) pb pr, gE t (bk 2) eb ex]) [] hP hD hS hA rfl rfl rfl rfl) hS (fun hPc hDc => va_runS (As := [.int w, .int 0, .int 2]) (rest := []) ⟨hx, hb, hml, hown, hts⟩ (mtX2_needRange l D t w 0 2 r3 h3 _) (va_cwS 3 hts (gBS kw52 kw53 kw2 kw54) rfl rfl rfl (by decide +kernel) ⟨Nat.le_of_ble_eq_true rfl, Nat.le_of_ble_eq_true rfl⟩) (sPc_S hPc hK hDc hE) rfl rfl hl.1 rfl (lv_room (Nat.le_of_ble_eq_true rfl)) dX2_ifShot_14 ⟨Nat.zero_le _, Nat.zero_le _⟩) (fun H locs hP hD hS => ?_)
  refine lv_aload_n hx hb dX2_ifShot_17 rfl (lv_at hl 0 rfl) ?_
  refine va_get (D := D) (ci := 2) (v := .ref (bk 1)) (C := RX2) (T := TX2) (N := 8) hx hb htB inlX2 hown hK hP 0 rfl rfl 1 (by decide) (htB _ kw13) (fun _ h9 => h9) rfl dX2_ifShot_18 ?_
  refine lv_aload_n hx hb dX2_ifShot_21 rfl (lv_at hl 0 rfl) ?_
  refine va_get (D := D) (ci := 2) (v := .ref (bk 0)) (C := RX2) (T := TX2) (N := 8) hx hb htB inlX2 hown hK hP 0 rfl rfl 0 (by decide) (htB _ kw12) (fun _ h9 => h9) rfl dX2_ifShot_22 ?_
  obtain ⟨r4, h4, h⟩ := ob h
  refine call_v (wc := (gS t (bk 1) pb pr ++ (gS t (bk 0) nb now))) (wc' := (gS t (bk 1) pb r4 ++ (gS t (bk 0) nb now))) (ws' := (gBo bh bk bo ++ (gS t (bk 0) nb now ++ (gS t (bk 1) pb r4 ++ (gE t (bk 2) eb ex))))) (cutB (bs := [gBo bh bk bo, gS t (bk 0) nb now, gS t (bk 1) pb pr, gE t (bk 2) eb ex]) (cs := [gS t (bk 1) pb pr, gS t (bk 0) nb now]) (cs' := [gS t (bk 1) pb r4, gS t (bk 0) nb now]) (bs' := [gBo bh bk bo, gS t (bk 0) nb now, gS t (bk 1) pb r4, gE t (bk 2) eb ex]) [2, 1] hP hD hS hA rfl rfl rfl rfl) hS (fun hPc hDc => va_runV (As := [.ref (bk 0)]) (rest := []) ⟨hx, hb, hml, hown, hts⟩ (mtX1_become l D t (bk 1) pb pr (bk 0) nb now r4 h4 _) (cwV 1 hts (gBV kw90 kw91 kw92 kw11 kw93) rfl rfl rfl (by decide +kernel) ⟨Nat.le_of_ble_eq_true rfl, Nat.le_of_ble_eq_true rfl⟩) (sPc_V hPc hK hDc hE (va_recv hK hP (ci := 1) (q0 := 9) rfl rfl)) rfl rfl hl.1 rfl (lv_room (Nat.le_of_ble_eq_true rfl)) dX2_ifShot_25 ⟨Nat.zero_le _, Nat.zero_le _⟩) (fun H locs hP hD hS => ?_)
  refine lv_aload_n hx hb dX2_ifShot_28 rfl (lv_at hl 0 rfl) ?_
  refine lv_aload_n hx hb dX2_ifShot_29 rfl (lv_at hl 0 rfl) ?_
  refine va_get (D := D) (ci := 2) (v := .ref (bk 1)) (C := RX2) (T := TX2) (N := 8) hx hb htB inlX2 hown hK hP 0 rfl rfl 1 (by decide) (htB _ kw13) (fun _ h9 => h9) rfl dX2_ifShot_30 ?_
  refine lv_iload_n hx hb dX2_ifShot_33 rfl (lv_at hl 1 rfl) ?_
  refine lv_iload_n hx hb dX2_ifShot_34 rfl (lv_at hl 2 rfl) ?_
  obtain ⟨r5, h5, h⟩ := ob h
  refine call_v (wc := (gBo bh bk bo ++ (gE t (bk 2) eb ex ++ (gS t (bk 1) pb r4)))) (wc' := (gBo bh bk bo ++ (gE t (bk 2) eb r5.1 ++ (gS t (bk 1) pb r5.2)))) (ws' := (gBo bh bk bo ++ (gS t (bk 0) nb now ++ (gS t (bk 1) pb r5.2 ++ (gE t (bk 2) eb r5.1))))) (cutB (bs := [gBo bh bk bo, gS t (bk 0) nb now, gS t (bk 1) pb r4, gE t (bk 2) eb ex]) (cs := [gBo bh bk bo, gE t (bk 2) eb ex, gS t (bk 1) pb r4]) (cs' := [gBo bh bk bo, gE t (bk 2) eb r5.1, gS t (bk 1) pb r5.2]) (bs' := [gBo bh bk bo, gS t (bk 0) nb now, gS t (bk 1) pb r5.2, gE t (bk 2) eb r5.1]) [0, 3, 2] hP hD hS hA rfl rfl rfl rfl) hS (fun hPc hDc => va_runV (As := [.ref (bk 1), .int v, .int n]) (rest := []) ⟨hx, hb, hml, hown, hts⟩ (mtX2_fire l D t bh bk bo eb ex (bk 1) pb r4 v n r5 h5 _) (cwV 3 hts (gBV kw96 kw97 kw98 kw2 kw99) rfl rfl rfl (by decide +kernel) ⟨Nat.le_of_ble_eq_true rfl, Nat.le_of_ble_eq_true rfl⟩) (sPc_V hPc hK hDc hE (va_recv hK hP (ci := 2) (q0 := 0) rfl rfl)) rfl rfl hl.1 rfl (lv_room (Nat.le_of_ble_eq_true rfl)) dX2_ifShot_35 ⟨Nat.zero_le _, Nat.zero_le _⟩) (fun H locs hP hD hS => ?_)
  refine lv_iload_n hx hb dX2_ifShot_38 rfl (lv_at hl 3 rfl) ?_
  by_cases c6 : w = 0
  · have h := it_p c6 h
    refine lv_lookup (off := 25) (tgt := 64) hx hb dX2_ifShot_39 (by decide) (by rw [c6]; decide) (by decide) ?_
    refine lv_aload_n hx hb dX2_ifShot_64 rfl (lv_at hl 0 rfl) ?_
    refine va_get (D := D) (ci := 2) (v := .ref (bk 2)) (C := RX2) (T := TX2) (N := 8) hx hb htB inlX2 hown hK hP 0 rfl rfl 2 (by decide) (htB _ kw17) (fun _ h9 => h9) rfl dX2_ifShot_65 ?_
    obtain ⟨r7, h7, h⟩ := ob h
    refine call_i (v := r7) (wc := (gE t (bk 2) eb r5.1)) (wc' := (gE t (bk 2) eb r5.1)) (ws' := (gBo bh bk bo ++ (gS t (bk 0) nb now ++ (gS t (bk 1) pb r5.2 ++ (gE t (bk 2) eb r5.1))))) (cutB (bs := [gBo bh bk bo, gS t (bk 0) nb now, gS t (bk 1) pb r5.2, gE t (bk 2) eb r5.1]) (cs := [gE t (bk 2) eb r5.1]) (cs' := [gE t (bk 2) eb r5.1]) (bs' := [gBo bh bk bo, gS t (bk 0) nb now, gS t (bk 1) pb r5.2, gE t (bk 2) eb r5.1]) [3] hP hD hS hA rfl rfl rfl rfl) hS (fun hPc hDc => va_runV (As := []) (rest := []) ⟨hx, hb, hml, hown, hts⟩ (mtX0_spread l D t (bk 2) eb r5.1 r7 h7 _) (cwV 0 hts (gBV kw156 kw153 kw154 kw16 kw155) rfl rfl rfl (by decide +kernel) ⟨Nat.le_of_ble_eq_true rfl, Nat.le_of_ble_eq_true rfl⟩) (sPc_V hPc hK hDc hE (va_recv hK hP (ci := 0) (q0 := 17) rfl rfl)) rfl rfl hl.1 rfl (lv_room (Nat.le_of_ble_eq_true rfl)) dX2_ifShot_68 ⟨Nat.zero_le _, Nat.zero_le _⟩) (fun H locs hP hD hS => ?_)
    obtain rfl := oi h
    exact ret_i hx hb hr hlocks hP hK hD hS dX2_ifShot_71
  · have h := it_n c6 h
    by_cases c8 : w = 1
    · have h := it_p c8 h
      refine lv_lookup (off := 33) (tgt := 72) hx hb dX2_ifShot_39 (by decide) (by rw [c8]; decide) (by decide) ?_
      refine lv_aload_n hx hb dX2_ifShot_72 rfl (lv_at hl 0 rfl) ?_
      refine va_get (D := D) (ci := 2) (v := .ref (bk 1)) (C := RX2) (T := TX2) (N := 8) hx hb htB inlX2 hown hK hP 0 rfl rfl 1 (by decide) (htB _ kw13) (fun _ h9 => h9) rfl dX2_ifShot_73 ?_
      refine va_get (D := D) (ci := 1) (v := .ref (pb 0)) (C := RX1) (T := TX1) (N := 10) hx hb htB inlX1 hown hK hP 9 rfl rfl 0 (by decide) (htB _ kw80) (fun _ h9 => h9) rfl dX2_ifShot_76 ?_
      refine lv_iconst (v := 0) hx hb dX2_ifShot_79 (by decide) ?_
      obtain ⟨r9, h9, h⟩ := ob h
      refine call_i (v := r9) (wc := (gA t (pb 0) 2 r5.2.1)) (wc' := (gA t (pb 0) 2 r5.2.1)) (ws' := (gBo bh bk bo ++ (gS t (bk 0) nb now ++ (gS t (bk 1) pb r5.2 ++ (gE t (bk 2) eb r5.1))))) (cutI (wc := (gA t (pb 0) 2 r5.2.1)) (wc' := (gA t (pb 0) 2 r5.2.1)) (ws' := (gBo bh bk bo ++ (gS t (bk 0) nb now ++ (gS t (bk 1) pb r5.2 ++ (gE t (bk 2) eb r5.1))))) [10] hP hD hS hA rfl rfl rfl rfl) hS (fun hPc hDc => va_runS (As := [.ref (pb 0), .int 0]) (rest := []) ⟨hx, hb, hml, hown, hts⟩ (mtX2_at l D t (pb 0) 2 r5.2.1 0 r9 h9 (by decide) _) (va_cwS 2 hts (gBS kw157 kw65 kw2 kw66) rfl rfl rfl (by decide +kernel) ⟨Nat.le_of_ble_eq_true rfl, Nat.le_of_ble_eq_true rfl⟩) (sPc_S hPc hK hDc hE) rfl rfl hl.1 rfl (lv_room (Nat.le_of_ble_eq_true rfl)) dX2_ifShot_80 ⟨Nat.zero_le _, Nat.zero_le _⟩) (fun H locs hP hD hS => ?_)
      obtain rfl := oi h
      exact ret_i hx hb hr hlocks hP hK hD hS dX2_ifShot_83
    · have h := it_n c8 h
      refine lv_lookup (off := 45) (tgt := 84) hx hb dX2_ifShot_39 (by decide) (lk_out2 (lk_ne (by decide) c6) (lk_ne (by decide) c8)) (by decide) ?_
      refine lv_aload_n hx hb dX2_ifShot_84 rfl (lv_at hl 0 rfl) ?_
      refine va_get (D := D) (ci := 2) (v := .ref (bk 2)) (C := RX2) (T := TX2) (N := 8) hx hb htB inlX2 hown hK hP 0 rfl rfl 2 (by decide) (htB _ kw17) (fun _ h9 => h9) rfl dX2_ifShot_85 ?_
      refine va_get (D := D) (ci := 0) (v := .int r5.1.2.2.2.2.2.2.2.1) (C := RX0) (T := TX0) (N := 10) hx hb htB inlX0 hown hK hP 17 rfl rfl 7 (by decide) (htB _ kw81) (fun _ h9 => h9) rfl dX2_ifShot_88 ?_
      obtain rfl := oi h
      exact ret_i hx hb hr hlocks hP hK hD hS dX2_ifShot_91

theorem dX2_goodFor_0 : decode cX2_goodFor 0 = .ok (.iload_n 1, 1) := by decide +kernel
theorem dX2_goodFor_1 : decode cX2_goodFor 1 = .ok (.invokestatic 73, 3) := by decide +kernel
theorem dX2_goodFor_4 : decode cX2_goodFor 4 = .ok (.iload_n 2, 1) := by decide +kernel
theorem dX2_goodFor_5 : decode cX2_goodFor 5 = .ok (.iconst 0, 1) := by decide +kernel
theorem dX2_goodFor_6 : decode cX2_goodFor 6 = .ok (.sipush 999, 3) := by decide +kernel
theorem dX2_goodFor_9 : decode cX2_goodFor 9 = .ok (.invokestatic 48, 3) := by decide +kernel
theorem dX2_goodFor_12 : decode cX2_goodFor 12 = .ok (.aload_n 0, 1) := by decide +kernel
theorem dX2_goodFor_13 : decode cX2_goodFor 13 = .ok (.getfield 16, 3) := by decide +kernel
theorem dX2_goodFor_16 : decode cX2_goodFor 16 = .ok (.aload_n 0, 1) := by decide +kernel
theorem dX2_goodFor_17 : decode cX2_goodFor 17 = .ok (.getfield 10, 3) := by decide +kernel
theorem dX2_goodFor_20 : decode cX2_goodFor 20 = .ok (.invokevirtual 129, 3) := by decide +kernel
theorem dX2_goodFor_23 : decode cX2_goodFor 23 = .ok (.iconst 0, 1) := by decide +kernel
theorem dX2_goodFor_24 : decode cX2_goodFor 24 = .ok (.istore_n 3, 1) := by decide +kernel
theorem dX2_goodFor_25 : decode cX2_goodFor 25 = .ok (.iload_n 3, 1) := by decide +kernel
theorem dX2_goodFor_26 : decode cX2_goodFor 26 = .ok (.sipush 200, 3) := by decide +kernel
theorem dX2_goodFor_29 : decode cX2_goodFor 29 = .ok (.if_icmp .ge 46, 3) := by decide +kernel
theorem dX2_goodFor_32 : decode cX2_goodFor 32 = .ok (.aload_n 0, 1) := by decide +kernel
theorem dX2_goodFor_33 : decode cX2_goodFor 33 = .ok (.getfield 22, 3) := by decide +kernel
theorem dX2_goodFor_36 : decode cX2_goodFor 36 = .ok (.aload_n 0, 1) := by decide +kernel
theorem dX2_goodFor_37 : decode cX2_goodFor 37 = .ok (.getfield 16, 3) := by decide +kernel
theorem dX2_goodFor_40 : decode cX2_goodFor 40 = .ok (.iload_n 1, 1) := by decide +kernel
theorem dX2_goodFor_41 : decode cX2_goodFor 41 = .ok (.invokevirtual 143, 3) := by decide +kernel
theorem dX2_goodFor_44 : decode cX2_goodFor 44 = .ok (.aload_n 0, 1) := by decide +kernel
theorem dX2_goodFor_45 : decode cX2_goodFor 45 = .ok (.getfield 22, 3) := by decide +kernel
theorem dX2_goodFor_48 : decode cX2_goodFor 48 = .ok (.getfield 170, 3) := by decide +kernel
theorem dX2_goodFor_51 : decode cX2_goodFor 51 = .ok (.iload_n 2, 1) := by decide +kernel
theorem dX2_goodFor_52 : decode cX2_goodFor 52 = .ok (.if_icmp .le 5, 3) := by decide +kernel
theorem dX2_goodFor_55 : decode cX2_goodFor 55 = .ok (.iload_n 3, 1) := by decide +kernel
theorem dX2_goodFor_56 : decode cX2_goodFor 56 = .ok (.ireturn, 1) := by decide +kernel
theorem dX2_goodFor_57 : decode cX2_goodFor 57 = .ok (.aload_n 0, 1) := by decide +kernel
theorem dX2_goodFor_58 : decode cX2_goodFor 58 = .ok (.getfield 16, 3) := by decide +kernel
theorem dX2_goodFor_61 : decode cX2_goodFor 61 = .ok (.iload_n 1, 1) := by decide +kernel
theorem dX2_goodFor_62 : decode cX2_goodFor 62 = .ok (.aload_n 0, 1) := by decide +kernel
theorem dX2_goodFor_63 : decode cX2_goodFor 63 = .ok (.getfield 22, 3) := by decide +kernel
theorem dX2_goodFor_66 : decode cX2_goodFor 66 = .ok (.invokevirtual 197, 3) := by decide +kernel
theorem dX2_goodFor_69 : decode cX2_goodFor 69 = .ok (.iinc 3 1, 3) := by decide +kernel
theorem dX2_goodFor_72 : decode cX2_goodFor 72 = .ok (.goto (-47), 3) := by decide +kernel
theorem dX2_goodFor_75 : decode cX2_goodFor 75 = .ok (.sipush 200, 3) := by decide +kernel
theorem dX2_goodFor_78 : decode cX2_goodFor 78 = .ok (.ireturn, 1) := by decide +kernel
abbrev zX2_goodFor : List Cond := .code yX2_goodFor cX2_goodFor 4 (some .int) :: BIG
def fX2_goodFor_l25 (bo : BoT) (now : ShT)  (K25 : (ShT × ExT × Int32 × Int32 × Int32) → Option (Nat ⊕ (Int32 × ShT × ExT))) (v25 : ShT × ExT × Int32 × Int32 × Int32) : Option (Nat ⊕ (Int32 × ShT × ExT)) := (if 200 ≤ v25.2.2.2.2 then some (.inr (200, v25.1, v25.2.1)) else (fX0_expose v25.2.1 v25.1 v25.2.2.1).bind (fun r5 => (if r5.2.2.2.2.2.2.2.1 ≤ v25.2.2.2.1 then (fX1_tally v25.1 r5 v25.2.2.1).bind (fun r7 => K25 (r7, r5, v25.2.2.1, v25.2.2.2.1, v25.2.2.2.2 + 1)) else some (.inr (v25.2.2.2.2, v25.1, r5)))))
def fX2_goodFor (bo : BoT) (now : ShT) (pr : ShT) (ex : ExT) (v : Int32) (n : Int32) : Option (Nat ⊕ (Int32 × ShT × ExT)) := tb (fX2_needSpeed v) (fun r1 => tb (fX2_needRange n 0 999) (fun r2 => (fX1_become pr now).bind (fun r3 => lp (fX2_goodFor_l25 bo now) 2000 (r3, ex, v, n, 0))))
set_option maxHeartbeats 4000000 in
set_option maxRecDepth 100000 in
theorem mtX2_goodFor (l : Launch) (D : va_G) (t : Nat → ClassId) (bh : Nat) (bk : Nat → Nat) (bo : BoT) (nb : Nat → Nat) (now : ShT) (pb : Nat → Nat) (pr : ShT) (eb : Nat → Nat) (ex : ExT) (v : Int32) (n : Int32) (out : Int32 × ShT × ExT) (h : fX2_goodFor bo now pr ex v n = some (.inr out))  (sz : Nat) : Met l yX2_goodFor zX2_goodFor ({ frames := 4, cells := 0, slots := 0, locals := 93 }) (sPc D t (gBo bh bk bo ++ (gS t (bk 0) nb now ++ (gS t (bk 1) pb pr ++ (gE t (bk 2) eb ex)))) sz [.ref bh, .int v, .int n]) (qI D t (gBo bh bk bo ++ (gS t (bk 0) nb now ++ (gS t (bk 1) pb out.2.1 ++ (gE t (bk 2) eb out.2.2)))) out.1 (va_A (gBo bh bk bo ++ (gS t (bk 0) nb now ++ (gS t (bk 1) pb pr ++ (gE t (bk 2) eb ex)))) sz)) 0 0 (va_A (gBo bh bk bo ++ (gS t (bk 0) nb now ++ (gS t (bk 1) pb pr ++ (gE t (bk 2) eb ex)))) sz) := by
  refine met_of (Qf := fun A => qI D t (gBo bh bk bo ++ (gS t (bk 0) nb now ++ (gS t (bk 1) pb out.2.1 ++ (gE t (bk 2) eb out.2.2)))) out.1 A) (cc := cX2_goodFor) (maxL := 4) (ret := some .int) (by decide) rfl (Nat.le_of_ble_eq_true rfl) ?_
  intro p e s m args below meth c A hx hb hr hml hts hown hlocks hA hP hK hD hE hS ls hl
  have htB : ∀ w ∈ BIG, w.before args s = true := fun w h => hts w (List.mem_cons_of_mem _ h)
  have hown : s.vm.findClass RX2 = some m.cls := hown
  have hl : lv_has ls 4 [(0, .ref bh), (1, .int v), (2, .int n)] := hl
  unfold fX2_goodFor at h
  have J25 : ∀ (fu25 : Nat) (v25 : ShT × ExT × Int32 × Int32 × Int32), lp (fX2_goodFor_l25 bo now) fu25 v25 = some (.inr out) → ∀ (H : Heap) (locs : List Loc), va_P D vwCl (gBo bh bk bo ++ (gS t (bk 0) nb now ++ (gS t (bk 1) pb v25.1 ++ (gE t (bk 2) eb v25.2.1)))) H → va_D A (gBo bh bk bo ++ (gS t (bk 0) nb now ++ (gS t (bk 1) pb v25.1 ++ (gE t (bk 2) eb v25.2.1)))) → va_S A s.heap H locs → ∀ ls : Array Slot, lv_has ls 4 [(0, .ref bh), (1, .int v25.2.2.1), (2, .int v25.2.2.2.1), (3, .int v25.2.2.2.2)] → W p l e ({ frames := 4, cells := 0, slots := 0, locals := 93 }) s m args below meth c H locs 0 0 (MQ below (qI D t (gBo bh bk bo ++ (gS t (bk 0) nb now ++ (gS t (bk 1) pb out.2.1 ++ (gE t (bk 2) eb out.2.2)))) out.1 A) args s 0 0 A) (F0 m 25 ls []) := by
    intro fu25
    induction fu25 with
    | zero => intro v25 h; cases h
    | succ fu25 ih25 =>
      intro v25 h H locs hP hD hS ls hl
      have h : fX2_goodFor_l25 bo now (lp (fX2_goodFor_l25 bo now) fu25) v25 = some (.inr out) := h
      unfold fX2_goodFor_l25 at h
      refine lv_iload_n hx hb dX2_goodFor_25 rfl (lv_at hl 3 rfl) ?_
      refine lv_sipush (v := 200) hx hb dX2_goodFor_26 (by decide) ?_
      refine lv_icmp_ge (tgt := 75) hx hb dX2_goodFor_29 (by decide) (fun c4 => ?_) (fun c4 => ?_)
      · have h := it_p c4 h
        refine lv_sipush (v := 200) hx hb dX2_goodFor_75 (by decide) ?_
        obtain rfl := oi h
        exact ret_i hx hb hr hlocks hP hK hD hS dX2_goodFor_78
      · have h := it_n c4 h
        refine lv_aload_n hx hb dX2_goodFor_32 rfl (lv_at hl 0 rfl) ?_
        refine va_get (D := D) (ci := 2) (v := .ref (bk 2)) (C := RX2) (T := TX2) (N := 8) hx hb htB inlX2 hown hK hP 0 rfl rfl 2 (by decide) (htB _ kw17) (fun _ h9 => h9) rfl dX2_goodFor_33 ?_
        refine lv_aload_n hx hb dX2_goodFor_36 rfl (lv_at hl 0 rfl) ?_
        refine va_get (D := D) (ci := 2) (v := .ref (bk 1)) (C := RX2) (T := TX2) (N := 8) hx hb htB inlX2 hown hK hP 0 rfl rfl 1 (by decide) (htB _ kw13) (fun _ h9 => h9) rfl dX2_goodFor_37 ?_
        refine lv_iload_n hx hb dX2_goodFor_40 rfl (lv_at hl 1 rfl) ?_
        obtain ⟨r5, h5, h⟩ := ob h
        refine call_v (wc := (gE t (bk 2) eb v25.2.1 ++ (gS t (bk 1) pb v25.1))) (wc' := (gE t (bk 2) eb r5 ++ (gS t (bk 1) pb v25.1))) (ws' := (gBo bh bk bo ++ (gS t (bk 0) nb now ++ (gS t (bk 1) pb v25.1 ++ (gE t (bk 2) eb r5))))) (cutB (bs := [gBo bh bk bo, gS t (bk 0) nb now, gS t (bk 1) pb v25.1, gE t (bk 2) eb v25.2.1]) (cs := [gE t (bk 2) eb v25.2.1, gS t (bk 1) pb v25.1]) (cs' := [gE t (bk 2) eb r5, gS t (bk 1) pb v25.1]) (bs' := [gBo bh bk bo, gS t (bk 0) nb now, gS t (bk 1) pb v25.1, gE t (bk 2) eb r5]) [3, 2] hP hD hS hA rfl rfl rfl rfl) hS (fun hPc hDc => va_runV (As := [.ref (bk 1), .int v25.2.2.1]) (rest := []) ⟨hx, hb, hml, hown, hts⟩ (mtX0_expose l D t (bk 2) eb v25.2.1 (bk 1) pb v25.1 v25.2.2.1 r5 h5 _) (cwV 2 hts (gBV kw100 kw101 kw102 kw16 kw103) rfl rfl rfl (by decide +kernel) ⟨Nat.le_of_ble_eq_true rfl, Nat.le_of_ble_eq_true rfl⟩) (sPc_V hPc hK hDc hE (va_recv hK hP (ci := 0) (q0 := 17) rfl rfl)) rfl rfl hl.1 rfl (lv_room (Nat.le_of_ble_eq_true rfl)) dX2_goodFor_41 ⟨Nat.zero_le _, Nat.zero_le _⟩) (fun H locs hP hD hS => ?_)
        refine lv_aload_n hx hb dX2_goodFor_44 rfl (lv_at hl 0 rfl) ?_
        refine va_get (D := D) (ci := 2) (v := .ref (bk 2)) (C := RX2) (T := TX2) (N := 8) hx hb htB inlX2 hown hK hP 0 rfl rfl 2 (by decide) (htB _ kw17) (fun _ h9 => h9) rfl dX2_goodFor_45 ?_
        refine va_get (D := D) (ci := 0) (v := .int r5.2.2.2.2.2.2.2.1) (C := RX0) (T := TX0) (N := 10) hx hb htB inlX0 hown hK hP 17 rfl rfl 7 (by decide) (htB _ kw81) (fun _ h9 => h9) rfl dX2_goodFor_48 ?_
        refine lv_iload_n hx hb dX2_goodFor_51 rfl (lv_at hl 2 rfl) ?_
        refine lv_icmp_le (tgt := 57) hx hb dX2_goodFor_52 (by decide) (fun c6 => ?_) (fun c6 => ?_)
        · have h := it_p c6 h
          refine lv_aload_n hx hb dX2_goodFor_57 rfl (lv_at hl 0 rfl) ?_
          refine va_get (D := D) (ci := 2) (v := .ref (bk 1)) (C := RX2) (T := TX2) (N := 8) hx hb htB inlX2 hown hK hP 0 rfl rfl 1 (by decide) (htB _ kw13) (fun _ h9 => h9) rfl dX2_goodFor_58 ?_
          refine lv_iload_n hx hb dX2_goodFor_61 rfl (lv_at hl 1 rfl) ?_
          refine lv_aload_n hx hb dX2_goodFor_62 rfl (lv_at hl 0 rfl) ?_
          refine va_get (D := D) (ci := 2) (v := .ref (bk 2)) (C := RX2) (T := TX2) (N := 8) hx hb htB inlX2 hown hK hP 0 rfl rfl 2 (by decide) (htB _ kw17) (fun _ h9 => h9) rfl dX2_goodFor_63 ?_
          obtain ⟨r7, h7, h⟩ := ob h
          refine call_v (wc := (gS t (bk 1) pb v25.1 ++ (gE t (bk 2) eb r5))) (wc' := (gS t (bk 1) pb r7 ++ (gE t (bk 2) eb r5))) (ws' := (gBo bh bk bo ++ (gS t (bk 0) nb now ++ (gS t (bk 1) pb r7 ++ (gE t (bk 2) eb r5))))) (cutB (bs := [gBo bh bk bo, gS t (bk 0) nb now, gS t (bk 1) pb v25.1, gE t (bk 2) eb r5]) (cs := [gS t (bk 1) pb v25.1, gE t (bk 2) eb r5]) (cs' := [gS t (bk 1) pb r7, gE t (bk 2) eb r5]) (bs' := [gBo bh bk bo, gS t (bk 0) nb now, gS t (bk 1) pb r7, gE t (bk 2) eb r5]) [2, 3] hP hD hS hA rfl rfl rfl rfl) hS (fun hPc hDc => va_runV (As := [.int v25.2.2.1, .ref (bk 2)]) (rest := []) ⟨hx, hb, hml, hown, hts⟩ (mtX1_tally l D t (bk 1) pb v25.1 (bk 2) eb r5 v25.2.2.1 r7 h7 _) (cwV 2 hts (gBV kw145 kw146 kw147 kw11 kw148) rfl rfl rfl (by decide +kernel) ⟨Nat.le_of_ble_eq_true rfl, Nat.le_of_ble_eq_true rfl⟩) (sPc_V hPc hK hDc hE (va_recv hK hP (ci := 1) (q0 := 9) rfl rfl)) rfl rfl hl.1 rfl (lv_room (Nat.le_of_ble_eq_true rfl)) dX2_goodFor_66 ⟨Nat.zero_le _, Nat.zero_le _⟩) (fun H locs hP hD hS => ?_)
          refine lv_iinc (v := v25.2.2.2.2 + 1) (lv' := [(3, .int (v25.2.2.2.2 + 1)), (0, .ref bh), (1, .int v25.2.2.1), (2, .int v25.2.2.2.1)]) hx hb dX2_goodFor_69 hl (k := 3) rfl rfl (by decide) rfl (fun ls hl => ?_)
          refine lv_goto (tgt := 25) hx hb dX2_goodFor_72 (by decide) ?_
          exact ih25 (r7, r5, v25.2.2.1, v25.2.2.2.1, v25.2.2.2.2 + 1) h _ _ hP hD hS _ (lv_sub hl [1, 2, 3, 0] rfl)
        · have h := it_n c6 h
          refine lv_iload_n hx hb dX2_goodFor_55 rfl (lv_at hl 3 rfl) ?_
          obtain rfl := oi h
          exact ret_i hx hb hr hlocks hP hK hD hS dX2_goodFor_56
  refine lv_iload_n hx hb dX2_goodFor_0 rfl (lv_at hl 1 rfl) ?_
  obtain ⟨r1, h1, h⟩ := tb_r h
  refine call_v (wc := ([] : va_W)) (wc' := ([] : va_W)) (ws' := (gBo bh bk bo ++ (gS t (bk 0) nb now ++ (gS t (bk 1) pb pr ++ (gE t (bk 2) eb ex))))) (cutB (bs := [gBo bh bk bo, gS t (bk 0) nb now, gS t (bk 1) pb pr, gE t (bk 2) eb ex]) (cs := []) (cs' := []) (bs' := [gBo bh bk bo, gS t (bk 0) nb now, gS t (bk 1) pb pr, gE t (bk 2) eb ex]) [] hP hD hS hA rfl rfl rfl rfl) hS (fun hPc hDc => va_runS (As := [.int v]) (rest := []) ⟨hx, hb, hml, hown, hts⟩ (mtX2_needSpeed l D t v r1 h1 _) (va_cwS 1 hts (gBS kw82 kw83 kw2 kw84) rfl rfl rfl (by decide +kernel) ⟨Nat.le_of_ble_eq_true rfl, Nat.le_of_ble_eq_true rfl⟩) (sPc_S hPc hK hDc hE) rfl rfl hl.1 rfl (lv_room (Nat.le_of_ble_eq_true rfl)) dX2_goodFor_1 ⟨Nat.zero_le _, Nat.zero_le _⟩) (fun H locs hP hD hS => ?_)
  refine lv_iload_n hx hb dX2_goodFor_4 rfl (lv_at hl 2 rfl) ?_
  refine lv_iconst (v := 0) hx hb dX2_goodFor_5 (by decide) ?_
  refine lv_sipush (v := 999) hx hb dX2_goodFor_6 (by decide) ?_
  obtain ⟨r2, h2, h⟩ := tb_r h
  refine call_v (wc := ([] : va_W)) (wc' := ([] : va_W)) (ws' := (gBo bh bk bo ++ (gS t (bk 0) nb now ++ (gS t (bk 1) pb pr ++ (gE t (bk 2) eb ex))))) (cutB (bs := [gBo bh bk bo, gS t (bk 0) nb now, gS t (bk 1) pb pr, gE t (bk 2) eb ex]) (cs := []) (cs' := []) (bs' := [gBo bh bk bo, gS t (bk 0) nb now, gS t (bk 1) pb pr, gE t (bk 2) eb ex]) [] hP hD hS hA rfl rfl rfl rfl) hS (fun hPc hDc => va_runS (As := [.int n, .int 0, .int 999]) (rest := []) ⟨hx, hb, hml, hown, hts⟩ (mtX2_needRange l D t n 0 999 r2 h2 _) (va_cwS 3 hts (gBS kw52 kw53 kw2 kw54) rfl rfl rfl (by decide +kernel) ⟨Nat.le_of_ble_eq_true rfl, Nat.le_of_ble_eq_true rfl⟩) (sPc_S hPc hK hDc hE) rfl rfl hl.1 rfl (lv_room (Nat.le_of_ble_eq_true rfl)) dX2_goodFor_9 ⟨Nat.zero_le _, Nat.zero_le _⟩) (fun H locs hP hD hS => ?_)
  refine lv_aload_n hx hb dX2_goodFor_12 rfl (lv_at hl 0 rfl) ?_
  refine va_get (D := D) (ci := 2) (v := .ref (bk 1)) (C := RX2) (T := TX2) (N := 8) hx hb htB inlX2 hown hK hP 0 rfl rfl 1 (by decide) (htB _ kw13) (fun _ h9 => h9) rfl dX2_goodFor_13 ?_
  refine lv_aload_n hx hb dX2_goodFor_16 rfl (lv_at hl 0 rfl) ?_
  refine va_get (D := D) (ci := 2) (v := .ref (bk 0)) (C := RX2) (T := TX2) (N := 8) hx hb htB inlX2 hown hK hP 0 rfl rfl 0 (by decide) (htB _ kw12) (fun _ h9 => h9) rfl dX2_goodFor_17 ?_
  obtain ⟨r3, h3, h⟩ := ob h
  refine call_v (wc := (gS t (bk 1) pb pr ++ (gS t (bk 0) nb now))) (wc' := (gS t (bk 1) pb r3 ++ (gS t (bk 0) nb now))) (ws' := (gBo bh bk bo ++ (gS t (bk 0) nb now ++ (gS t (bk 1) pb r3 ++ (gE t (bk 2) eb ex))))) (cutB (bs := [gBo bh bk bo, gS t (bk 0) nb now, gS t (bk 1) pb pr, gE t (bk 2) eb ex]) (cs := [gS t (bk 1) pb pr, gS t (bk 0) nb now]) (cs' := [gS t (bk 1) pb r3, gS t (bk 0) nb now]) (bs' := [gBo bh bk bo, gS t (bk 0) nb now, gS t (bk 1) pb r3, gE t (bk 2) eb ex]) [2, 1] hP hD hS hA rfl rfl rfl rfl) hS (fun hPc hDc => va_runV (As := [.ref (bk 0)]) (rest := []) ⟨hx, hb, hml, hown, hts⟩ (mtX1_become l D t (bk 1) pb pr (bk 0) nb now r3 h3 _) (cwV 1 hts (gBV kw90 kw91 kw92 kw11 kw93) rfl rfl rfl (by decide +kernel) ⟨Nat.le_of_ble_eq_true rfl, Nat.le_of_ble_eq_true rfl⟩) (sPc_V hPc hK hDc hE (va_recv hK hP (ci := 1) (q0 := 9) rfl rfl)) rfl rfl hl.1 rfl (lv_room (Nat.le_of_ble_eq_true rfl)) dX2_goodFor_20 ⟨Nat.zero_le _, Nat.zero_le _⟩) (fun H locs hP hD hS => ?_)
  refine lv_iconst (v := 0) hx hb dX2_goodFor_23 (by decide) ?_
  refine lv_istore_n (lv' := [(3, .int 0), (0, .ref bh), (1, .int v), (2, .int n)]) hx hb dX2_goodFor_24 rfl hl (by decide) rfl (fun ls hl => ?_)
  exact J25 2000 (r3, ex, v, n, 0) h _ _ hP hD hS _ (lv_sub hl [1, 2, 3, 0] rfl)

theorem dX2_evenness_0 : decode cX2_evenness 0 = .ok (.iload_n 1, 1) := by decide +kernel
theorem dX2_evenness_1 : decode cX2_evenness 1 = .ok (.invokestatic 73, 3) := by decide +kernel
theorem dX2_evenness_4 : decode cX2_evenness 4 = .ok (.aload_n 0, 1) := by decide +kernel
theorem dX2_evenness_5 : decode cX2_evenness 5 = .ok (.getfield 22, 3) := by decide +kernel
theorem dX2_evenness_8 : decode cX2_evenness 8 = .ok (.aload_n 0, 1) := by decide +kernel
theorem dX2_evenness_9 : decode cX2_evenness 9 = .ok (.getfield 10, 3) := by decide +kernel
theorem dX2_evenness_12 : decode cX2_evenness 12 = .ok (.iload_n 1, 1) := by decide +kernel
theorem dX2_evenness_13 : decode cX2_evenness 13 = .ok (.invokevirtual 143, 3) := by decide +kernel
theorem dX2_evenness_16 : decode cX2_evenness 16 = .ok (.aload_n 0, 1) := by decide +kernel
theorem dX2_evenness_17 : decode cX2_evenness 17 = .ok (.getfield 22, 3) := by decide +kernel
theorem dX2_evenness_20 : decode cX2_evenness 20 = .ok (.getfield 201, 3) := by decide +kernel
theorem dX2_evenness_23 : decode cX2_evenness 23 = .ok (.ifCond .gt 5, 3) := by decide +kernel
theorem dX2_evenness_26 : decode cX2_evenness 26 = .ok (.dconst 1, 1) := by decide +kernel
theorem dX2_evenness_27 : decode cX2_evenness 27 = .ok (.dreturn, 1) := by decide +kernel
theorem dX2_evenness_28 : decode cX2_evenness 28 = .ok (.aload_n 0, 1) := by decide +kernel
theorem dX2_evenness_29 : decode cX2_evenness 29 = .ok (.getfield 22, 3) := by decide +kernel
theorem dX2_evenness_32 : decode cX2_evenness 32 = .ok (.getfield 204, 3) := by decide +kernel
theorem dX2_evenness_35 : decode cX2_evenness 35 = .ok (.i2d, 1) := by decide +kernel
theorem dX2_evenness_36 : decode cX2_evenness 36 = .ok (.aload_n 0, 1) := by decide +kernel
theorem dX2_evenness_37 : decode cX2_evenness 37 = .ok (.getfield 22, 3) := by decide +kernel
theorem dX2_evenness_40 : decode cX2_evenness 40 = .ok (.getfield 201, 3) := by decide +kernel
theorem dX2_evenness_43 : decode cX2_evenness 43 = .ok (.i2d, 1) := by decide +kernel
theorem dX2_evenness_44 : decode cX2_evenness 44 = .ok (.ddiv, 1) := by decide +kernel
theorem dX2_evenness_45 : decode cX2_evenness 45 = .ok (.dreturn, 1) := by decide +kernel
abbrev zX2_evenness : List Cond := .code yX2_evenness cX2_evenness 2 (some .double) :: BIG
def fX2_evenness (bo : BoT) (now : ShT) (ex : ExT) (v : Int32) : Option (Nat ⊕ (UInt64 × ExT)) := tb (fX2_needSpeed v) (fun r1 => (fX0_expose ex now v).bind (fun r2 => (if 0 < r2.2.2.2.2.2.1 then gd (nn64 (FP.ddiv (FP.i2d r2.2.2.2.2.1) (FP.i2d r2.2.2.2.2.2.1))) (some (.inr (FP.ddiv (FP.i2d r2.2.2.2.2.1) (FP.i2d r2.2.2.2.2.2.1), r2))) else some (.inr (FP.dconst1, r2)))))
set_option maxHeartbeats 4000000 in
set_option maxRecDepth 100000 in
theorem mtX2_evenness (l : Launch) (D : va_G) (t : Nat → ClassId) (bh : Nat) (bk : Nat → Nat) (bo : BoT) (nb : Nat → Nat) (now : ShT) (eb : Nat → Nat) (ex : ExT) (v : Int32) (out : UInt64 × ExT) (h : fX2_evenness bo now ex v = some (.inr out))  (sz : Nat) : Met l yX2_evenness zX2_evenness ({ frames := 4, cells := 0, slots := 0, locals := 93 }) (sPc D t (gBo bh bk bo ++ (gS t (bk 0) nb now ++ (gE t (bk 2) eb ex))) sz [.ref bh, .int v]) (qD D t (gBo bh bk bo ++ (gS t (bk 0) nb now ++ (gE t (bk 2) eb out.2))) out.1 (va_A (gBo bh bk bo ++ (gS t (bk 0) nb now ++ (gE t (bk 2) eb ex))) sz)) 0 0 (va_A (gBo bh bk bo ++ (gS t (bk 0) nb now ++ (gE t (bk 2) eb ex))) sz) := by
  refine met_of (Qf := fun A => qD D t (gBo bh bk bo ++ (gS t (bk 0) nb now ++ (gE t (bk 2) eb out.2))) out.1 A) (cc := cX2_evenness) (maxL := 2) (ret := some .double) (by decide) rfl (Nat.le_of_ble_eq_true rfl) ?_
  intro p e s m args below meth c A hx hb hr hml hts hown hlocks hA hP hK hD hE hS ls hl
  have htB : ∀ w ∈ BIG, w.before args s = true := fun w h => hts w (List.mem_cons_of_mem _ h)
  have hown : s.vm.findClass RX2 = some m.cls := hown
  have hl : lv_has ls 2 [(0, .ref bh), (1, .int v)] := hl
  unfold fX2_evenness at h
  refine lv_iload_n hx hb dX2_evenness_0 rfl (lv_at hl 1 rfl) ?_
  obtain ⟨r1, h1, h⟩ := tb_r h
  refine call_v (wc := ([] : va_W)) (wc' := ([] : va_W)) (ws' := (gBo bh bk bo ++ (gS t (bk 0) nb now ++ (gE t (bk 2) eb ex)))) (cutB (bs := [gBo bh bk bo, gS t (bk 0) nb now, gE t (bk 2) eb ex]) (cs := []) (cs' := []) (bs' := [gBo bh bk bo, gS t (bk 0) nb now, gE t (bk 2) eb ex]) [] hP hD hS hA rfl rfl rfl rfl) hS (fun hPc hDc => va_runS (As := [.int v]) (rest := []) ⟨hx, hb, hml, hown, hts⟩ (mtX2_needSpeed l D t v r1 h1 _) (va_cwS 1 hts (gBS kw82 kw83 kw2 kw84) rfl rfl rfl (by decide +kernel) ⟨Nat.le_of_ble_eq_true rfl, Nat.le_of_ble_eq_true rfl⟩) (sPc_S hPc hK hDc hE) rfl rfl hl.1 rfl (lv_room (Nat.le_of_ble_eq_true rfl)) dX2_evenness_1 ⟨Nat.zero_le _, Nat.zero_le _⟩) (fun H locs hP hD hS => ?_)
  refine lv_aload_n hx hb dX2_evenness_4 rfl (lv_at hl 0 rfl) ?_
  refine va_get (D := D) (ci := 2) (v := .ref (bk 2)) (C := RX2) (T := TX2) (N := 8) hx hb htB inlX2 hown hK hP 0 rfl rfl 2 (by decide) (htB _ kw17) (fun _ h9 => h9) rfl dX2_evenness_5 ?_
  refine lv_aload_n hx hb dX2_evenness_8 rfl (lv_at hl 0 rfl) ?_
  refine va_get (D := D) (ci := 2) (v := .ref (bk 0)) (C := RX2) (T := TX2) (N := 8) hx hb htB inlX2 hown hK hP 0 rfl rfl 0 (by decide) (htB _ kw12) (fun _ h9 => h9) rfl dX2_evenness_9 ?_
  refine lv_iload_n hx hb dX2_evenness_12 rfl (lv_at hl 1 rfl) ?_
  obtain ⟨r2, h2, h⟩ := ob h
  refine call_v (wc := (gE t (bk 2) eb ex ++ (gS t (bk 0) nb now))) (wc' := (gE t (bk 2) eb r2 ++ (gS t (bk 0) nb now))) (ws' := (gBo bh bk bo ++ (gS t (bk 0) nb now ++ (gE t (bk 2) eb r2)))) (cutB (bs := [gBo bh bk bo, gS t (bk 0) nb now, gE t (bk 2) eb ex]) (cs := [gE t (bk 2) eb ex, gS t (bk 0) nb now]) (cs' := [gE t (bk 2) eb r2, gS t (bk 0) nb now]) (bs' := [gBo bh bk bo, gS t (bk 0) nb now, gE t (bk 2) eb r2]) [2, 1] hP hD hS hA rfl rfl rfl rfl) hS (fun hPc hDc => va_runV (As := [.ref (bk 0), .int v]) (rest := []) ⟨hx, hb, hml, hown, hts⟩ (mtX0_expose l D t (bk 2) eb ex (bk 0) nb now v r2 h2 _) (cwV 2 hts (gBV kw100 kw101 kw102 kw16 kw103) rfl rfl rfl (by decide +kernel) ⟨Nat.le_of_ble_eq_true rfl, Nat.le_of_ble_eq_true rfl⟩) (sPc_V hPc hK hDc hE (va_recv hK hP (ci := 0) (q0 := 9) rfl rfl)) rfl rfl hl.1 rfl (lv_room (Nat.le_of_ble_eq_true rfl)) dX2_evenness_13 ⟨Nat.zero_le _, Nat.zero_le _⟩) (fun H locs hP hD hS => ?_)
  refine lv_aload_n hx hb dX2_evenness_16 rfl (lv_at hl 0 rfl) ?_
  refine va_get (D := D) (ci := 2) (v := .ref (bk 2)) (C := RX2) (T := TX2) (N := 8) hx hb htB inlX2 hown hK hP 0 rfl rfl 2 (by decide) (htB _ kw17) (fun _ h9 => h9) rfl dX2_evenness_17 ?_
  refine va_get (D := D) (ci := 0) (v := .int r2.2.2.2.2.2.1) (C := RX0) (T := TX0) (N := 10) hx hb htB inlX0 hown hK hP 9 rfl rfl 5 (by decide) (htB _ kw275) (fun _ h9 => h9) rfl dX2_evenness_20 ?_
  refine lv_if_gt (tgt := 28) hx hb dX2_evenness_23 (by decide) (fun c3 => ?_) (fun c3 => ?_)
  · have h := it_p c3 h
    refine lv_aload_n hx hb dX2_evenness_28 rfl (lv_at hl 0 rfl) ?_
    refine va_get (D := D) (ci := 2) (v := .ref (bk 2)) (C := RX2) (T := TX2) (N := 8) hx hb htB inlX2 hown hK hP 0 rfl rfl 2 (by decide) (htB _ kw17) (fun _ h9 => h9) rfl dX2_evenness_29 ?_
    refine va_get (D := D) (ci := 0) (v := .int r2.2.2.2.2.1) (C := RX0) (T := TX0) (N := 10) hx hb htB inlX0 hown hK hP 9 rfl rfl 4 (by decide) (htB _ kw276) (fun _ h9 => h9) rfl dX2_evenness_32 ?_
    refine lv_i2d hx hb dX2_evenness_35 ?_
    refine lv_aload_n hx hb dX2_evenness_36 rfl (lv_at hl 0 rfl) ?_
    refine va_get (D := D) (ci := 2) (v := .ref (bk 2)) (C := RX2) (T := TX2) (N := 8) hx hb htB inlX2 hown hK hP 0 rfl rfl 2 (by decide) (htB _ kw17) (fun _ h9 => h9) rfl dX2_evenness_37 ?_
    refine va_get (D := D) (ci := 0) (v := .int r2.2.2.2.2.2.1) (C := RX0) (T := TX0) (N := 10) hx hb htB inlX0 hown hK hP 9 rfl rfl 5 (by decide) (htB _ kw275) (fun _ h9 => h9) rfl dX2_evenness_40 ?_
    refine lv_i2d hx hb dX2_evenness_43 ?_
    obtain ⟨g4, h⟩ := og h
    refine lv_ddiv hx hb dX2_evenness_44 (nn_n64 g4) ?_
    obtain rfl := oi h
    exact ret_d hx hb hr hlocks hP hK hD hS dX2_evenness_45
  · have h := it_n c3 h
    refine lv_dconst1 hx hb dX2_evenness_26 ?_
    obtain rfl := oi h
    exact ret_d hx hb hr hlocks hP hK hD hS dX2_evenness_27
end
section
theorem xthrown {s : State} {D : va_G} {t : Nat → ClassId} {A : Nat → Prop} {ws : va_W} {E : Nat} {H : Heap} {locs : List Loc} (hP : va_P D vwCl ws H) (hK : va_K D vwCl (TY t) s) (hD : va_D A ws) (hS : va_S A s.heap H locs) :
    ∀ t9 : State, s.vm.Alike t9.vm → H.size ≤ t9.heap.size → (∀ q : Nat, q < H.size → t9.heap[q]? = H[q]?) → xC D t ws E A (xname E) s t9 := fun t9 h8 h7 h6 =>
  ⟨(), trivial, ⟨rfl, fun k q hq => (hP k q hq).kept (h6 q.1 (hP k q hq).lt), va_K.moved h8 hK, hD⟩, Nat.le_trans hS.1 h7, fun q h1 h2 => by rw [h6 q (Nat.lt_of_lt_of_le h1 hS.1)]; exact hS.2.1 q h1 h2⟩
end
section
theorem dX2_undo_11 : decode cX2_undo 11 = .ok (.dup, 1) := by decide +kernel
theorem dX2_undo_12 : decode cX2_undo 12 = .ok (.ldc 123, 2) := by decide +kernel
theorem dX2_undo_14 : decode cX2_undo 14 = .ok (.invokespecial 104, 3) := by decide +kernel
theorem dX2_undo_17 : decode cX2_undo 17 = .ok (.athrow, 1) := by decide +kernel
set_option maxHeartbeats 4000000 in
set_option maxRecDepth 100000 in
theorem xmX2_undo (l : Launch) (hfl : l.stackTraces = false) (D : va_G) (t : Nat → ClassId) (bh : Nat) (bk : Nat → Nat) (bo : BoT) (nb : Nat → Nat) (now : ShT) (sa : Nat → Nat) (sb : Nat → Nat → Nat) (sv : (Nat → ShT)) (E : Nat) (h : fX2_undo bo now sv = some (.inl E)) (sz : Nat) : vx_Met l yX2_undo zX2_undo ({ frames := 6, cells := 1, slots := 6, locals := 82 }) (xPc D t (gBo bh bk bo ++ (gS t (bk 0) nb now ++ (gQ t (bk 3) sa ++ (g6 t sa sb sv)))) sz [.ref bh]) (qX (va_A (gBo bh bk bo ++ (gS t (bk 0) nb now ++ (gQ t (bk 3) sa ++ (g6 t sa sb sv)))) sz)) (xC D t (gBo bh bk bo ++ (gS t (bk 0) nb now ++ (gQ t (bk 3) sa ++ (g6 t sa sb sv)))) E (va_A (gBo bh bk bo ++ (gS t (bk 0) nb now ++ (gQ t (bk 3) sa ++ (g6 t sa sb sv)))) sz)) 1 6 (va_A (gBo bh bk bo ++ (gS t (bk 0) nb now ++ (gQ t (bk 3) sa ++ (g6 t sa sb sv)))) sz) := by
  refine met_ofX (cc := cX2_undo) (maxL := 2) (ret := some .int) (by decide) rfl (Nat.le_of_ble_eq_true rfl) ?_
  intro p e s m args below meth c A hx hb hr hml hts hown hlocks hA hP hK hD hE hS hX hT ls hl
  have htB : ∀ w ∈ BIG, w.before args s = true := fun w h => hts w (List.mem_cons_of_mem _ h)
  have hown : s.vm.findClass RX2 = some m.cls := hown
  have hl : lv_has ls 2 [(0, .ref bh)] := hl
  unfold fX2_undo at h
  have J36 : ∀ v36 : BoT × ShT × Int32, fX2_undo_j36 sv v36 = some (.inl E) → ∀ (H : Heap) (locs : List Loc), va_P D vwCl (gBo bh bk v36.1 ++ (gS t (bk 0) nb v36.2.1 ++ (gQ t (bk 3) sa ++ (g6 t sa sb sv)))) H → va_D A (gBo bh bk v36.1 ++ (gS t (bk 0) nb v36.2.1 ++ (gQ t (bk 3) sa ++ (g6 t sa sb sv)))) → va_S A s.heap H locs → ∀ ls : Array Slot, lv_has ls 2 [(0, .ref bh)] → W p l e ({ frames := 6, cells := 1, slots := 6, locals := 82 }) s m args below meth c H locs 0 0 (vx_MQ below (qX A) (xC D t (gBo bh bk bo ++ (gS t (bk 0) nb now ++ (gQ t (bk 3) sa ++ (g6 t sa sb sv)))) E A) args s 1 6 A) (F0 m 36 ls [.int v36.2.2, .ref bh]) := by
    intro v36 h H locs hP hD hS ls hl
    unfold fX2_undo_j36 at h
    refine va_put (D := D) (ci := 2) (v := .int v36.2.2) (ty := .int) (C := RX2) (T := TX2) (N := 8) hx hb htB inlX2 tyX2 tyX2_ok nmX2 hown hK hP hD hS 0 rfl rfl 5 (by decide) (htB _ kw20) (fun _ h9 => h9) rfl (by decide +kernel) rfl rfl (Nat.le_of_ble_eq_true rfl) dX2_undo_36 (fun H locs hP hD hS => ?_)
    have hP : va_P D vwCl (gBo bh bk (v36.1.1, v36.2.2, v36.1.2.2) ++ (gS t (bk 0) nb v36.2.1 ++ (gQ t (bk 3) sa ++ (g6 t sa sb sv)))) H := hP
    have hD : va_D A (gBo bh bk (v36.1.1, v36.2.2, v36.1.2.2) ++ (gS t (bk 0) nb v36.2.1 ++ (gQ t (bk 3) sa ++ (g6 t sa sb sv)))) := hD
    refine lv_aload_n hx hb dX2_undo_39 rfl (lv_at hl 0 rfl) ?_
    refine lv_dup hx hb dX2_undo_40 rfl ?_
    refine va_get (D := D) (ci := 2) (v := .int v36.1.1) (C := RX2) (T := TX2) (N := 8) hx hb htB inlX2 hown hK hP 0 rfl rfl 4 (by decide) (htB _ kw19) (fun _ h9 => h9) rfl dX2_undo_41 ?_
    refine lv_iconst (v := 1) hx hb dX2_undo_44 (by decide) ?_
    refine lv_isub hx hb dX2_undo_45 ?_
    refine va_put (D := D) (ci := 2) (v := .int (v36.1.1 - 1)) (ty := .int) (C := RX2) (T := TX2) (N := 8) hx hb htB inlX2 tyX2 tyX2_ok nmX2 hown hK hP hD hS 0 rfl rfl 4 (by decide) (htB _ kw19) (fun _ h9 => h9) rfl (by decide +kernel) rfl rfl (Nat.le_of_ble_eq_true rfl) dX2_undo_46 (fun H locs hP hD hS => ?_)
    have hP : va_P D vwCl (gBo bh bk ((v36.1.1 - 1), v36.2.2, v36.1.2.2) ++ (gS t (bk 0) nb v36.2.1 ++ (gQ t (bk 3) sa ++ (g6 t sa sb sv)))) H := hP
    have hD : va_D A (gBo bh bk ((v36.1.1 - 1), v36.2.2, v36.1.2.2) ++ (gS t (bk 0) nb v36.2.1 ++ (gQ t (bk 3) sa ++ (g6 t sa sb sv)))) := hD
    refine lv_aload_n hx hb dX2_undo_49 rfl (lv_at hl 0 rfl) ?_
    refine lv_aload_n hx hb dX2_undo_50 rfl (lv_at hl 0 rfl) ?_
    refine va_get (D := D) (ci := 2) (v := .int v36.2.2) (C := RX2) (T := TX2) (N := 8) hx hb htB inlX2 hown hK hP 0 rfl rfl 5 (by decide) (htB _ kw20) (fun _ h9 => h9) rfl dX2_undo_51 ?_
    obtain ⟨r3, h3, h⟩ := ob h
    refine call_r (v := sa (Int32.toNatClampNeg v36.2.2)) (wc := (gBo bh bk ((v36.1.1 - 1), v36.2.2, v36.1.2.2) ++ (gQ t (bk 3) sa))) (wc' := (gBo bh bk ((v36.1.1 - 1), v36.2.2, v36.1.2.2) ++ (gQ t (bk 3) sa))) (ws' := (gBo bh bk ((v36.1.1 - 1), v36.2.2, v36.1.2.2) ++ (gS t (bk 0) nb v36.2.1 ++ (gQ t (bk 3) sa ++ (g6 t sa sb sv))))) (cutB (bs := [gBo bh bk ((v36.1.1 - 1), v36.2.2, v36.1.2.2), gS t (bk 0) nb v36.2.1, gQ t (bk 3) sa, g6 t sa sb sv]) (cs := [gBo bh bk ((v36.1.1 - 1), v36.2.2, v36.1.2.2), gQ t (bk 3) sa]) (cs' := [gBo bh bk ((v36.1.1 - 1), v36.2.2, v36.1.2.2), gQ t (bk 3) sa]) (bs' := [gBo bh bk ((v36.1.1 - 1), v36.2.2, v36.1.2.2), gS t (bk 0) nb v36.2.1, gQ t (bk 3) sa, g6 t sa sb sv]) [0, 2] hP hD hS hA rfl rfl rfl rfl) hS (fun hPc hDc => va_runV (As := [.int v36.2.2]) (rest := []) ⟨hx, hb, hml, hown, hts⟩ (mtX2_savedAt l D t bh bk ((v36.1.1 - 1), v36.2.2, v36.1.2.2) sa v36.2.2 r3 h3 _) (cwV 1 hts (gBV kw206 kw207 kw208 kw2 kw209) rfl rfl rfl (by decide +kernel) ⟨Nat.le_of_ble_eq_true rfl, Nat.le_of_ble_eq_true rfl⟩) (sPc_V hPc hK hDc hE (va_recv hK hP (ci := 2) (q0 := 0) rfl rfl)) rfl rfl hl.1 rfl (lv_room (Nat.le_of_ble_eq_true rfl)) dX2_undo_54 ⟨Nat.zero_le _, Nat.zero_le _⟩) (fun H locs hP hD hS => ?_)
    have hj6 := pin6 (sv_pin h3)
    refine lv_astore_n (lv' := [(1, .ref (sa (Int32.toNatClampNeg v36.2.2))), (0, .ref bh)]) hx hb dX2_undo_57 rfl hl (by decide) rfl (fun ls hl => ?_)
    refine lv_aload_n hx hb dX2_undo_58 rfl (lv_at hl 0 rfl) ?_
    refine lv_ifnull hx hb dX2_undo_59 ?_
    refine lv_aload_n hx hb dX2_undo_62 rfl (lv_at hl 1 rfl) ?_
    refine va_get (D := D) (ci := 2) (v := .ref (bk 0)) (C := RX2) (T := TX2) (N := 8) hx hb htB inlX2 hown hK hP 0 rfl rfl 0 (by decide) (htB _ kw12) (fun _ h9 => h9) rfl dX2_undo_63 ?_
    refine lv_aload_n hx hb dX2_undo_66 rfl (lv_at hl 0 rfl) ?_
    obtain ⟨r4, h4, h⟩ := ob h
    refine call_v (wc := (gS t (bk 0) nb v36.2.1 ++ (gS t (sa (Int32.toNatClampNeg v36.2.2)) (sb (Int32.toNatClampNeg v36.2.2)) (sv (Int32.toNatClampNeg v36.2.2))))) (wc' := (gS t (bk 0) nb r4 ++ (gS t (sa (Int32.toNatClampNeg v36.2.2)) (sb (Int32.toNatClampNeg v36.2.2)) (sv (Int32.toNatClampNeg v36.2.2))))) (ws' := (gBo bh bk ((v36.1.1 - 1), v36.2.2, v36.1.2.2) ++ (gS t (bk 0) nb r4 ++ (gQ t (bk 3) sa ++ (g6 t sa sb sv))))) (cutB (bs := [gBo bh bk ((v36.1.1 - 1), v36.2.2, v36.1.2.2), gS t (bk 0) nb v36.2.1, gQ t (bk 3) sa, gS t (sa 0) (sb 0) (sv 0), gS t (sa 1) (sb 1) (sv 1), gS t (sa 2) (sb 2) (sv 2), gS t (sa 3) (sb 3) (sv 3), gS t (sa 4) (sb 4) (sv 4), gS t (sa 5) (sb 5) (sv 5)]) (cs := [gS t (bk 0) nb v36.2.1, gS t (sa (Int32.toNatClampNeg v36.2.2)) (sb (Int32.toNatClampNeg v36.2.2)) (sv (Int32.toNatClampNeg v36.2.2))]) (cs' := [gS t (bk 0) nb r4, gS t (sa (Int32.toNatClampNeg v36.2.2)) (sb (Int32.toNatClampNeg v36.2.2)) (sv (Int32.toNatClampNeg v36.2.2))]) (bs' := [gBo bh bk ((v36.1.1 - 1), v36.2.2, v36.1.2.2), gS t (bk 0) nb r4, gQ t (bk 3) sa, gS t (sa 0) (sb 0) (sv 0), gS t (sa 1) (sb 1) (sv 1), gS t (sa 2) (sb 2) (sv 2), gS t (sa 3) (sb 3) (sv 3), gS t (sa 4) (sb 4) (sv 4), gS t (sa 5) (sb 5) (sv 5)]) [1, 3 + (Int32.toNatClampNeg v36.2.2)] hP hD hS hA (by rcases hj6 with e9 | e9 | e9 | e9 | e9 | e9 <;> rw [e9] <;> rfl) (by rcases hj6 with e9 | e9 | e9 | e9 | e9 | e9 <;> rw [e9] <;> rfl) (by rcases hj6 with e9 | e9 | e9 | e9 | e9 | e9 <;> rw [e9] <;> rfl) rfl) hS (fun hPc hDc => va_runV (As := [.ref (sa (Int32.toNatClampNeg v36.2.2))]) (rest := []) ⟨hx, hb, hml, hown, hts⟩ (mtX1_become l D t (bk 0) nb v36.2.1 (sa (Int32.toNatClampNeg v36.2.2)) (sb (Int32.toNatClampNeg v36.2.2)) (sv (Int32.toNatClampNeg v36.2.2)) r4 h4 _) (cwV 1 hts (gBV kw90 kw91 kw92 kw11 kw93) rfl rfl rfl (by decide +kernel) ⟨Nat.le_of_ble_eq_true rfl, Nat.le_of_ble_eq_true rfl⟩) (sPc_V hPc hK hDc hE (va_recv hK hP (ci := 1) (q0 := 1) rfl rfl)) rfl rfl hl.1 rfl (lv_room (Nat.le_of_ble_eq_true rfl)) dX2_undo_67 ⟨Nat.zero_le _, Nat.zero_le _⟩) (fun H locs hP hD hS => ?_)
    refine lv_aload_n hx hb dX2_undo_70 rfl (lv_at hl 1 rfl) ?_
    refine va_get (D := D) (ci := 2) (v := .int (v36.1.1 - 1)) (C := RX2) (T := TX2) (N := 8) hx hb htB inlX2 hown hK hP 0 rfl rfl 4 (by decide) (htB _ kw19) (fun _ h9 => h9) rfl dX2_undo_71 ?_
    cases h
  refine lv_aload_n hx hb dX2_undo_0 rfl (lv_at hl 0 rfl) ?_
  refine va_get (D := D) (ci := 2) (v := .int bo.1) (C := RX2) (T := TX2) (N := 8) hx hb htB inlX2 hown hK hP 0 rfl rfl 4 (by decide) (htB _ kw19) (fun _ h9 => h9) rfl dX2_undo_1 ?_
  refine lv_iconst (v := 1) hx hb dX2_undo_4 (by decide) ?_
  refine lv_icmp_ge (tgt := 18) hx hb dX2_undo_5 (by decide) (fun c1 => ?_) (fun c1 => ?_)
  · have h := it_p c1 h
    refine lv_aload_n hx hb dX2_undo_18 rfl (lv_at hl 0 rfl) ?_
    refine lv_aload_n hx hb dX2_undo_19 rfl (lv_at hl 0 rfl) ?_
    refine va_get (D := D) (ci := 2) (v := .int bo.2.1) (C := RX2) (T := TX2) (N := 8) hx hb htB inlX2 hown hK hP 0 rfl rfl 5 (by decide) (htB _ kw20) (fun _ h9 => h9) rfl dX2_undo_20 ?_
    refine lv_if_le (tgt := 35) hx hb dX2_undo_23 (by decide) (fun c2 => ?_) (fun c2 => ?_)
    · have h := it_p c2 h
      refine lv_iconst (v := 5) hx hb dX2_undo_35 (by decide) ?_
      exact J36 (bo, now, 5) h _ _ hP hD hS _ (lv_sub hl [0] rfl)
    · have h := it_n c2 h
      refine lv_aload_n hx hb dX2_undo_26 rfl (lv_at hl 0 rfl) ?_
      refine va_get (D := D) (ci := 2) (v := .int bo.2.1) (C := RX2) (T := TX2) (N := 8) hx hb htB inlX2 hown hK hP 0 rfl rfl 5 (by decide) (htB _ kw20) (fun _ h9 => h9) rfl dX2_undo_27 ?_
      refine lv_iconst (v := 1) hx hb dX2_undo_30 (by decide) ?_
      refine lv_isub hx hb dX2_undo_31 ?_
      refine lv_goto (tgt := 36) hx hb dX2_undo_32 (by decide) ?_
      exact J36 (bo, now, bo.2.1 - 1) h _ _ hP hD hS _ (lv_sub hl [0] rfl)
  · have h := it_n c1 h
    obtain rfl : 2 = E := Sum.inl.inj (Option.some.inj h)
    obtain ⟨sa9, hsa⟩ := hX.2.1
    exact vx_throwS hx hb hfl (own := RX2) (cls := xname 2) (text := "no state is saved") (names := xnames) hown (by decide +kernel) (by decide +kernel) (htB _ kw250) (htB _ kw251) hsa (xhat2 htB hX.2.2) xgood2 hX.1.1 hX.1.2 hS (hl.1.trans hml.symm) dX2_undo_8 dX2_undo_11 dX2_undo_12 dX2_undo_14 dX2_undo_17 (fun x hx => hT x hx _) (Nat.le_of_ble_eq_true rfl) (Nat.le_of_ble_eq_true rfl) (Nat.le_of_ble_eq_true rfl) (Nat.le_of_ble_eq_true rfl) hlocks (xthrown hP hK hD hS) hS.2.2 (Nat.le_of_ble_eq_true rfl) (Nat.le_of_ble_eq_true rfl)
end
section
/-! constructors -/
abbrev iniS : ShT := ((upd (upd (fun _ => 0) (Int32.toNatClampNeg 0) 50) (Int32.toNatClampNeg 1) 50), (fun _ => 0), (fun _ => 0), (fun _ => 0), (fun _ => 0), (upd (upd (upd (upd (fun _ => 0) (Int32.toNatClampNeg 0) 1) (Int32.toNatClampNeg 1) 60) (Int32.toNatClampNeg 2) 30) (Int32.toNatClampNeg 3) 20), (fun _ => 0), 0, 0, 0)
abbrev iniE : ExT := ((fun _ => 0), (fun _ => 0), (fun _ => 0), 0, 0, 0, 0, 0, 0, 0)
abbrev iniMo : MoT := (0, 0, 0, 0, 0, 0)
abbrev iniN : Nat → Int32 := (upd (upd (upd (upd (upd (upd (fun _ => 0) (Int32.toNatClampNeg 0) 1) (Int32.toNatClampNeg 1) 60) (Int32.toNatClampNeg 2) 30) (Int32.toNatClampNeg 3) 20) (Int32.toNatClampNeg 4) 50) (Int32.toNatClampNeg 5) 50)
theorem k_int {D : va_G} {cl : List vw_C} {t : Nat → ClassId} {cA : ClassId} {s : State} (h : va_K D cl (TY t ++ [(cA, .int)]) s) : t 0 = cA := by
  have h1 := va_nm_int (h.2 0 (t 0, .int) rfl).2
  have h2 := va_nm_int (h.2 2 (cA, .int) rfl).2
  exact Option.some.inj (h1.symm.trans h2)
theorem k_obj {D : va_G} {cl : List vw_C} {t : Nat → ClassId} {cA : ClassId} {s : State} (h : va_K D cl (TY t ++ [(cA, .object RX1)]) s) : t 1 = cA := by
  obtain ⟨_, _, -, -, -, h1⟩ := (h.2 1 (t 1, .object RX1) rfl).2
  obtain ⟨_, _, -, -, -, h2⟩ := (h.2 2 (cA, .object RX1) rfl).2
  exact Option.some.inj (h1.symm.trans h2)
theorem met_ofC {l : Launch} {y : MethodName} {ws ws' : List Cond} {rm : Room} {D : va_G} {t : Nat → ClassId} {ww : va_W} {sz mc ms : Nat} {av : List Value} {Qf : (Nat → Prop) → Array Value → State → Outcome → State → Prop} {cc : ByteArray} {maxL : Nat} {ret : Option FieldType}
    (hy : plainName y.cls = true) (hn2 : y.name = "<init>") (hw : ws = Cond.code y cc maxL ret :: ws') (hn : (lg_sl av).length ≤ maxL)
    (body : ∀ (p : Program) (e : Env) (s : State) (m : MethodId) (args : Array Value) (below : List Frame) (meth : Method) (c : Code) (A : Nat → Prop), p.tables.exec = Jvm.exec → c.code = cc → meth.sig.returnType = ret → c.maxLocals = maxL → (∀ w ∈ ws, w.before args s = true) → s.vm.findClass y.cls = some m.cls → meth.locks = false → meth.name = "<init>" →
      (∀ q, s.heap.size ≤ q → A q) → va_P D vwCl ww s.heap → va_K D vwCl (TY t) s → va_D A ww → xE s → va_S A s.heap s.heap [] → ∀ ls : Array Slot, lv_has ls maxL (lv_args 0 av) →
      W p l e rm s m args below meth c s.heap [] 0 0 (MQ below (Qf A) args s mc ms A) (F0 m 0 ls [])) : Met l y ws rm (sPc D t ww sz av) (Qf (va_A ww sz)) mc ms (va_A ww sz) := by
  refine Met.ofW (cc := cc) (maxL := maxL) (ret := ret) hy hw ?_
  intro p e s m args below meth c s₁ B hml hv
  obtain ⟨rfl, hsz, hP, hK, hD0, hE⟩ := hv
  subst hsz
  rw [lg_entry_eq]
  exact body p e s m _ below meth c (va_A ww s.heap.size) B.exec B.bytes B.returns hml (atoms_spec (ws := ws) B.pre) (findClass_of_methodNamed B.named) B.notSynchronized ((name_of_methodNamed B.named B.method).1.trans hn2) (fun q h => Or.inr h) hP hK hD0.self hE va_S.rf _ (lv_entry av hn)
def sPcO (D : va_G) (t : Nat → ClassId) (ws : va_W) (sz : Nat) (av : List Value) : Array Value → State → Prop := fun v U => sPc D t ws sz av v U ∧ va_AO RX1 U
theorem sPcO_S {D : va_G} {t : Nat → ClassId} {ws : va_W} {av : List Value} {s : State} {H : Heap} {A : Nat → Prop} (hP : va_P D vwCl ws H) (hK : va_K D vwCl (TY t) s) (hD : va_D A ws) (hE : xE s) (hO : va_AO RX1 s) : PreS s H (sPcO D t ws H.size av) av :=
  ⟨fun a U g mk h => ⟨sPc_blind a U g mk h.1, va_AO.moved (u := U) (U := U.calling g mk a) (Vm.Alike.refl U.vm) h.2⟩, fun U hU hW => ⟨(sPc_S hP hK hD hE).2 U hU hW, va_AO.moved hW.alike hO⟩⟩
theorem met_ofO {l : Launch} {y : MethodName} {ws ws' : List Cond} {rm : Room} {D : va_G} {t : Nat → ClassId} {ww : va_W} {sz mc ms : Nat} {av : List Value} {Qf : (Nat → Prop) → Array Value → State → Outcome → State → Prop} {cc : ByteArray} {maxL : Nat} {ret : Option FieldType}
    (hy : plainName y.cls = true) (hn2 : y.name = "<init>") (hw : ws = Cond.code y cc maxL ret :: ws') (hn : (lg_sl av).length ≤ maxL)
    (body : ∀ (p : Program) (e : Env) (s : State) (m : MethodId) (args : Array Value) (below : List Frame) (meth : Method) (c : Code) (A : Nat → Prop), p.tables.exec = Jvm.exec → c.code = cc → meth.sig.returnType = ret → c.maxLocals = maxL → (∀ w ∈ ws, w.before args s = true) → s.vm.findClass y.cls = some m.cls → meth.locks = false → meth.name = "<init>" →
      (∀ q, s.heap.size ≤ q → A q) → va_P D vwCl ww s.heap → va_K D vwCl (TY t) s → va_D A ww → xE s → va_S A s.heap s.heap [] → va_AO RX1 s → ∀ ls : Array Slot, lv_has ls maxL (lv_args 0 av) →
      W p l e rm s m args below meth c s.heap [] 0 0 (MQ below (Qf A) args s mc ms A) (F0 m 0 ls [])) : Met l y ws rm (sPcO D t ww sz av) (Qf (va_A ww sz)) mc ms (va_A ww sz) := by
  refine Met.ofW (cc := cc) (maxL := maxL) (ret := ret) hy hw ?_
  intro p e s m args below meth c s₁ B hml hv
  obtain ⟨⟨rfl, hsz, hP, hK, hD0, hE⟩, hO⟩ := hv
  subst hsz
  rw [lg_entry_eq]
  exact body p e s m _ below meth c (va_A ww s.heap.size) B.exec B.bytes B.returns hml (atoms_spec (ws := ws) B.pre) (findClass_of_methodNamed B.named) B.notSynchronized ((name_of_methodNamed B.named B.method).1.trans hn2) (fun q h => Or.inr h) hP hK hD0.self hE va_S.rf hO _ (lv_entry av hn)
/-- a row of six references, told by a list of addresses -/
theorem q6_cell (cA : ClassId) (f g : Nat → Option Nat) (h : ∀ j, j < 6 → f j = g j) : vp_cell cA (6, .inr (.inr (.inr (.inr f)))) = vp_cell cA (6, .inr (.inr (.inr (.inr g)))) := by
  rw [vp_cell_q, vp_cell_q]
  unfold arrV
  congr 1
  apply Array.ext
  · simp
  · intro i h1 h2
    simp only [Array.size_ofFn] at h1
    simp [h i h1]
theorem va_P.q6 {D : va_G} {ws : va_W} {H : Heap} (hP : va_P D vwCl ws H) {a : Nat} {cA : ClassId} {f : Nat → Option Nat} {sa : Nat → Nat} (k : Nat) (hk : ws[k]? = some (a, .inl (cA, 6, .inr (.inr (.inr (.inr f)))))) (hl : (6 : Nat) = 6) (h0 : f 0 = some (sa 0)) (h1 : f 1 = some (sa 1)) (h2 : f 2 = some (sa 2)) (h3 : f 3 = some (sa 3)) (h4 : f 4 = some (sa 4)) (h5 : f 5 = some (sa 5)) {ws' : va_W} (hw : ws.set k (a, .inl (cA, 6, .inr (.inr (.inr (.inr (fun i => some (sa i))))))) = ws') : va_P D vwCl ws' H := by
  subst hw
  intro j q hq
  rw [List.getElem?_set] at hq
  split at hq
  · next e =>
    subst e
    split at hq
    · cases hq
      have h := hP k _ hk
      show H[a]? = some (vp_cell _ _)
      rw [← q6_cell cA f (fun i => some (sa i)) (fun j hj => by
        rcases (show j = 0 ∨ j = 1 ∨ j = 2 ∨ j = 3 ∨ j = 4 ∨ j = 5 by omega) with rfl | rfl | rfl | rfl | rfl | rfl <;> assumption)]
      exact h
    · cases hq
  · exact hP j q hq
theorem va_D.q6 {A : Nat → Prop} {ws : va_W} (hD : va_D A ws) {a : Nat} {cA : ClassId} {f : Nat → Option Nat} {sa : Nat → Nat} (k : Nat) (hk : ws[k]? = some (a, .inl (cA, 6, .inr (.inr (.inr (.inr f)))))) {ws' : va_W} (hw : ws.set k (a, .inl (cA, 6, .inr (.inr (.inr (.inr (fun i => some (sa i))))))) = ws') : va_D A ws' := by
  subst hw
  refine hD.fst ?_
  rw [List.map_set]
  apply List.ext_getElem?
  intro j
  rw [List.getElem?_set]
  split
  · next e => subst e; rw [List.getElem?_map, hk]; simp [(List.getElem?_eq_some_iff.mp hk).1]
  · rfl

abbrev zX1_init : List Cond := .code yX1_init cX1_init 1 none :: BIG
theorem dX1_init_0 : decode cX1_init 0 = .ok (.aload_n 0, 1) := by decide +kernel
theorem dX1_init_1 : decode cX1_init 1 = .ok (.invokespecial 3, 3) := by decide +kernel
theorem dX1_init_4 : decode cX1_init 4 = .ok (.aload_n 0, 1) := by decide +kernel
theorem dX1_init_5 : decode cX1_init 5 = .ok (.iconst 2, 1) := by decide +kernel
theorem dX1_init_6 : decode cX1_init 6 = .ok (.newarray .int, 2) := by decide +kernel
theorem dX1_init_8 : decode cX1_init 8 = .ok (.dup, 1) := by decide +kernel
theorem dX1_init_9 : decode cX1_init 9 = .ok (.iconst 0, 1) := by decide +kernel
theorem dX1_init_10 : decode cX1_init 10 = .ok (.bipush 50, 2) := by decide +kernel
theorem dX1_init_12 : decode cX1_init 12 = .ok (.iastore, 1) := by decide +kernel
theorem dX1_init_13 : decode cX1_init 13 = .ok (.dup, 1) := by decide +kernel
theorem dX1_init_14 : decode cX1_init 14 = .ok (.iconst 1, 1) := by decide +kernel
theorem dX1_init_15 : decode cX1_init 15 = .ok (.bipush 50, 2) := by decide +kernel
theorem dX1_init_17 : decode cX1_init 17 = .ok (.iastore, 1) := by decide +kernel
theorem dX1_init_18 : decode cX1_init 18 = .ok (.putfield 9, 3) := by decide +kernel
theorem dX1_init_21 : decode cX1_init 21 = .ok (.aload_n 0, 1) := by decide +kernel
theorem dX1_init_22 : decode cX1_init 22 = .ok (.iconst 2, 1) := by decide +kernel
theorem dX1_init_23 : decode cX1_init 23 = .ok (.newarray .int, 2) := by decide +kernel
theorem dX1_init_25 : decode cX1_init 25 = .ok (.putfield 15, 3) := by decide +kernel
theorem dX1_init_28 : decode cX1_init 28 = .ok (.aload_n 0, 1) := by decide +kernel
theorem dX1_init_29 : decode cX1_init 29 = .ok (.bipush 24, 2) := by decide +kernel
theorem dX1_init_31 : decode cX1_init 31 = .ok (.newarray .int, 2) := by decide +kernel
theorem dX1_init_33 : decode cX1_init 33 = .ok (.putfield 18, 3) := by decide +kernel
theorem dX1_init_36 : decode cX1_init 36 = .ok (.aload_n 0, 1) := by decide +kernel
theorem dX1_init_37 : decode cX1_init 37 = .ok (.bipush 24, 2) := by decide +kernel
theorem dX1_init_39 : decode cX1_init 39 = .ok (.newarray .int, 2) := by decide +kernel
theorem dX1_init_41 : decode cX1_init 41 = .ok (.putfield 21, 3) := by decide +kernel
theorem dX1_init_44 : decode cX1_init 44 = .ok (.aload_n 0, 1) := by decide +kernel
theorem dX1_init_45 : decode cX1_init 45 = .ok (.bipush 6, 2) := by decide +kernel
theorem dX1_init_47 : decode cX1_init 47 = .ok (.newarray .int, 2) := by decide +kernel
theorem dX1_init_49 : decode cX1_init 49 = .ok (.putfield 24, 3) := by decide +kernel
theorem dX1_init_52 : decode cX1_init 52 = .ok (.aload_n 0, 1) := by decide +kernel
theorem dX1_init_53 : decode cX1_init 53 = .ok (.iconst 4, 1) := by decide +kernel
theorem dX1_init_54 : decode cX1_init 54 = .ok (.newarray .int, 2) := by decide +kernel
theorem dX1_init_56 : decode cX1_init 56 = .ok (.dup, 1) := by decide +kernel
theorem dX1_init_57 : decode cX1_init 57 = .ok (.iconst 0, 1) := by decide +kernel
theorem dX1_init_58 : decode cX1_init 58 = .ok (.iconst 1, 1) := by decide +kernel
theorem dX1_init_59 : decode cX1_init 59 = .ok (.iastore, 1) := by decide +kernel
theorem dX1_init_60 : decode cX1_init 60 = .ok (.dup, 1) := by decide +kernel
theorem dX1_init_61 : decode cX1_init 61 = .ok (.iconst 1, 1) := by decide +kernel
theorem dX1_init_62 : decode cX1_init 62 = .ok (.bipush 60, 2) := by decide +kernel
theorem dX1_init_64 : decode cX1_init 64 = .ok (.iastore, 1) := by decide +kernel
theorem dX1_init_65 : decode cX1_init 65 = .ok (.dup, 1) := by decide +kernel
theorem dX1_init_66 : decode cX1_init 66 = .ok (.iconst 2, 1) := by decide +kernel
theorem dX1_init_67 : decode cX1_init 67 = .ok (.bipush 30, 2) := by decide +kernel
theorem dX1_init_69 : decode cX1_init 69 = .ok (.iastore, 1) := by decide +kernel
theorem dX1_init_70 : decode cX1_init 70 = .ok (.dup, 1) := by decide +kernel
theorem dX1_init_71 : decode cX1_init 71 = .ok (.iconst 3, 1) := by decide +kernel
theorem dX1_init_72 : decode cX1_init 72 = .ok (.bipush 20, 2) := by decide +kernel
theorem dX1_init_74 : decode cX1_init 74 = .ok (.iastore, 1) := by decide +kernel
theorem dX1_init_75 : decode cX1_init 75 = .ok (.putfield 27, 3) := by decide +kernel
theorem dX1_init_78 : decode cX1_init 78 = .ok (.aload_n 0, 1) := by decide +kernel
theorem dX1_init_79 : decode cX1_init 79 = .ok (.bipush 6, 2) := by decide +kernel
theorem dX1_init_81 : decode cX1_init 81 = .ok (.newarray .int, 2) := by decide +kernel
theorem dX1_init_83 : decode cX1_init 83 = .ok (.putfield 30, 3) := by decide +kernel
theorem dX1_init_86 : decode cX1_init 86 = .ok (.aload_n 0, 1) := by decide +kernel
theorem dX1_init_87 : decode cX1_init 87 = .ok (.iconst 0, 1) := by decide +kernel
theorem dX1_init_88 : decode cX1_init 88 = .ok (.putfield 33, 3) := by decide +kernel
theorem dX1_init_91 : decode cX1_init 91 = .ok (.aload_n 0, 1) := by decide +kernel
theorem dX1_init_92 : decode cX1_init 92 = .ok (.iconst 0, 1) := by decide +kernel
theorem dX1_init_93 : decode cX1_init 93 = .ok (.putfield 37, 3) := by decide +kernel
theorem dX1_init_96 : decode cX1_init 96 = .ok (.aload_n 0, 1) := by decide +kernel
theorem dX1_init_97 : decode cX1_init 97 = .ok (.iconst 0, 1) := by decide +kernel
theorem dX1_init_98 : decode cX1_init 98 = .ok (.putfield 40, 3) := by decide +kernel
theorem dX1_init_101 : decode cX1_init 101 = .ok (.return_, 1) := by decide +kernel
set_option maxHeartbeats 8000000 in
set_option maxRecDepth 100000 in
theorem mtX1_init (l : Launch) (D : va_G) (t : Nat → ClassId) (xa : Nat) (sz : Nat) : Met l yX1_init zX1_init ({ frames := 1, cells := 7, slots := 68, locals := 12 }) (sPc D t ([(xa, .inr (1, [.null, .null, .null, .null, .null, .null, .null, .int 0, .int 0, .int 0]))] : va_W) sz [.ref xa]) (va_Qv (fun (_ : Nat → Nat) => True) (fun u tt => va_P D vwCl (gS t xa u iniS) tt.heap ∧ va_K D vwCl (TY t) tt ∧ va_D (va_A ([(xa, .inr (1, [.null, .null, .null, .null, .null, .null, .null, .int 0, .int 0, .int 0]))] : va_W) sz) (gS t xa u iniS)) (va_A ([(xa, .inr (1, [.null, .null, .null, .null, .null, .null, .null, .int 0, .int 0, .int 0]))] : va_W) sz)) 7 68 (va_A ([(xa, .inr (1, [.null, .null, .null, .null, .null, .null, .null, .int 0, .int 0, .int 0]))] : va_W) sz) := by
  refine met_ofC (Qf := fun A => va_Qv (fun (_ : Nat → Nat) => True) (fun u tt => va_P D vwCl (gS t xa u iniS) tt.heap ∧ va_K D vwCl (TY t) tt ∧ va_D A (gS t xa u iniS)) A) (cc := cX1_init) (maxL := 1) (ret := none) (by decide) rfl rfl (Nat.le_of_ble_eq_true rfl) ?_
  intro p e s m args below meth c A hx hb hr hml hts hown hlocks hin hA hP hK hD hE hS ls hl
  have htB : ∀ w ∈ BIG, w.before args s = true := fun w h => hts w (List.mem_cons_of_mem _ h)
  have hown : s.vm.findClass RX1 = some m.cls := hown
  have hl : lv_has ls 1 [(0, .ref xa)] := hl
  refine lv_aload_n hx hb dX1_init_0 rfl (lv_at hl 0 rfl) ?_
  refine W.objInit hx hb hown (htB _ kw27) (htB _ kw7) (htB _ kw8) rfl (by rw [hml]; exact hl.1) rfl dX1_init_1 (Nat.le_of_ble_eq_true rfl) (Nat.le_of_ble_eq_true rfl) ?_
  refine W.eq (g2 := F0 m 4 ls []) rfl ?_
  refine lv_aload_n hx hb dX1_init_4 rfl (lv_at hl 0 rfl) ?_
  refine lv_iconst (v := 2) hx hb dX1_init_5 (by decide) ?_
  refine va_newa (atype := .int) (ty := .int) (a0 := (2, .inl (fun _ => 0))) (N' := 2) hx hb (htB _ kw21) rfl hK hP hD hS hA (fun _ => rfl) (by decide) (by decide) (by decide) (Nat.le_of_ble_eq_true rfl) (Nat.le_of_ble_eq_true rfl) dX1_init_6 (fun q1 cA9 H hK9 hP hD hS => ?_)
  obtain rfl := k_int hK9
  have hP : va_P D vwCl ([(xa, .inr (1, [.null, .null, .null, .null, .null, .null, .null, .int 0, .int 0, .int 0])), (q1, .inl (t 0, 2, .inl (fun _ => 0)))] : va_W) H := hP
  have hD : va_D A ([(xa, .inr (1, [.null, .null, .null, .null, .null, .null, .null, .int 0, .int 0, .int 0])), (q1, .inl (t 0, 2, .inl (fun _ => 0)))] : va_W) := hD
  refine lv_dup hx hb dX1_init_8 rfl ?_
  refine lv_iconst (v := 0) hx hb dX1_init_9 (by decide) ?_
  refine lv_bipush (v := 50) hx hb dX1_init_10 (by decide) ?_
  refine va_iast hx hb hK hP hD hS 1 0 rfl rfl (pin_in (by decide)) dX1_init_12 (fun H locs hP hD hS => ?_)
  have hP : va_P D vwCl ([(xa, .inr (1, [.null, .null, .null, .null, .null, .null, .null, .int 0, .int 0, .int 0])), (q1, .inl (t 0, 2, .inl (upd (fun _ => 0) (Int32.toNatClampNeg 0) 50)))] : va_W) H := hP
  have hD : va_D A ([(xa, .inr (1, [.null, .null, .null, .null, .null, .null, .null, .int 0, .int 0, .int 0])), (q1, .inl (t 0, 2, .inl (upd (fun _ => 0) (Int32.toNatClampNeg 0) 50)))] : va_W) := hD
  refine lv_dup hx hb dX1_init_13 rfl ?_
  refine lv_iconst (v := 1) hx hb dX1_init_14 (by decide) ?_
  refine lv_bipush (v := 50) hx hb dX1_init_15 (by decide) ?_
  refine va_iast hx hb hK hP hD hS 1 0 rfl rfl (pin_in (by decide)) dX1_init_17 (fun H locs hP hD hS => ?_)
  have hP : va_P D vwCl ([(xa, .inr (1, [.null, .null, .null, .null, .null, .null, .null, .int 0, .int 0, .int 0])), (q1, .inl (t 0, 2, .inl (upd (upd (fun _ => 0) (Int32.toNatClampNeg 0) 50) (Int32.toNatClampNeg 1) 50)))] : va_W) H := hP
  have hD : va_D A ([(xa, .inr (1, [.null, .null, .null, .null, .null, .null, .null, .int 0, .int 0, .int 0])), (q1, .inl (t 0, 2, .inl (upd (upd (fun _ => 0) (Int32.toNatClampNeg 0) 50) (Int32.toNatClampNeg 1) 50)))] : va_W) := hD
  refine va_putF (D := D) (ci := 1) (v := .ref q1) (ty := (.array .int)) (C := RX1) (T := TX1) (N := 10) hx hb htB inlX1 tyX1 tyX1_ok nmX1 hown hK hP hD hS 0 rfl rfl 0 (by decide) (htB _ kw28) (fun _ h9 => h9) rfl hin rfl (by decide +kernel) rfl rfl (Nat.le_of_ble_eq_true rfl) dX1_init_18 (fun H locs hP hD hS => ?_)
  have hP : va_P D vwCl ([(xa, .inr (1, [.ref q1, .null, .null, .null, .null, .null, .null, .int 0, .int 0, .int 0])), (q1, .inl (t 0, 2, .inl (upd (upd (fun _ => 0) (Int32.toNatClampNeg 0) 50) (Int32.toNatClampNeg 1) 50)))] : va_W) H := hP
  have hD : va_D A ([(xa, .inr (1, [.ref q1, .null, .null, .null, .null, .null, .null, .int 0, .int 0, .int 0])), (q1, .inl (t 0, 2, .inl (upd (upd (fun _ => 0) (Int32.toNatClampNeg 0) 50) (Int32.toNatClampNeg 1) 50)))] : va_W) := hD
  refine lv_aload_n hx hb dX1_init_21 rfl (lv_at hl 0 rfl) ?_
  refine lv_iconst (v := 2) hx hb dX1_init_22 (by decide) ?_
  refine va_newa (atype := .int) (ty := .int) (a0 := (2, .inl (fun _ => 0))) (N' := 2) hx hb (htB _ kw21) rfl hK hP hD hS hA (fun _ => rfl) (by decide) (by decide) (by decide) (Nat.le_of_ble_eq_true rfl) (Nat.le_of_ble_eq_true rfl) dX1_init_23 (fun q2 cA9 H hK9 hP hD hS => ?_)
  obtain rfl := k_int hK9
  have hP : va_P D vwCl ([(xa, .inr (1, [.ref q1, .null, .null, .null, .null, .null, .null, .int 0, .int 0, .int 0])), (q1, .inl (t 0, 2, .inl (upd (upd (fun _ => 0) (Int32.toNatClampNeg 0) 50) (Int32.toNatClampNeg 1) 50))), (q2, .inl (t 0, 2, .inl (fun _ => 0)))] : va_W) H := hP
  have hD : va_D A ([(xa, .inr (1, [.ref q1, .null, .null, .null, .null, .null, .null, .int 0, .int 0, .int 0])), (q1, .inl (t 0, 2, .inl (upd (upd (fun _ => 0) (Int32.toNatClampNeg 0) 50) (Int32.toNatClampNeg 1) 50))), (q2, .inl (t 0, 2, .inl (fun _ => 0)))] : va_W) := hD
  refine va_putF (D := D) (ci := 1) (v := .ref q2) (ty := (.array .int)) (C := RX1) (T := TX1) (N := 10) hx hb htB inlX1 tyX1 tyX1_ok nmX1 hown hK hP hD hS 0 rfl rfl 1 (by decide) (htB _ kw29) (fun _ h9 => h9) rfl hin rfl (by decide +kernel) rfl rfl (Nat.le_of_ble_eq_true rfl) dX1_init_25 (fun H locs hP hD hS => ?_)
  have hP : va_P D vwCl ([(xa, .inr (1, [.ref q1, .ref q2, .null, .null, .null, .null, .null, .int 0, .int 0, .int 0])), (q1, .inl (t 0, 2, .inl (upd (upd (fun _ => 0) (Int32.toNatClampNeg 0) 50) (Int32.toNatClampNeg 1) 50))), (q2, .inl (t 0, 2, .inl (fun _ => 0)))] : va_W) H := hP
  have hD : va_D A ([(xa, .inr (1, [.ref q1, .ref q2, .null, .null, .null, .null, .null, .int 0, .int 0, .int 0])), (q1, .inl (t 0, 2, .inl (upd (upd (fun _ => 0) (Int32.toNatClampNeg 0) 50) (Int32.toNatClampNeg 1) 50))), (q2, .inl (t 0, 2, .inl (fun _ => 0)))] : va_W) := hD
  refine lv_aload_n hx hb dX1_init_28 rfl (lv_at hl 0 rfl) ?_
  refine lv_bipush (v := 24) hx hb dX1_init_29 (by decide) ?_
  refine va_newa (atype := .int) (ty := .int) (a0 := (24, .inl (fun _ => 0))) (N' := 24) hx hb (htB _ kw21) rfl hK hP hD hS hA (fun _ => rfl) (by decide) (by decide) (by decide) (Nat.le_of_ble_eq_true rfl) (Nat.le_of_ble_eq_true rfl) dX1_init_31 (fun q3 cA9 H hK9 hP hD hS => ?_)
  obtain rfl := k_int hK9
  have hP : va_P D vwCl ([(xa, .inr (1, [.ref q1, .ref q2, .null, .null, .null, .null, .null, .int 0, .int 0, .int 0])), (q1, .inl (t 0, 2, .inl (upd (upd (fun _ => 0) (Int32.toNatClampNeg 0) 50) (Int32.toNatClampNeg 1) 50))), (q2, .inl (t 0, 2, .inl (fun _ => 0))), (q3, .inl (t 0, 24, .inl (fun _ => 0)))] : va_W) H := hP
  have hD : va_D A ([(xa, .inr (1, [.ref q1, .ref q2, .null, .null, .null, .null, .null, .int 0, .int 0, .int 0])), (q1, .inl (t 0, 2, .inl (upd (upd (fun _ => 0) (Int32.toNatClampNeg 0) 50) (Int32.toNatClampNeg 1) 50))), (q2, .inl (t 0, 2, .inl (fun _ => 0))), (q3, .inl (t 0, 24, .inl (fun _ => 0)))] : va_W) := hD
  refine va_putF (D := D) (ci := 1) (v := .ref q3) (ty := (.array .int)) (C := RX1) (T := TX1) (N := 10) hx hb htB inlX1 tyX1 tyX1_ok nmX1 hown hK hP hD hS 0 rfl rfl 2 (by decide) (htB _ kw30) (fun _ h9 => h9) rfl hin rfl (by decide +kernel) rfl rfl (Nat.le_of_ble_eq_true rfl) dX1_init_33 (fun H locs hP hD hS => ?_)
  have hP : va_P D vwCl ([(xa, .inr (1, [.ref q1, .ref q2, .ref q3, .null, .null, .null, .null, .int 0, .int 0, .int 0])), (q1, .inl (t 0, 2, .inl (upd (upd (fun _ => 0) (Int32.toNatClampNeg 0) 50) (Int32.toNatClampNeg 1) 50))), (q2, .inl (t 0, 2, .inl (fun _ => 0))), (q3, .inl (t 0, 24, .inl (fun _ => 0)))] : va_W) H := hP
  have hD : va_D A ([(xa, .inr (1, [.ref q1, .ref q2, .ref q3, .null, .null, .null, .null, .int 0, .int 0, .int 0])), (q1, .inl (t 0, 2, .inl (upd (upd (fun _ => 0) (Int32.toNatClampNeg 0) 50) (Int32.toNatClampNeg 1) 50))), (q2, .inl (t 0, 2, .inl (fun _ => 0))), (q3, .inl (t 0, 24, .inl (fun _ => 0)))] : va_W) := hD
  refine lv_aload_n hx hb dX1_init_36 rfl (lv_at hl 0 rfl) ?_
  refine lv_bipush (v := 24) hx hb dX1_init_37 (by decide) ?_
  refine va_newa (atype := .int) (ty := .int) (a0 := (24, .inl (fun _ => 0))) (N' := 24) hx hb (htB _ kw21) rfl hK hP hD hS hA (fun _ => rfl) (by decide) (by decide) (by decide) (Nat.le_of_ble_eq_true rfl) (Nat.le_of_ble_eq_true rfl) dX1_init_39 (fun q4 cA9 H hK9 hP hD hS => ?_)
  obtain rfl := k_int hK9
  have hP : va_P D vwCl ([(xa, .inr (1, [.ref q1, .ref q2, .ref q3, .null, .null, .null, .null, .int 0, .int 0, .int 0])), (q1, .inl (t 0, 2, .inl (upd (upd (fun _ => 0) (Int32.toNatClampNeg 0) 50) (Int32.toNatClampNeg 1) 50))), (q2, .inl (t 0, 2, .inl (fun _ => 0))), (q3, .inl (t 0, 24, .inl (fun _ => 0))), (q4, .inl (t 0, 24, .inl (fun _ => 0)))] : va_W) H := hP
  have hD : va_D A ([(xa, .inr (1, [.ref q1, .ref q2, .ref q3, .null, .null, .null, .null, .int 0, .int 0, .int 0])), (q1, .inl (t 0, 2, .inl (upd (upd (fun _ => 0) (Int32.toNatClampNeg 0) 50) (Int32.toNatClampNeg 1) 50))), (q2, .inl (t 0, 2, .inl (fun _ => 0))), (q3, .inl (t 0, 24, .inl (fun _ => 0))), (q4, .inl (t 0, 24, .inl (fun _ => 0)))] : va_W) := hD
  refine va_putF (D := D) (ci := 1) (v := .ref q4) (ty := (.array .int)) (C := RX1) (T := TX1) (N := 10) hx hb htB inlX1 tyX1 tyX1_ok nmX1 hown hK hP hD hS 0 rfl rfl 3 (by decide) (htB _ kw31) (fun _ h9 => h9) rfl hin rfl (by decide +kernel) rfl rfl (Nat.le_of_ble_eq_true rfl) dX1_init_41 (fun H locs hP hD hS => ?_)
  have hP : va_P D vwCl ([(xa, .inr (1, [.ref q1, .ref q2, .ref q3, .ref q4, .null, .null, .null, .int 0, .int 0, .int 0])), (q1, .inl (t 0, 2, .inl (upd (upd (fun _ => 0) (Int32.toNatClampNeg 0) 50) (Int32.toNatClampNeg 1) 50))), (q2, .inl (t 0, 2, .inl (fun _ => 0))), (q3, .inl (t 0, 24, .inl (fun _ => 0))), (q4, .inl (t 0, 24, .inl (fun _ => 0)))] : va_W) H := hP
  have hD : va_D A ([(xa, .inr (1, [.ref q1, .ref q2, .ref q3, .ref q4, .null, .null, .null, .int 0, .int 0, .int 0])), (q1, .inl (t 0, 2, .inl (upd (upd (fun _ => 0) (Int32.toNatClampNeg 0) 50) (Int32.toNatClampNeg 1) 50))), (q2, .inl (t 0, 2, .inl (fun _ => 0))), (q3, .inl (t 0, 24, .inl (fun _ => 0))), (q4, .inl (t 0, 24, .inl (fun _ => 0)))] : va_W) := hD
  refine lv_aload_n hx hb dX1_init_44 rfl (lv_at hl 0 rfl) ?_
  refine lv_bipush (v := 6) hx hb dX1_init_45 (by decide) ?_
  refine va_newa (atype := .int) (ty := .int) (a0 := (6, .inl (fun _ => 0))) (N' := 6) hx hb (htB _ kw21) rfl hK hP hD hS hA (fun _ => rfl) (by decide) (by decide) (by decide) (Nat.le_of_ble_eq_true rfl) (Nat.le_of_ble_eq_true rfl) dX1_init_47 (fun q5 cA9 H hK9 hP hD hS => ?_)
  obtain rfl := k_int hK9
  have hP : va_P D vwCl ([(xa, .inr (1, [.ref q1, .ref q2, .ref q3, .ref q4, .null, .null, .null, .int 0, .int 0, .int 0])), (q1, .inl (t 0, 2, .inl (upd (upd (fun _ => 0) (Int32.toNatClampNeg 0) 50) (Int32.toNatClampNeg 1) 50))), (q2, .inl (t 0, 2, .inl (fun _ => 0))), (q3, .inl (t 0, 24, .inl (fun _ => 0))), (q4, .inl (t 0, 24, .inl (fun _ => 0))), (q5, .inl (t 0, 6, .inl (fun _ => 0)))] : va_W) H := hP
  have hD : va_D A ([(xa, .inr (1, [.ref q1, .ref q2, .ref q3, .ref q4, .null, .null, .null, .int 0, .int 0, .int 0])), (q1, .inl (t 0, 2, .inl (upd (upd (fun _ => 0) (Int32.toNatClampNeg 0) 50) (Int32.toNatClampNeg 1) 50))), (q2, .inl (t 0, 2, .inl (fun _ => 0))), (q3, .inl (t 0, 24, .inl (fun _ => 0))), (q4, .inl (t 0, 24, .inl (fun _ => 0))), (q5, .inl (t 0, 6, .inl (fun _ => 0)))] : va_W) := hD
  refine va_putF (D := D) (ci := 1) (v := .ref q5) (ty := (.array .int)) (C := RX1) (T := TX1) (N := 10) hx hb htB inlX1 tyX1 tyX1_ok nmX1 hown hK hP hD hS 0 rfl rfl 4 (by decide) (htB _ kw32) (fun _ h9 => h9) rfl hin rfl (by decide +kernel) rfl rfl (Nat.le_of_ble_eq_true rfl) dX1_init_49 (fun H locs hP hD hS => ?_)
  have hP : va_P D vwCl ([(xa, .inr (1, [.ref q1, .ref q2, .ref q3, .ref q4, .ref q5, .null, .null, .int 0, .int 0, .int 0])), (q1, .inl (t 0, 2, .inl (upd (upd (fun _ => 0) (Int32.toNatClampNeg 0) 50) (Int32.toNatClampNeg 1) 50))), (q2, .inl (t 0, 2, .inl (fun _ => 0))), (q3, .inl (t 0, 24, .inl (fun _ => 0))), (q4, .inl (t 0, 24, .inl (fun _ => 0))), (q5, .inl (t 0, 6, .inl (fun _ => 0)))] : va_W) H := hP
  have hD : va_D A ([(xa, .inr (1, [.ref q1, .ref q2, .ref q3, .ref q4, .ref q5, .null, .null, .int 0, .int 0, .int 0])), (q1, .inl (t 0, 2, .inl (upd (upd (fun _ => 0) (Int32.toNatClampNeg 0) 50) (Int32.toNatClampNeg 1) 50))), (q2, .inl (t 0, 2, .inl (fun _ => 0))), (q3, .inl (t 0, 24, .inl (fun _ => 0))), (q4, .inl (t 0, 24, .inl (fun _ => 0))), (q5, .inl (t 0, 6, .inl (fun _ => 0)))] : va_W) := hD
  refine lv_aload_n hx hb dX1_init_52 rfl (lv_at hl 0 rfl) ?_
  refine lv_iconst (v := 4) hx hb dX1_init_53 (by decide) ?_
  refine va_newa (atype := .int) (ty := .int) (a0 := (4, .inl (fun _ => 0))) (N' := 4) hx hb (htB _ kw21) rfl hK hP hD hS hA (fun _ => rfl) (by decide) (by decide) (by decide) (Nat.le_of_ble_eq_true rfl) (Nat.le_of_ble_eq_true rfl) dX1_init_54 (fun q6 cA9 H hK9 hP hD hS => ?_)
  obtain rfl := k_int hK9
  have hP : va_P D vwCl ([(xa, .inr (1, [.ref q1, .ref q2, .ref q3, .ref q4, .ref q5, .null, .null, .int 0, .int 0, .int 0])), (q1, .inl (t 0, 2, .inl (upd (upd (fun _ => 0) (Int32.toNatClampNeg 0) 50) (Int32.toNatClampNeg 1) 50))), (q2, .inl (t 0, 2, .inl (fun _ => 0))), (q3, .inl (t 0, 24, .inl (fun _ => 0))), (q4, .inl (t 0, 24, .inl (fun _ => 0))), (q5, .inl (t 0, 6, .inl (fun _ => 0))), (q6, .inl (t 0, 4, .inl (fun _ => 0)))] : va_W) H := hP
  have hD : va_D A ([(xa, .inr (1, [.ref q1, .ref q2, .ref q3, .ref q4, .ref q5, .null, .null, .int 0, .int 0, .int 0])), (q1, .inl (t 0, 2, .inl (upd (upd (fun _ => 0) (Int32.toNatClampNeg 0) 50) (Int32.toNatClampNeg 1) 50))), (q2, .inl (t 0, 2, .inl (fun _ => 0))), (q3, .inl (t 0, 24, .inl (fun _ => 0))), (q4, .inl (t 0, 24, .inl (fun _ => 0))), (q5, .inl (t 0, 6, .inl (fun _ => 0))), (q6, .inl (t 0, 4, .inl (fun _ => 0)))] : va_W) := hD
  refine lv_dup hx hb dX1_init_56 rfl ?_
  refine lv_iconst (v := 0) hx hb dX1_init_57 (by decide) ?_
  refine lv_iconst (v := 1) hx hb dX1_init_58 (by decide) ?_
  refine va_iast hx hb hK hP hD hS 6 0 rfl rfl (pin_in (by decide)) dX1_init_59 (fun H locs hP hD hS => ?_)
  have hP : va_P D vwCl ([(xa, .inr (1, [.ref q1, .ref q2, .ref q3, .ref q4, .ref q5, .null, .null, .int 0, .int 0, .int 0])), (q1, .inl (t 0, 2, .inl (upd (upd (fun _ => 0) (Int32.toNatClampNeg 0) 50) (Int32.toNatClampNeg 1) 50))), (q2, .inl (t 0, 2, .inl (fun _ => 0))), (q3, .inl (t 0, 24, .inl (fun _ => 0))), (q4, .inl (t 0, 24, .inl (fun _ => 0))), (q5, .inl (t 0, 6, .inl (fun _ => 0))), (q6, .inl (t 0, 4, .inl (upd (fun _ => 0) (Int32.toNatClampNeg 0) 1)))] : va_W) H := hP
  have hD : va_D A ([(xa, .inr (1, [.ref q1, .ref q2, .ref q3, .ref q4, .ref q5, .null, .null, .int 0, .int 0, .int 0])), (q1, .inl (t 0, 2, .inl (upd (upd (fun _ => 0) (Int32.toNatClampNeg 0) 50) (Int32.toNatClampNeg 1) 50))), (q2, .inl (t 0, 2, .inl (fun _ => 0))), (q3, .inl (t 0, 24, .inl (fun _ => 0))), (q4, .inl (t 0, 24, .inl (fun _ => 0))), (q5, .inl (t 0, 6, .inl (fun _ => 0))), (q6, .inl (t 0, 4, .inl (upd (fun _ => 0) (Int32.toNatClampNeg 0) 1)))] : va_W) := hD
  refine lv_dup hx hb dX1_init_60 rfl ?_
  refine lv_iconst (v := 1) hx hb dX1_init_61 (by decide) ?_
  refine lv_bipush (v := 60) hx hb dX1_init_62 (by decide) ?_
  refine va_iast hx hb hK hP hD hS 6 0 rfl rfl (pin_in (by decide)) dX1_init_64 (fun H locs hP hD hS => ?_)
  have hP : va_P D vwCl ([(xa, .inr (1, [.ref q1, .ref q2, .ref q3, .ref q4, .ref q5, .null, .null, .int 0, .int 0, .int 0])), (q1, .inl (t 0, 2, .inl (upd (upd (fun _ => 0) (Int32.toNatClampNeg 0) 50) (Int32.toNatClampNeg 1) 50))), (q2, .inl (t 0, 2, .inl (fun _ => 0))), (q3, .inl (t 0, 24, .inl (fun _ => 0))), (q4, .inl (t 0, 24, .inl (fun _ => 0))), (q5, .inl (t 0, 6, .inl (fun _ => 0))), (q6, .inl (t 0, 4, .inl (upd (upd (fun _ => 0) (Int32.toNatClampNeg 0) 1) (Int32.toNatClampNeg 1) 60)))] : va_W) H := hP
  have hD : va_D A ([(xa, .inr (1, [.ref q1, .ref q2, .ref q3, .ref q4, .ref q5, .null, .null, .int 0, .int 0, .int 0])), (q1, .inl (t 0, 2, .inl (upd (upd (fun _ => 0) (Int32.toNatClampNeg 0) 50) (Int32.toNatClampNeg 1) 50))), (q2, .inl (t 0, 2, .inl (fun _ => 0))), (q3, .inl (t 0, 24, .inl (fun _ => 0))), (q4, .inl (t 0, 24, .inl (fun _ => 0))), (q5, .inl (t 0, 6, .inl (fun _ => 0))), (q6, .inl (t 0, 4, .inl (upd (upd (fun _ => 0) (Int32.toNatClampNeg 0) 1) (Int32.toNatClampNeg 1) 60)))] : va_W) := hD
  refine lv_dup hx hb dX1_init_65 rfl ?_
  refine lv_iconst (v := 2) hx hb dX1_init_66 (by decide) ?_
  refine lv_bipush (v := 30) hx hb dX1_init_67 (by decide) ?_
  refine va_iast hx hb hK hP hD hS 6 0 rfl rfl (pin_in (by decide)) dX1_init_69 (fun H locs hP hD hS => ?_)
  have hP : va_P D vwCl ([(xa, .inr (1, [.ref q1, .ref q2, .ref q3, .ref q4, .ref q5, .null, .null, .int 0, .int 0, .int 0])), (q1, .inl (t 0, 2, .inl (upd (upd (fun _ => 0) (Int32.toNatClampNeg 0) 50) (Int32.toNatClampNeg 1) 50))), (q2, .inl (t 0, 2, .inl (fun _ => 0))), (q3, .inl (t 0, 24, .inl (fun _ => 0))), (q4, .inl (t 0, 24, .inl (fun _ => 0))), (q5, .inl (t 0, 6, .inl (fun _ => 0))), (q6, .inl (t 0, 4, .inl (upd (upd (upd (fun _ => 0) (Int32.toNatClampNeg 0) 1) (Int32.toNatClampNeg 1) 60) (Int32.toNatClampNeg 2) 30)))] : va_W) H := hP
  have hD : va_D A ([(xa, .inr (1, [.ref q1, .ref q2, .ref q3, .ref q4, .ref q5, .null, .null, .int 0, .int 0, .int 0])), (q1, .inl (t 0, 2, .inl (upd (upd (fun _ => 0) (Int32.toNatClampNeg 0) 50) (Int32.toNatClampNeg 1) 50))), (q2, .inl (t 0, 2, .inl (fun _ => 0))), (q3, .inl (t 0, 24, .inl (fun _ => 0))), (q4, .inl (t 0, 24, .inl (fun _ => 0))), (q5, .inl (t 0, 6, .inl (fun _ => 0))), (q6, .inl (t 0, 4, .inl (upd (upd (upd (fun _ => 0) (Int32.toNatClampNeg 0) 1) (Int32.toNatClampNeg 1) 60) (Int32.toNatClampNeg 2) 30)))] : va_W) := hD
  refine lv_dup hx hb dX1_init_70 rfl ?_
  refine lv_iconst (v := 3) hx hb dX1_init_71 (by decide) ?_
  refine lv_bipush (v := 20) hx hb dX1_init_72 (by decide) ?_
  refine va_iast hx hb hK hP hD hS 6 0 rfl rfl (pin_in (by decide)) dX1_init_74 (fun H locs hP hD hS => ?_)
  have hP : va_P D vwCl ([(xa, .inr (1, [.ref q1, .ref q2, .ref q3, .ref q4, .ref q5, .null, .null, .int 0, .int 0, .int 0])), (q1, .inl (t 0, 2, .inl (upd (upd (fun _ => 0) (Int32.toNatClampNeg 0) 50) (Int32.toNatClampNeg 1) 50))), (q2, .inl (t 0, 2, .inl (fun _ => 0))), (q3, .inl (t 0, 24, .inl (fun _ => 0))), (q4, .inl (t 0, 24, .inl (fun _ => 0))), (q5, .inl (t 0, 6, .inl (fun _ => 0))), (q6, .inl (t 0, 4, .inl (upd (upd (upd (upd (fun _ => 0) (Int32.toNatClampNeg 0) 1) (Int32.toNatClampNeg 1) 60) (Int32.toNatClampNeg 2) 30) (Int32.toNatClampNeg 3) 20)))] : va_W) H := hP
  have hD : va_D A ([(xa, .inr (1, [.ref q1, .ref q2, .ref q3, .ref q4, .ref q5, .null, .null, .int 0, .int 0, .int 0])), (q1, .inl (t 0, 2, .inl (upd (upd (fun _ => 0) (Int32.toNatClampNeg 0) 50) (Int32.toNatClampNeg 1) 50))), (q2, .inl (t 0, 2, .inl (fun _ => 0))), (q3, .inl (t 0, 24, .inl (fun _ => 0))), (q4, .inl (t 0, 24, .inl (fun _ => 0))), (q5, .inl (t 0, 6, .inl (fun _ => 0))), (q6, .inl (t 0, 4, .inl (upd (upd (upd (upd (fun _ => 0) (Int32.toNatClampNeg 0) 1) (Int32.toNatClampNeg 1) 60) (Int32.toNatClampNeg 2) 30) (Int32.toNatClampNeg 3) 20)))] : va_W) := hD
  refine va_putF (D := D) (ci := 1) (v := .ref q6) (ty := (.array .int)) (C := RX1) (T := TX1) (N := 10) hx hb htB inlX1 tyX1 tyX1_ok nmX1 hown hK hP hD hS 0 rfl rfl 5 (by decide) (htB _ kw33) (fun _ h9 => h9) rfl hin rfl (by decide +kernel) rfl rfl (Nat.le_of_ble_eq_true rfl) dX1_init_75 (fun H locs hP hD hS => ?_)
  have hP : va_P D vwCl ([(xa, .inr (1, [.ref q1, .ref q2, .ref q3, .ref q4, .ref q5, .ref q6, .null, .int 0, .int 0, .int 0])), (q1, .inl (t 0, 2, .inl (upd (upd (fun _ => 0) (Int32.toNatClampNeg 0) 50) (Int32.toNatClampNeg 1) 50))), (q2, .inl (t 0, 2, .inl (fun _ => 0))), (q3, .inl (t 0, 24, .inl (fun _ => 0))), (q4, .inl (t 0, 24, .inl (fun _ => 0))), (q5, .inl (t 0, 6, .inl (fun _ => 0))), (q6, .inl (t 0, 4, .inl (upd (upd (upd (upd (fun _ => 0) (Int32.toNatClampNeg 0) 1) (Int32.toNatClampNeg 1) 60) (Int32.toNatClampNeg 2) 30) (Int32.toNatClampNeg 3) 20)))] : va_W) H := hP
  have hD : va_D A ([(xa, .inr (1, [.ref q1, .ref q2, .ref q3, .ref q4, .ref q5, .ref q6, .null, .int 0, .int 0, .int 0])), (q1, .inl (t 0, 2, .inl (upd (upd (fun _ => 0) (Int32.toNatClampNeg 0) 50) (Int32.toNatClampNeg 1) 50))), (q2, .inl (t 0, 2, .inl (fun _ => 0))), (q3, .inl (t 0, 24, .inl (fun _ => 0))), (q4, .inl (t 0, 24, .inl (fun _ => 0))), (q5, .inl (t 0, 6, .inl (fun _ => 0))), (q6, .inl (t 0, 4, .inl (upd (upd (upd (upd (fun _ => 0) (Int32.toNatClampNeg 0) 1) (Int32.toNatClampNeg 1) 60) (Int32.toNatClampNeg 2) 30) (Int32.toNatClampNeg 3) 20)))] : va_W) := hD
  refine lv_aload_n hx hb dX1_init_78 rfl (lv_at hl 0 rfl) ?_
  refine lv_bipush (v := 6) hx hb dX1_init_79 (by decide) ?_
  refine va_newa (atype := .int) (ty := .int) (a0 := (6, .inl (fun _ => 0))) (N' := 6) hx hb (htB _ kw21) rfl hK hP hD hS hA (fun _ => rfl) (by decide) (by decide) (by decide) (Nat.le_of_ble_eq_true rfl) (Nat.le_of_ble_eq_true rfl) dX1_init_81 (fun q7 cA9 H hK9 hP hD hS => ?_)
  obtain rfl := k_int hK9
  have hP : va_P D vwCl ([(xa, .inr (1, [.ref q1, .ref q2, .ref q3, .ref q4, .ref q5, .ref q6, .null, .int 0, .int 0, .int 0])), (q1, .inl (t 0, 2, .inl (upd (upd (fun _ => 0) (Int32.toNatClampNeg 0) 50) (Int32.toNatClampNeg 1) 50))), (q2, .inl (t 0, 2, .inl (fun _ => 0))), (q3, .inl (t 0, 24, .inl (fun _ => 0))), (q4, .inl (t 0, 24, .inl (fun _ => 0))), (q5, .inl (t 0, 6, .inl (fun _ => 0))), (q6, .inl (t 0, 4, .inl (upd (upd (upd (upd (fun _ => 0) (Int32.toNatClampNeg 0) 1) (Int32.toNatClampNeg 1) 60) (Int32.toNatClampNeg 2) 30) (Int32.toNatClampNeg 3) 20))), (q7, .inl (t 0, 6, .inl (fun _ => 0)))] : va_W) H := hP
  have hD : va_D A ([(xa, .inr (1, [.ref q1, .ref q2, .ref q3, .ref q4, .ref q5, .ref q6, .null, .int 0, .int 0, .int 0])), (q1, .inl (t 0, 2, .inl (upd (upd (fun _ => 0) (Int32.toNatClampNeg 0) 50) (Int32.toNatClampNeg 1) 50))), (q2, .inl (t 0, 2, .inl (fun _ => 0))), (q3, .inl (t 0, 24, .inl (fun _ => 0))), (q4, .inl (t 0, 24, .inl (fun _ => 0))), (q5, .inl (t 0, 6, .inl (fun _ => 0))), (q6, .inl (t 0, 4, .inl (upd (upd (upd (upd (fun _ => 0) (Int32.toNatClampNeg 0) 1) (Int32.toNatClampNeg 1) 60) (Int32.toNatClampNeg 2) 30) (Int32.toNatClampNeg 3) 20))), (q7, .inl (t 0, 6, .inl (fun _ => 0)))] : va_W) := hD
  refine va_putF (D := D) (ci := 1) (v := .ref q7) (ty := (.array .int)) (C := RX1) (T := TX1) (N := 10) hx hb htB inlX1 tyX1 tyX1_ok nmX1 hown hK hP hD hS 0 rfl rfl 6 (by decide) (htB _ kw34) (fun _ h9 => h9) rfl hin rfl (by decide +kernel) rfl rfl (Nat.le_of_ble_eq_true rfl) dX1_init_83 (fun H locs hP hD hS => ?_)
  have hP : va_P D vwCl ([(xa, .inr (1, [.ref q1, .ref q2, .ref q3, .ref q4, .ref q5, .ref q6, .ref q7, .int 0, .int 0, .int 0])), (q1, .inl (t 0, 2, .inl (upd (upd (fun _ => 0) (Int32.toNatClampNeg 0) 50) (Int32.toNatClampNeg 1) 50))), (q2, .inl (t 0, 2, .inl (fun _ => 0))), (q3, .inl (t 0, 24, .inl (fun _ => 0))), (q4, .inl (t 0, 24, .inl (fun _ => 0))), (q5, .inl (t 0, 6, .inl (fun _ => 0))), (q6, .inl (t 0, 4, .inl (upd (upd (upd (upd (fun _ => 0) (Int32.toNatClampNeg 0) 1) (Int32.toNatClampNeg 1) 60) (Int32.toNatClampNeg 2) 30) (Int32.toNatClampNeg 3) 20))), (q7, .inl (t 0, 6, .inl (fun _ => 0)))] : va_W) H := hP
  have hD : va_D A ([(xa, .inr (1, [.ref q1, .ref q2, .ref q3, .ref q4, .ref q5, .ref q6, .ref q7, .int 0, .int 0, .int 0])), (q1, .inl (t 0, 2, .inl (upd (upd (fun _ => 0) (Int32.toNatClampNeg 0) 50) (Int32.toNatClampNeg 1) 50))), (q2, .inl (t 0, 2, .inl (fun _ => 0))), (q3, .inl (t 0, 24, .inl (fun _ => 0))), (q4, .inl (t 0, 24, .inl (fun _ => 0))), (q5, .inl (t 0, 6, .inl (fun _ => 0))), (q6, .inl (t 0, 4, .inl (upd (upd (upd (upd (fun _ => 0) (Int32.toNatClampNeg 0) 1) (Int32.toNatClampNeg 1) 60) (Int32.toNatClampNeg 2) 30) (Int32.toNatClampNeg 3) 20))), (q7, .inl (t 0, 6, .inl (fun _ => 0)))] : va_W) := hD
  refine lv_aload_n hx hb dX1_init_86 rfl (lv_at hl 0 rfl) ?_
  refine lv_iconst (v := 0) hx hb dX1_init_87 (by decide) ?_
  refine va_put (D := D) (ci := 1) (v := .int 0) (ty := .int) (C := RX1) (T := TX1) (N := 10) hx hb htB inlX1 tyX1 tyX1_ok nmX1 hown hK hP hD hS 0 rfl rfl 7 (by decide) (htB _ kw35) (fun _ h9 => h9) rfl (by decide +kernel) rfl rfl (Nat.le_of_ble_eq_true rfl) dX1_init_88 (fun H locs hP hD hS => ?_)
  have hP : va_P D vwCl ([(xa, .inr (1, [.ref q1, .ref q2, .ref q3, .ref q4, .ref q5, .ref q6, .ref q7, .int 0, .int 0, .int 0])), (q1, .inl (t 0, 2, .inl (upd (upd (fun _ => 0) (Int32.toNatClampNeg 0) 50) (Int32.toNatClampNeg 1) 50))), (q2, .inl (t 0, 2, .inl (fun _ => 0))), (q3, .inl (t 0, 24, .inl (fun _ => 0))), (q4, .inl (t 0, 24, .inl (fun _ => 0))), (q5, .inl (t 0, 6, .inl (fun _ => 0))), (q6, .inl (t 0, 4, .inl (upd (upd (upd (upd (fun _ => 0) (Int32.toNatClampNeg 0) 1) (Int32.toNatClampNeg 1) 60) (Int32.toNatClampNeg 2) 30) (Int32.toNatClampNeg 3) 20))), (q7, .inl (t 0, 6, .inl (fun _ => 0)))] : va_W) H := hP
  have hD : va_D A ([(xa, .inr (1, [.ref q1, .ref q2, .ref q3, .ref q4, .ref q5, .ref q6, .ref q7, .int 0, .int 0, .int 0])), (q1, .inl (t 0, 2, .inl (upd (upd (fun _ => 0) (Int32.toNatClampNeg 0) 50) (Int32.toNatClampNeg 1) 50))), (q2, .inl (t 0, 2, .inl (fun _ => 0))), (q3, .inl (t 0, 24, .inl (fun _ => 0))), (q4, .inl (t 0, 24, .inl (fun _ => 0))), (q5, .inl (t 0, 6, .inl (fun _ => 0))), (q6, .inl (t 0, 4, .inl (upd (upd (upd (upd (fun _ => 0) (Int32.toNatClampNeg 0) 1) (Int32.toNatClampNeg 1) 60) (Int32.toNatClampNeg 2) 30) (Int32.toNatClampNeg 3) 20))), (q7, .inl (t 0, 6, .inl (fun _ => 0)))] : va_W) := hD
  refine lv_aload_n hx hb dX1_init_91 rfl (lv_at hl 0 rfl) ?_
  refine lv_iconst (v := 0) hx hb dX1_init_92 (by decide) ?_
  refine va_put (D := D) (ci := 1) (v := .int 0) (ty := .int) (C := RX1) (T := TX1) (N := 10) hx hb htB inlX1 tyX1 tyX1_ok nmX1 hown hK hP hD hS 0 rfl rfl 8 (by decide) (htB _ kw36) (fun _ h9 => h9) rfl (by decide +kernel) rfl rfl (Nat.le_of_ble_eq_true rfl) dX1_init_93 (fun H locs hP hD hS => ?_)
  have hP : va_P D vwCl ([(xa, .inr (1, [.ref q1, .ref q2, .ref q3, .ref q4, .ref q5, .ref q6, .ref q7, .int 0, .int 0, .int 0])), (q1, .inl (t 0, 2, .inl (upd (upd (fun _ => 0) (Int32.toNatClampNeg 0) 50) (Int32.toNatClampNeg 1) 50))), (q2, .inl (t 0, 2, .inl (fun _ => 0))), (q3, .inl (t 0, 24, .inl (fun _ => 0))), (q4, .inl (t 0, 24, .inl (fun _ => 0))), (q5, .inl (t 0, 6, .inl (fun _ => 0))), (q6, .inl (t 0, 4, .inl (upd (upd (upd (upd (fun _ => 0) (Int32.toNatClampNeg 0) 1) (Int32.toNatClampNeg 1) 60) (Int32.toNatClampNeg 2) 30) (Int32.toNatClampNeg 3) 20))), (q7, .inl (t 0, 6, .inl (fun _ => 0)))] : va_W) H := hP
  have hD : va_D A ([(xa, .inr (1, [.ref q1, .ref q2, .ref q3, .ref q4, .ref q5, .ref q6, .ref q7, .int 0, .int 0, .int 0])), (q1, .inl (t 0, 2, .inl (upd (upd (fun _ => 0) (Int32.toNatClampNeg 0) 50) (Int32.toNatClampNeg 1) 50))), (q2, .inl (t 0, 2, .inl (fun _ => 0))), (q3, .inl (t 0, 24, .inl (fun _ => 0))), (q4, .inl (t 0, 24, .inl (fun _ => 0))), (q5, .inl (t 0, 6, .inl (fun _ => 0))), (q6, .inl (t 0, 4, .inl (upd (upd (upd (upd (fun _ => 0) (Int32.toNatClampNeg 0) 1) (Int32.toNatClampNeg 1) 60) (Int32.toNatClampNeg 2) 30) (Int32.toNatClampNeg 3) 20))), (q7, .inl (t 0, 6, .inl (fun _ => 0)))] : va_W) := hD
  refine lv_aload_n hx hb dX1_init_96 rfl (lv_at hl 0 rfl) ?_
  refine lv_iconst (v := 0) hx hb dX1_init_97 (by decide) ?_
  refine va_put (D := D) (ci := 1) (v := .int 0) (ty := .int) (C := RX1) (T := TX1) (N := 10) hx hb htB inlX1 tyX1 tyX1_ok nmX1 hown hK hP hD hS 0 rfl rfl 9 (by decide) (htB _ kw37) (fun _ h9 => h9) rfl (by decide +kernel) rfl rfl (Nat.le_of_ble_eq_true rfl) dX1_init_98 (fun H locs hP hD hS => ?_)
  have hP : va_P D vwCl ([(xa, .inr (1, [.ref q1, .ref q2, .ref q3, .ref q4, .ref q5, .ref q6, .ref q7, .int 0, .int 0, .int 0])), (q1, .inl (t 0, 2, .inl (upd (upd (fun _ => 0) (Int32.toNatClampNeg 0) 50) (Int32.toNatClampNeg 1) 50))), (q2, .inl (t 0, 2, .inl (fun _ => 0))), (q3, .inl (t 0, 24, .inl (fun _ => 0))), (q4, .inl (t 0, 24, .inl (fun _ => 0))), (q5, .inl (t 0, 6, .inl (fun _ => 0))), (q6, .inl (t 0, 4, .inl (upd (upd (upd (upd (fun _ => 0) (Int32.toNatClampNeg 0) 1) (Int32.toNatClampNeg 1) 60) (Int32.toNatClampNeg 2) 30) (Int32.toNatClampNeg 3) 20))), (q7, .inl (t 0, 6, .inl (fun _ => 0)))] : va_W) H := hP
  have hD : va_D A ([(xa, .inr (1, [.ref q1, .ref q2, .ref q3, .ref q4, .ref q5, .ref q6, .ref q7, .int 0, .int 0, .int 0])), (q1, .inl (t 0, 2, .inl (upd (upd (fun _ => 0) (Int32.toNatClampNeg 0) 50) (Int32.toNatClampNeg 1) 50))), (q2, .inl (t 0, 2, .inl (fun _ => 0))), (q3, .inl (t 0, 24, .inl (fun _ => 0))), (q4, .inl (t 0, 24, .inl (fun _ => 0))), (q5, .inl (t 0, 6, .inl (fun _ => 0))), (q6, .inl (t 0, 4, .inl (upd (upd (upd (upd (fun _ => 0) (Int32.toNatClampNeg 0) 1) (Int32.toNatClampNeg 1) 60) (Int32.toNatClampNeg 2) 30) (Int32.toNatClampNeg 3) 20))), (q7, .inl (t 0, 6, .inl (fun _ => 0)))] : va_W) := hD
  have hP : va_P D vwCl (gS t xa (fun i => [q1, q2, q3, q4, q5, q6, q7].getD i 0) iniS) H := hP.pick0 [0, 1, 2, 3, 4, 5, 6, 7] rfl
  have hD : va_D A (gS t xa (fun i => [q1, q2, q3, q4, q5, q6, q7].getD i 0) iniS) := hD.sub [0, 1, 2, 3, 4, 5, 6, 7] rfl rfl
  exact W.vret hx hb hr (fun tt ht hW => ⟨⟨(fun i => [q1, q2, q3, q4, q5, q6, q7].getD i 0), rfl, trivial, by rw [ht]; exact hP, va_K.moved hW.alike hK, hD⟩, hS.F ht⟩) hS.2.2 dX1_init_101 hlocks

abbrev zX0_init : List Cond := .code yX0_init cX0_init 1 none :: BIG
theorem dX0_init_0 : decode cX0_init 0 = .ok (.aload_n 0, 1) := by decide +kernel
theorem dX0_init_1 : decode cX0_init 1 = .ok (.invokespecial 3, 3) := by decide +kernel
theorem dX0_init_4 : decode cX0_init 4 = .ok (.aload_n 0, 1) := by decide +kernel
theorem dX0_init_5 : decode cX0_init 5 = .ok (.bipush 24, 2) := by decide +kernel
theorem dX0_init_7 : decode cX0_init 7 = .ok (.newarray .int, 2) := by decide +kernel
theorem dX0_init_9 : decode cX0_init 9 = .ok (.putfield 9, 3) := by decide +kernel
theorem dX0_init_12 : decode cX0_init 12 = .ok (.aload_n 0, 1) := by decide +kernel
theorem dX0_init_13 : decode cX0_init 13 = .ok (.bipush 24, 2) := by decide +kernel
theorem dX0_init_15 : decode cX0_init 15 = .ok (.newarray .int, 2) := by decide +kernel
theorem dX0_init_17 : decode cX0_init 17 = .ok (.putfield 15, 3) := by decide +kernel
theorem dX0_init_20 : decode cX0_init 20 = .ok (.aload_n 0, 1) := by decide +kernel
theorem dX0_init_21 : decode cX0_init 21 = .ok (.bipush 24, 2) := by decide +kernel
theorem dX0_init_23 : decode cX0_init 23 = .ok (.newarray .int, 2) := by decide +kernel
theorem dX0_init_25 : decode cX0_init 25 = .ok (.putfield 18, 3) := by decide +kernel
theorem dX0_init_28 : decode cX0_init 28 = .ok (.return_, 1) := by decide +kernel
set_option maxHeartbeats 8000000 in
set_option maxRecDepth 100000 in
theorem mtX0_init (l : Launch) (D : va_G) (t : Nat → ClassId) (xa : Nat) (sz : Nat) : Met l yX0_init zX0_init ({ frames := 1, cells := 3, slots := 72, locals := 12 }) (sPc D t ([(xa, .inr (0, [.null, .null, .null, .int 0, .int 0, .int 0, .int 0, .int 0, .int 0, .int 0]))] : va_W) sz [.ref xa]) (va_Qv (fun (_ : Nat → Nat) => True) (fun u tt => va_P D vwCl (gE t xa u iniE) tt.heap ∧ va_K D vwCl (TY t) tt ∧ va_D (va_A ([(xa, .inr (0, [.null, .null, .null, .int 0, .int 0, .int 0, .int 0, .int 0, .int 0, .int 0]))] : va_W) sz) (gE t xa u iniE)) (va_A ([(xa, .inr (0, [.null, .null, .null, .int 0, .int 0, .int 0, .int 0, .int 0, .int 0, .int 0]))] : va_W) sz)) 3 72 (va_A ([(xa, .inr (0, [.null, .null, .null, .int 0, .int 0, .int 0, .int 0, .int 0, .int 0, .int 0]))] : va_W) sz) := by
  refine met_ofC (Qf := fun A => va_Qv (fun (_ : Nat → Nat) => True) (fun u tt => va_P D vwCl (gE t xa u iniE) tt.heap ∧ va_K D vwCl (TY t) tt ∧ va_D A (gE t xa u iniE)) A) (cc := cX0_init) (maxL := 1) (ret := none) (by decide) rfl rfl (Nat.le_of_ble_eq_true rfl) ?_
  intro p e s m args below meth c A hx hb hr hml hts hown hlocks hin hA hP hK hD hE hS ls hl
  have htB : ∀ w ∈ BIG, w.before args s = true := fun w h => hts w (List.mem_cons_of_mem _ h)
  have hown : s.vm.findClass RX0 = some m.cls := hown
  have hl : lv_has ls 1 [(0, .ref xa)] := hl
  refine lv_aload_n hx hb dX0_init_0 rfl (lv_at hl 0 rfl) ?_
  refine W.objInit hx hb hown (htB _ kw41) (htB _ kw7) (htB _ kw8) rfl (by rw [hml]; exact hl.1) rfl dX0_init_1 (Nat.le_of_ble_eq_true rfl) (Nat.le_of_ble_eq_true rfl) ?_
  refine W.eq (g2 := F0 m 4 ls []) rfl ?_
  refine lv_aload_n hx hb dX0_init_4 rfl (lv_at hl 0 rfl) ?_
  refine lv_bipush (v := 24) hx hb dX0_init_5 (by decide) ?_
  refine va_newa (atype := .int) (ty := .int) (a0 := (24, .inl (fun _ => 0))) (N' := 24) hx hb (htB _ kw21) rfl hK hP hD hS hA (fun _ => rfl) (by decide) (by decide) (by decide) (Nat.le_of_ble_eq_true rfl) (Nat.le_of_ble_eq_true rfl) dX0_init_7 (fun q1 cA9 H hK9 hP hD hS => ?_)
  obtain rfl := k_int hK9
  have hP : va_P D vwCl ([(xa, .inr (0, [.null, .null, .null, .int 0, .int 0, .int 0, .int 0, .int 0, .int 0, .int 0])), (q1, .inl (t 0, 24, .inl (fun _ => 0)))] : va_W) H := hP
  have hD : va_D A ([(xa, .inr (0, [.null, .null, .null, .int 0, .int 0, .int 0, .int 0, .int 0, .int 0, .int 0])), (q1, .inl (t 0, 24, .inl (fun _ => 0)))] : va_W) := hD
  refine va_putF (D := D) (ci := 0) (v := .ref q1) (ty := (.array .int)) (C := RX0) (T := TX0) (N := 10) hx hb htB inlX0 tyX0 tyX0_ok nmX0 hown hK hP hD hS 0 rfl rfl 0 (by decide) (htB _ kw42) (fun _ h9 => h9) rfl hin rfl (by decide +kernel) rfl rfl (Nat.le_of_ble_eq_true rfl) dX0_init_9 (fun H locs hP hD hS => ?_)
  have hP : va_P D vwCl ([(xa, .inr (0, [.ref q1, .null, .null, .int 0, .int 0, .int 0, .int 0, .int 0, .int 0, .int 0])), (q1, .inl (t 0, 24, .inl (fun _ => 0)))] : va_W) H := hP
  have hD : va_D A ([(xa, .inr (0, [.ref q1, .null, .null, .int 0, .int 0, .int 0, .int 0, .int 0, .int 0, .int 0])), (q1, .inl (t 0, 24, .inl (fun _ => 0)))] : va_W) := hD
  refine lv_aload_n hx hb dX0_init_12 rfl (lv_at hl 0 rfl) ?_
  refine lv_bipush (v := 24) hx hb dX0_init_13 (by decide) ?_
  refine va_newa (atype := .int) (ty := .int) (a0 := (24, .inl (fun _ => 0))) (N' := 24) hx hb (htB _ kw21) rfl hK hP hD hS hA (fun _ => rfl) (by decide) (by decide) (by decide) (Nat.le_of_ble_eq_true rfl) (Nat.le_of_ble_eq_true rfl) dX0_init_15 (fun q2 cA9 H hK9 hP hD hS => ?_)
  obtain rfl := k_int hK9
  have hP : va_P D vwCl ([(xa, .inr (0, [.ref q1, .null, .null, .int 0, .int 0, .int 0, .int 0, .int 0, .int 0, .int 0])), (q1, .inl (t 0, 24, .inl (fun _ => 0))), (q2, .inl (t 0, 24, .inl (fun _ => 0)))] : va_W) H := hP
  have hD : va_D A ([(xa, .inr (0, [.ref q1, .null, .null, .int 0, .int 0, .int 0, .int 0, .int 0, .int 0, .int 0])), (q1, .inl (t 0, 24, .inl (fun _ => 0))), (q2, .inl (t 0, 24, .inl (fun _ => 0)))] : va_W) := hD
  refine va_putF (D := D) (ci := 0) (v := .ref q2) (ty := (.array .int)) (C := RX0) (T := TX0) (N := 10) hx hb htB inlX0 tyX0 tyX0_ok nmX0 hown hK hP hD hS 0 rfl rfl 1 (by decide) (htB _ kw43) (fun _ h9 => h9) rfl hin rfl (by decide +kernel) rfl rfl (Nat.le_of_ble_eq_true rfl) dX0_init_17 (fun H locs hP hD hS => ?_)
  have hP : va_P D vwCl ([(xa, .inr (0, [.ref q1, .ref q2, .null, .int 0, .int 0, .int 0, .int 0, .int 0, .int 0, .int 0])), (q1, .inl (t 0, 24, .inl (fun _ => 0))), (q2, .inl (t 0, 24, .inl (fun _ => 0)))] : va_W) H := hP
  have hD : va_D A ([(xa, .inr (0, [.ref q1, .ref q2, .null, .int 0, .int 0, .int 0, .int 0, .int 0, .int 0, .int 0])), (q1, .inl (t 0, 24, .inl (fun _ => 0))), (q2, .inl (t 0, 24, .inl (fun _ => 0)))] : va_W) := hD
  refine lv_aload_n hx hb dX0_init_20 rfl (lv_at hl 0 rfl) ?_
  refine lv_bipush (v := 24) hx hb dX0_init_21 (by decide) ?_
  refine va_newa (atype := .int) (ty := .int) (a0 := (24, .inl (fun _ => 0))) (N' := 24) hx hb (htB _ kw21) rfl hK hP hD hS hA (fun _ => rfl) (by decide) (by decide) (by decide) (Nat.le_of_ble_eq_true rfl) (Nat.le_of_ble_eq_true rfl) dX0_init_23 (fun q3 cA9 H hK9 hP hD hS => ?_)
  obtain rfl := k_int hK9
  have hP : va_P D vwCl ([(xa, .inr (0, [.ref q1, .ref q2, .null, .int 0, .int 0, .int 0, .int 0, .int 0, .int 0, .int 0])), (q1, .inl (t 0, 24, .inl (fun _ => 0))), (q2, .inl (t 0, 24, .inl (fun _ => 0))), (q3, .inl (t 0, 24, .inl (fun _ => 0)))] : va_W) H := hP
  have hD : va_D A ([(xa, .inr (0, [.ref q1, .ref q2, .null, .int 0, .int 0, .int 0, .int 0, .int 0, .int 0, .int 0])), (q1, .inl (t 0, 24, .inl (fun _ => 0))), (q2, .inl (t 0, 24, .inl (fun _ => 0))), (q3, .inl (t 0, 24, .inl (fun _ => 0)))] : va_W) := hD
  refine va_putF (D := D) (ci := 0) (v := .ref q3) (ty := (.array .int)) (C := RX0) (T := TX0) (N := 10) hx hb htB inlX0 tyX0 tyX0_ok nmX0 hown hK hP hD hS 0 rfl rfl 2 (by decide) (htB _ kw44) (fun _ h9 => h9) rfl hin rfl (by decide +kernel) rfl rfl (Nat.le_of_ble_eq_true rfl) dX0_init_25 (fun H locs hP hD hS => ?_)
  have hP : va_P D vwCl ([(xa, .inr (0, [.ref q1, .ref q2, .ref q3, .int 0, .int 0, .int 0, .int 0, .int 0, .int 0, .int 0])), (q1, .inl (t 0, 24, .inl (fun _ => 0))), (q2, .inl (t 0, 24, .inl (fun _ => 0))), (q3, .inl (t 0, 24, .inl (fun _ => 0)))] : va_W) H := hP
  have hD : va_D A ([(xa, .inr (0, [.ref q1, .ref q2, .ref q3, .int 0, .int 0, .int 0, .int 0, .int 0, .int 0, .int 0])), (q1, .inl (t 0, 24, .inl (fun _ => 0))), (q2, .inl (t 0, 24, .inl (fun _ => 0))), (q3, .inl (t 0, 24, .inl (fun _ => 0)))] : va_W) := hD
  have hP : va_P D vwCl (gE t xa (fun i => [q1, q2, q3].getD i 0) iniE) H := hP.pick0 [0, 1, 2, 3] rfl
  have hD : va_D A (gE t xa (fun i => [q1, q2, q3].getD i 0) iniE) := hD.sub [0, 1, 2, 3] rfl rfl
  exact W.vret hx hb hr (fun tt ht hW => ⟨⟨(fun i => [q1, q2, q3].getD i 0), rfl, trivial, by rw [ht]; exact hP, va_K.moved hW.alike hK, hD⟩, hS.F ht⟩) hS.2.2 dX0_init_28 hlocks

abbrev zX2_init : List Cond := .code yX2_init cX2_init 2 none :: BIG
theorem dX2_init_0 : decode cX2_init 0 = .ok (.aload_n 0, 1) := by decide +kernel
theorem dX2_init_1 : decode cX2_init 1 = .ok (.invokespecial 1, 3) := by decide +kernel
theorem dX2_init_4 : decode cX2_init 4 = .ok (.aload_n 0, 1) := by decide +kernel
theorem dX2_init_5 : decode cX2_init 5 = .ok (.new 7, 3) := by decide +kernel
theorem dX2_init_8 : decode cX2_init 8 = .ok (.dup, 1) := by decide +kernel
theorem dX2_init_9 : decode cX2_init 9 = .ok (.invokespecial 9, 3) := by decide +kernel
theorem dX2_init_12 : decode cX2_init 12 = .ok (.putfield 10, 3) := by decide +kernel
theorem dX2_init_15 : decode cX2_init 15 = .ok (.aload_n 0, 1) := by decide +kernel
theorem dX2_init_16 : decode cX2_init 16 = .ok (.new 7, 3) := by decide +kernel
theorem dX2_init_19 : decode cX2_init 19 = .ok (.dup, 1) := by decide +kernel
theorem dX2_init_20 : decode cX2_init 20 = .ok (.invokespecial 9, 3) := by decide +kernel
theorem dX2_init_23 : decode cX2_init 23 = .ok (.putfield 16, 3) := by decide +kernel
theorem dX2_init_26 : decode cX2_init 26 = .ok (.aload_n 0, 1) := by decide +kernel
theorem dX2_init_27 : decode cX2_init 27 = .ok (.new 19, 3) := by decide +kernel
theorem dX2_init_30 : decode cX2_init 30 = .ok (.dup, 1) := by decide +kernel
theorem dX2_init_31 : decode cX2_init 31 = .ok (.invokespecial 21, 3) := by decide +kernel
theorem dX2_init_34 : decode cX2_init 34 = .ok (.putfield 22, 3) := by decide +kernel
theorem dX2_init_37 : decode cX2_init 37 = .ok (.aload_n 0, 1) := by decide +kernel
theorem dX2_init_38 : decode cX2_init 38 = .ok (.bipush 6, 2) := by decide +kernel
theorem dX2_init_40 : decode cX2_init 40 = .ok (.anewarray 7, 3) := by decide +kernel
theorem dX2_init_43 : decode cX2_init 43 = .ok (.putfield 26, 3) := by decide +kernel
theorem dX2_init_46 : decode cX2_init 46 = .ok (.iconst 0, 1) := by decide +kernel
theorem dX2_init_47 : decode cX2_init 47 = .ok (.istore_n 1, 1) := by decide +kernel
theorem dX2_init_48 : decode cX2_init 48 = .ok (.iload_n 1, 1) := by decide +kernel
theorem dX2_init_49 : decode cX2_init 49 = .ok (.aload_n 0, 1) := by decide +kernel
theorem dX2_init_50 : decode cX2_init 50 = .ok (.getfield 26, 3) := by decide +kernel
theorem dX2_init_53 : decode cX2_init 53 = .ok (.arraylength, 1) := by decide +kernel
theorem dX2_init_54 : decode cX2_init 54 = .ok (.if_icmp .ge 22, 3) := by decide +kernel
theorem dX2_init_57 : decode cX2_init 57 = .ok (.aload_n 0, 1) := by decide +kernel
theorem dX2_init_58 : decode cX2_init 58 = .ok (.getfield 26, 3) := by decide +kernel
theorem dX2_init_61 : decode cX2_init 61 = .ok (.iload_n 1, 1) := by decide +kernel
theorem dX2_init_62 : decode cX2_init 62 = .ok (.new 7, 3) := by decide +kernel
theorem dX2_init_65 : decode cX2_init 65 = .ok (.dup, 1) := by decide +kernel
theorem dX2_init_66 : decode cX2_init 66 = .ok (.invokespecial 9, 3) := by decide +kernel
theorem dX2_init_69 : decode cX2_init 69 = .ok (.aastore, 1) := by decide +kernel
theorem dX2_init_70 : decode cX2_init 70 = .ok (.iinc 1 1, 3) := by decide +kernel
theorem dX2_init_73 : decode cX2_init 73 = .ok (.goto (-25), 3) := by decide +kernel
theorem dX2_init_76 : decode cX2_init 76 = .ok (.aload_n 0, 1) := by decide +kernel
theorem dX2_init_77 : decode cX2_init 77 = .ok (.iconst 0, 1) := by decide +kernel
theorem dX2_init_78 : decode cX2_init 78 = .ok (.putfield 30, 3) := by decide +kernel
theorem dX2_init_81 : decode cX2_init 81 = .ok (.aload_n 0, 1) := by decide +kernel
theorem dX2_init_82 : decode cX2_init 82 = .ok (.iconst 0, 1) := by decide +kernel
theorem dX2_init_83 : decode cX2_init 83 = .ok (.putfield 34, 3) := by decide +kernel
theorem dX2_init_86 : decode cX2_init 86 = .ok (.aload_n 0, 1) := by decide +kernel
theorem dX2_init_87 : decode cX2_init 87 = .ok (.bipush 60, 2) := by decide +kernel
theorem dX2_init_89 : decode cX2_init 89 = .ok (.newarray .int, 2) := by decide +kernel
theorem dX2_init_91 : decode cX2_init 91 = .ok (.putfield 37, 3) := by decide +kernel
theorem dX2_init_94 : decode cX2_init 94 = .ok (.aload_n 0, 1) := by decide +kernel
theorem dX2_init_95 : decode cX2_init 95 = .ok (.iconst 0, 1) := by decide +kernel
theorem dX2_init_96 : decode cX2_init 96 = .ok (.putfield 41, 3) := by decide +kernel
theorem dX2_init_99 : decode cX2_init 99 = .ok (.return_, 1) := by decide +kernel
set_option maxHeartbeats 8000000 in
set_option maxRecDepth 100000 in
theorem mtX2_init (l : Launch) (D : va_G) (t : Nat → ClassId) (xa : Nat) (sz : Nat) : Met l yX2_init zX2_init ({ frames := 2, cells := 70, slots := 772, locals := 32 }) (sPcO D t ([(xa, .inr (2, [.null, .null, .null, .null, .int 0, .int 0, .null, .int 0]))] : va_W) sz [.ref xa]) (va_Qv (fun (_ : (Nat → Nat) × (Nat → Nat) × (Nat → Nat) × (Nat → Nat) × (Nat → Nat) × (Nat → Nat → Nat)) => True) (fun u tt => va_P D vwCl (gBo xa u.1 (0, 0, 0) ++ (gS t (u.1 0) u.2.1 iniS ++ (gS t (u.1 1) u.2.2.1 iniS ++ (gE t (u.1 2) u.2.2.2.1 iniE ++ (gQ t (u.1 3) u.2.2.2.2.1 ++ (g6 t u.2.2.2.2.1 u.2.2.2.2.2 (fun _ => iniS) ++ gA t (u.1 4) 60 (fun _ => 0))))))) tt.heap ∧ va_K D vwCl (TY t) tt ∧ va_D (va_A ([(xa, .inr (2, [.null, .null, .null, .null, .int 0, .int 0, .null, .int 0]))] : va_W) sz) (gBo xa u.1 (0, 0, 0) ++ (gS t (u.1 0) u.2.1 iniS ++ (gS t (u.1 1) u.2.2.1 iniS ++ (gE t (u.1 2) u.2.2.2.1 iniE ++ (gQ t (u.1 3) u.2.2.2.2.1 ++ (g6 t u.2.2.2.2.1 u.2.2.2.2.2 (fun _ => iniS) ++ gA t (u.1 4) 60 (fun _ => 0)))))))) (va_A ([(xa, .inr (2, [.null, .null, .null, .null, .int 0, .int 0, .null, .int 0]))] : va_W) sz)) 70 772 (va_A ([(xa, .inr (2, [.null, .null, .null, .null, .int 0, .int 0, .null, .int 0]))] : va_W) sz) := by
  refine met_ofO (Qf := fun A => va_Qv (fun (_ : (Nat → Nat) × (Nat → Nat) × (Nat → Nat) × (Nat → Nat) × (Nat → Nat) × (Nat → Nat → Nat)) => True) (fun u tt => va_P D vwCl (gBo xa u.1 (0, 0, 0) ++ (gS t (u.1 0) u.2.1 iniS ++ (gS t (u.1 1) u.2.2.1 iniS ++ (gE t (u.1 2) u.2.2.2.1 iniE ++ (gQ t (u.1 3) u.2.2.2.2.1 ++ (g6 t u.2.2.2.2.1 u.2.2.2.2.2 (fun _ => iniS) ++ gA t (u.1 4) 60 (fun _ => 0))))))) tt.heap ∧ va_K D vwCl (TY t) tt ∧ va_D A (gBo xa u.1 (0, 0, 0) ++ (gS t (u.1 0) u.2.1 iniS ++ (gS t (u.1 1) u.2.2.1 iniS ++ (gE t (u.1 2) u.2.2.2.1 iniE ++ (gQ t (u.1 3) u.2.2.2.2.1 ++ (g6 t u.2.2.2.2.1 u.2.2.2.2.2 (fun _ => iniS) ++ gA t (u.1 4) 60 (fun _ => 0)))))))) A) (cc := cX2_init) (maxL := 2) (ret := none) (by decide) rfl rfl (Nat.le_of_ble_eq_true rfl) ?_
  intro p e s m args below meth c A hx hb hr hml hts hown hlocks hin hA hP hK hD hE hS hAO ls hl
  have htB : ∀ w ∈ BIG, w.before args s = true := fun w h => hts w (List.mem_cons_of_mem _ h)
  have hown : s.vm.findClass RX2 = some m.cls := hown
  have hl : lv_has ls 2 [(0, .ref xa)] := hl
  refine lv_aload_n hx hb dX2_init_0 rfl (lv_at hl 0 rfl) ?_
  refine W.objInit hx hb hown (htB _ kw6) (htB _ kw7) (htB _ kw8) rfl (by rw [hml]; exact hl.1) rfl dX2_init_1 (Nat.le_of_ble_eq_true rfl) (Nat.le_of_ble_eq_true rfl) ?_
  refine W.eq (g2 := F0 m 4 ls []) rfl ?_
  refine lv_aload_n hx hb dX2_init_4 rfl (lv_at hl 0 rfl) ?_
  refine va_new (ci := 1) (fs := [.null, .null, .null, .null, .null, .null, .null, .int 0, .int 0, .int 0]) (C := RX1) (T := TX1) (N := 10) hx hb htB inlX1 tyX1 tyX1_ok hown (htB _ kw9) (htB _ kw10) (htB _ kw11) hK hP hD hS hA rfl (by decide +kernel) (Nat.le_of_ble_eq_true rfl) (Nat.le_of_ble_eq_true rfl) dX2_init_5 (fun q1 H hP hD hS => ?_)
  have hP : va_P D vwCl ([(xa, .inr (2, [.null, .null, .null, .null, .int 0, .int 0, .null, .int 0])), (q1, .inr (1, [.null, .null, .null, .null, .null, .null, .null, .int 0, .int 0, .int 0]))] : va_W) H := hP
  have hD : va_D A ([(xa, .inr (2, [.null, .null, .null, .null, .int 0, .int 0, .null, .int 0])), (q1, .inr (1, [.null, .null, .null, .null, .null, .null, .null, .int 0, .int 0, .int 0]))] : va_W) := hD
  refine lv_dup hx hb dX2_init_8 rfl ?_
  have hFc := va_free (wc := [(q1, .inr (1, [.null, .null, .null, .null, .null, .null, .null, .int 0, .int 0, .int 0]))]) hD hS hA [1] rfl
  refine va_callv (va_runI (As := []) (rest := [.ref q1, .ref xa]) ⟨hx, hb, hml, hown, hts⟩ (mtX1_init l D t q1 H.size) (cwI 0 hts (gB kw26) rfl rfl rfl (htB _ kw11) (htB _ kw24) (htB _ kw25) rfl (by decide +kernel) ⟨Nat.le_of_ble_eq_true rfl, Nat.le_of_ble_eq_true rfl⟩) (sPc_S (hP.pick0 [1] rfl) hK (hD.sub [1] rfl rfl) hE) rfl rfl hl.1 rfl (lv_room (Nat.le_of_ble_eq_true rfl)) dX2_init_9 ⟨Nat.le_of_ble_eq_true rfl, Nat.le_of_ble_eq_true rfl⟩) hS (fun q9 _ h9 => hFc q9 h9) hFc (fun b2 t9 H9 locs9 ht9 hvm9 hw9 hB9 hz9 hk9 hS => ?_)
  obtain ⟨hP9, -, hD9⟩ := hB9
  rw [ht9] at hP9
  obtain ⟨hP, hD⟩ := va_join (wr := ([(xa, .inr (2, [.null, .null, .null, .null, .int 0, .int 0, .null, .int 0]))] : va_W)) (w1 := gS t q1 b2 iniS) hP hD [1] [0] rfl rfl rfl (by decide) hk9 hFc hP9 hD9
  generalize H9 = H at hP hS ⊢
  have hP : va_P D vwCl ([(xa, .inr (2, [.null, .null, .null, .null, .int 0, .int 0, .null, .int 0]))] ++ (gS t q1 b2 iniS)) H := hP
  have hD : va_D A ([(xa, .inr (2, [.null, .null, .null, .null, .int 0, .int 0, .null, .int 0]))] ++ (gS t q1 b2 iniS)) := hD
  refine va_putF (D := D) (ci := 2) (v := .ref q1) (ty := (.object "ShutterBench$Shutter")) (C := RX2) (T := TX2) (N := 8) hx hb htB inlX2 tyX2 tyX2_ok nmX2 hown hK hP hD hS 0 rfl rfl 0 (by decide) (htB _ kw12) (fun _ h9 => h9) rfl hin rfl (by decide +kernel) rfl rfl (Nat.le_of_ble_eq_true rfl) dX2_init_12 (fun H locs hP hD hS => ?_)
  have hP : va_P D vwCl ([(xa, .inr (2, [.ref q1, .null, .null, .null, .int 0, .int 0, .null, .int 0]))] ++ (gS t q1 b2 iniS)) H := hP
  have hD : va_D A ([(xa, .inr (2, [.ref q1, .null, .null, .null, .int 0, .int 0, .null, .int 0]))] ++ (gS t q1 b2 iniS)) := hD
  refine lv_aload_n hx hb dX2_init_15 rfl (lv_at hl 0 rfl) ?_
  refine va_new (ci := 1) (fs := [.null, .null, .null, .null, .null, .null, .null, .int 0, .int 0, .int 0]) (C := RX1) (T := TX1) (N := 10) hx hb htB inlX1 tyX1 tyX1_ok hown (htB _ kw9) (htB _ kw10) (htB _ kw11) hK hP hD hS hA rfl (by decide +kernel) (Nat.le_of_ble_eq_true rfl) (Nat.le_of_ble_eq_true rfl) dX2_init_16 (fun q3 H hP hD hS => ?_)
  have hP : va_P D vwCl ([(xa, .inr (2, [.ref q1, .null, .null, .null, .int 0, .int 0, .null, .int 0]))] ++ (gS t q1 b2 iniS ++ ([(q3, .inr (1, [.null, .null, .null, .null, .null, .null, .null, .int 0, .int 0, .int 0]))]))) H := hP
  have hD : va_D A ([(xa, .inr (2, [.ref q1, .null, .null, .null, .int 0, .int 0, .null, .int 0]))] ++ (gS t q1 b2 iniS ++ ([(q3, .inr (1, [.null, .null, .null, .null, .null, .null, .null, .int 0, .int 0, .int 0]))]))) := hD
  refine lv_dup hx hb dX2_init_19 rfl ?_
  have hFc := va_free (wc := [(q3, .inr (1, [.null, .null, .null, .null, .null, .null, .null, .int 0, .int 0, .int 0]))]) hD hS hA [9] rfl
  refine va_callv (va_runI (As := []) (rest := [.ref q3, .ref xa]) ⟨hx, hb, hml, hown, hts⟩ (mtX1_init l D t q3 H.size) (cwI 0 hts (gB kw26) rfl rfl rfl (htB _ kw11) (htB _ kw24) (htB _ kw25) rfl (by decide +kernel) ⟨Nat.le_of_ble_eq_true rfl, Nat.le_of_ble_eq_true rfl⟩) (sPc_S (hP.pick0 [9] rfl) hK (hD.sub [9] rfl rfl) hE) rfl rfl hl.1 rfl (lv_room (Nat.le_of_ble_eq_true rfl)) dX2_init_20 ⟨Nat.le_of_ble_eq_true rfl, Nat.le_of_ble_eq_true rfl⟩) hS (fun q9 _ h9 => hFc q9 h9) hFc (fun b4 t9 H9 locs9 ht9 hvm9 hw9 hB9 hz9 hk9 hS => ?_)
  obtain ⟨hP9, -, hD9⟩ := hB9
  rw [ht9] at hP9
  obtain ⟨hP, hD⟩ := va_join (wr := ([(xa, .inr (2, [.ref q1, .null, .null, .null, .int 0, .int 0, .null, .int 0]))] ++ (gS t q1 b2 iniS))) (w1 := gS t q3 b4 iniS) hP hD [9] [0, 1, 2, 3, 4, 5, 6, 7, 8] rfl rfl rfl (by decide) hk9 hFc hP9 hD9
  generalize H9 = H at hP hS ⊢
  have hP : va_P D vwCl ([(xa, .inr (2, [.ref q1, .null, .null, .null, .int 0, .int 0, .null, .int 0]))] ++ (gS t q1 b2 iniS ++ (gS t q3 b4 iniS))) H := hP
  have hD : va_D A ([(xa, .inr (2, [.ref q1, .null, .null, .null, .int 0, .int 0, .null, .int 0]))] ++ (gS t q1 b2 iniS ++ (gS t q3 b4 iniS))) := hD
  refine va_putF (D := D) (ci := 2) (v := .ref q3) (ty := (.object "ShutterBench$Shutter")) (C := RX2) (T := TX2) (N := 8) hx hb htB inlX2 tyX2 tyX2_ok nmX2 hown hK hP hD hS 0 rfl rfl 1 (by decide) (htB _ kw13) (fun _ h9 => h9) rfl hin rfl (by decide +kernel) rfl rfl (Nat.le_of_ble_eq_true rfl) dX2_init_23 (fun H locs hP hD hS => ?_)
  have hP : va_P D vwCl ([(xa, .inr (2, [.ref q1, .ref q3, .null, .null, .int 0, .int 0, .null, .int 0]))] ++ (gS t q1 b2 iniS ++ (gS t q3 b4 iniS))) H := hP
  have hD : va_D A ([(xa, .inr (2, [.ref q1, .ref q3, .null, .null, .int 0, .int 0, .null, .int 0]))] ++ (gS t q1 b2 iniS ++ (gS t q3 b4 iniS))) := hD
  refine lv_aload_n hx hb dX2_init_26 rfl (lv_at hl 0 rfl) ?_
  refine va_new (ci := 0) (fs := [.null, .null, .null, .int 0, .int 0, .int 0, .int 0, .int 0, .int 0, .int 0]) (C := RX0) (T := TX0) (N := 10) hx hb htB inlX0 tyX0 tyX0_ok hown (htB _ kw14) (htB _ kw15) (htB _ kw16) hK hP hD hS hA rfl (by decide +kernel) (Nat.le_of_ble_eq_true rfl) (Nat.le_of_ble_eq_true rfl) dX2_init_27 (fun q5 H hP hD hS => ?_)
  have hP : va_P D vwCl ([(xa, .inr (2, [.ref q1, .ref q3, .null, .null, .int 0, .int 0, .null, .int 0]))] ++ (gS t q1 b2 iniS ++ (gS t q3 b4 iniS ++ ([(q5, .inr (0, [.null, .null, .null, .int 0, .int 0, .int 0, .int 0, .int 0, .int 0, .int 0]))])))) H := hP
  have hD : va_D A ([(xa, .inr (2, [.ref q1, .ref q3, .null, .null, .int 0, .int 0, .null, .int 0]))] ++ (gS t q1 b2 iniS ++ (gS t q3 b4 iniS ++ ([(q5, .inr (0, [.null, .null, .null, .int 0, .int 0, .int 0, .int 0, .int 0, .int 0, .int 0]))])))) := hD
  refine lv_dup hx hb dX2_init_30 rfl ?_
  have hFc := va_free (wc := [(q5, .inr (0, [.null, .null, .null, .int 0, .int 0, .int 0, .int 0, .int 0, .int 0, .int 0]))]) hD hS hA [17] rfl
  refine va_callv (va_runI (As := []) (rest := [.ref q5, .ref xa]) ⟨hx, hb, hml, hown, hts⟩ (mtX0_init l D t q5 H.size) (cwI 0 hts (gB kw40) rfl rfl rfl (htB _ kw16) (htB _ kw38) (htB _ kw39) rfl (by decide +kernel) ⟨Nat.le_of_ble_eq_true rfl, Nat.le_of_ble_eq_true rfl⟩) (sPc_S (hP.pick0 [17] rfl) hK (hD.sub [17] rfl rfl) hE) rfl rfl hl.1 rfl (lv_room (Nat.le_of_ble_eq_true rfl)) dX2_init_31 ⟨Nat.le_of_ble_eq_true rfl, Nat.le_of_ble_eq_true rfl⟩) hS (fun q9 _ h9 => hFc q9 h9) hFc (fun b6 t9 H9 locs9 ht9 hvm9 hw9 hB9 hz9 hk9 hS => ?_)
  obtain ⟨hP9, -, hD9⟩ := hB9
  rw [ht9] at hP9
  obtain ⟨hP, hD⟩ := va_join (wr := ([(xa, .inr (2, [.ref q1, .ref q3, .null, .null, .int 0, .int 0, .null, .int 0]))] ++ (gS t q1 b2 iniS ++ (gS t q3 b4 iniS)))) (w1 := gE t q5 b6 iniE) hP hD [17] [0, 1, 2, 3, 4, 5, 6, 7, 8, 9, 10, 11, 12, 13, 14, 15, 16] rfl rfl rfl (by decide) hk9 hFc hP9 hD9
  generalize H9 = H at hP hS ⊢
  have hP : va_P D vwCl ([(xa, .inr (2, [.ref q1, .ref q3, .null, .null, .int 0, .int 0, .null, .int 0]))] ++ (gS t q1 b2 iniS ++ (gS t q3 b4 iniS ++ (gE t q5 b6 iniE)))) H := hP
  have hD : va_D A ([(xa, .inr (2, [.ref q1, .ref q3, .null, .null, .int 0, .int 0, .null, .int 0]))] ++ (gS t q1 b2 iniS ++ (gS t q3 b4 iniS ++ (gE t q5 b6 iniE)))) := hD
  refine va_putF (D := D) (ci := 2) (v := .ref q5) (ty := (.object "ShutterBench$Exposure")) (C := RX2) (T := TX2) (N := 8) hx hb htB inlX2 tyX2 tyX2_ok nmX2 hown hK hP hD hS 0 rfl rfl 2 (by decide) (htB _ kw17) (fun _ h9 => h9) rfl hin rfl (by decide +kernel) rfl rfl (Nat.le_of_ble_eq_true rfl) dX2_init_34 (fun H locs hP hD hS => ?_)
  have hP : va_P D vwCl ([(xa, .inr (2, [.ref q1, .ref q3, .ref q5, .null, .int 0, .int 0, .null, .int 0]))] ++ (gS t q1 b2 iniS ++ (gS t q3 b4 iniS ++ (gE t q5 b6 iniE)))) H := hP
  have hD : va_D A ([(xa, .inr (2, [.ref q1, .ref q3, .ref q5, .null, .int 0, .int 0, .null, .int 0]))] ++ (gS t q1 b2 iniS ++ (gS t q3 b4 iniS ++ (gE t q5 b6 iniE)))) := hD
  refine lv_aload_n hx hb dX2_init_37 rfl (lv_at hl 0 rfl) ?_
  refine lv_bipush (v := 6) hx hb dX2_init_38 (by decide) ?_
  refine va_newq (C := RX1) (N' := 6) hx hb hown (htB _ kw9) hAO hK hP hD hS hA (by decide) (by decide) (by decide) (Nat.le_of_ble_eq_true rfl) (Nat.le_of_ble_eq_true rfl) dX2_init_40 (fun q7 cA9 H hK9 hP hD hS => ?_)
  obtain rfl := k_obj hK9
  have hP : va_P D vwCl ([(xa, .inr (2, [.ref q1, .ref q3, .ref q5, .null, .int 0, .int 0, .null, .int 0]))] ++ (gS t q1 b2 iniS ++ (gS t q3 b4 iniS ++ (gE t q5 b6 iniE ++ ([(q7, .inl (t 1, 6, .inr (.inr (.inr (.inr (fun _ => none))))))]))))) H := hP
  have hD : va_D A ([(xa, .inr (2, [.ref q1, .ref q3, .ref q5, .null, .int 0, .int 0, .null, .int 0]))] ++ (gS t q1 b2 iniS ++ (gS t q3 b4 iniS ++ (gE t q5 b6 iniE ++ ([(q7, .inl (t 1, 6, .inr (.inr (.inr (.inr (fun _ => none))))))]))))) := hD
  refine va_putF (D := D) (ci := 2) (v := .ref q7) (ty := (.array (.object "ShutterBench$Shutter"))) (C := RX2) (T := TX2) (N := 8) hx hb htB inlX2 tyX2 tyX2_ok nmX2 hown hK hP hD hS 0 rfl rfl 3 (by decide) (htB _ kw18) (fun _ h9 => h9) rfl hin rfl (by decide +kernel) rfl rfl (Nat.le_of_ble_eq_true rfl) dX2_init_43 (fun H locs hP hD hS => ?_)
  have hP : va_P D vwCl ([(xa, .inr (2, [.ref q1, .ref q3, .ref q5, .ref q7, .int 0, .int 0, .null, .int 0]))] ++ (gS t q1 b2 iniS ++ (gS t q3 b4 iniS ++ (gE t q5 b6 iniE ++ ([(q7, .inl (t 1, 6, .inr (.inr (.inr (.inr (fun _ => none))))))]))))) H := hP
  have hD : va_D A ([(xa, .inr (2, [.ref q1, .ref q3, .ref q5, .ref q7, .int 0, .int 0, .null, .int 0]))] ++ (gS t q1 b2 iniS ++ (gS t q3 b4 iniS ++ (gE t q5 b6 iniE ++ ([(q7, .inl (t 1, 6, .inr (.inr (.inr (.inr (fun _ => none))))))]))))) := hD
  refine lv_iconst (v := 0) hx hb dX2_init_46 (by decide) ?_
  refine lv_istore_n (lv' := [(1, .int 0), (0, .ref xa)]) hx hb dX2_init_47 rfl hl (by decide) rfl (fun ls hl => ?_)
  refine lv_iload_n hx hb dX2_init_48 rfl (lv_at hl 0 rfl) ?_
  refine lv_aload_n hx hb dX2_init_49 rfl (lv_at hl 1 rfl) ?_
  refine va_get (D := D) (ci := 2) (v := .ref q7) (C := RX2) (T := TX2) (N := 8) hx hb htB inlX2 hown hK hP 0 rfl rfl 3 (by decide) (htB _ kw18) (fun _ h9 => h9) rfl dX2_init_50 ?_
  refine va_alen (v := 6) hx hb hK hP 21 1 rfl rfl rfl dX2_init_53 ?_
  refine lv_icmp_ge (tgt := 76) hx hb dX2_init_54 (by decide) (fun c9 => absurd c9 (by decide)) (fun _ => ?_)
  refine lv_aload_n hx hb dX2_init_57 rfl (lv_at hl 1 rfl) ?_
  refine va_get (D := D) (ci := 2) (v := .ref q7) (C := RX2) (T := TX2) (N := 8) hx hb htB inlX2 hown hK hP 0 rfl rfl 3 (by decide) (htB _ kw18) (fun _ h9 => h9) rfl dX2_init_58 ?_
  refine lv_iload_n hx hb dX2_init_61 rfl (lv_at hl 0 rfl) ?_
  refine va_new (ci := 1) (fs := [.null, .null, .null, .null, .null, .null, .null, .int 0, .int 0, .int 0]) (C := RX1) (T := TX1) (N := 10) hx hb htB inlX1 tyX1 tyX1_ok hown (htB _ kw9) (htB _ kw10) (htB _ kw11) hK hP hD hS hA rfl (by decide +kernel) (Nat.le_of_ble_eq_true rfl) (Nat.le_of_ble_eq_true rfl) dX2_init_62 (fun q8 H hP hD hS => ?_)
  have hP : va_P D vwCl ([(xa, .inr (2, [.ref q1, .ref q3, .ref q5, .ref q7, .int 0, .int 0, .null, .int 0]))] ++ (gS t q1 b2 iniS ++ (gS t q3 b4 iniS ++ (gE t q5 b6 iniE ++ ([(q7, .inl (t 1, 6, .inr (.inr (.inr (.inr (fun _ => none)))))), (q8, .inr (1, [.null, .null, .null, .null, .null, .null, .null, .int 0, .int 0, .int 0]))]))))) H := hP
  have hD : va_D A ([(xa, .inr (2, [.ref q1, .ref q3, .ref q5, .ref q7, .int 0, .int 0, .null, .int 0]))] ++ (gS t q1 b2 iniS ++ (gS t q3 b4 iniS ++ (gE t q5 b6 iniE ++ ([(q7, .inl (t 1, 6, .inr (.inr (.inr (.inr (fun _ => none)))))), (q8, .inr (1, [.null, .null, .null, .null, .null, .null, .null, .int 0, .int 0, .int 0]))]))))) := hD
  refine lv_dup hx hb dX2_init_65 rfl ?_
  have hFc := va_free (wc := [(q8, .inr (1, [.null, .null, .null, .null, .null, .null, .null, .int 0, .int 0, .int 0]))]) hD hS hA [22] rfl
  refine va_callv (va_runI (As := []) (rest := [.ref q8, .int 0, .ref q7]) ⟨hx, hb, hml, hown, hts⟩ (mtX1_init l D t q8 H.size) (cwI 0 hts (gB kw26) rfl rfl rfl (htB _ kw11) (htB _ kw24) (htB _ kw25) rfl (by decide +kernel) ⟨Nat.le_of_ble_eq_true rfl, Nat.le_of_ble_eq_true rfl⟩) (sPc_S (hP.pick0 [22] rfl) hK (hD.sub [22] rfl rfl) hE) rfl rfl hl.1 rfl (lv_room (Nat.le_of_ble_eq_true rfl)) dX2_init_66 ⟨Nat.le_of_ble_eq_true rfl, Nat.le_of_ble_eq_true rfl⟩) hS (fun q9 _ h9 => hFc q9 h9) hFc (fun b9 t9 H9 locs9 ht9 hvm9 hw9 hB9 hz9 hk9 hS => ?_)
  obtain ⟨hP9, -, hD9⟩ := hB9
  rw [ht9] at hP9
  obtain ⟨hP, hD⟩ := va_join (wr := ([(xa, .inr (2, [.ref q1, .ref q3, .ref q5, .ref q7, .int 0, .int 0, .null, .int 0]))] ++ (gS t q1 b2 iniS ++ (gS t q3 b4 iniS ++ (gE t q5 b6 iniE ++ ([(q7, .inl (t 1, 6, .inr (.inr (.inr (.inr (fun _ => none))))))])))))) (w1 := gS t q8 b9 iniS) hP hD [22] [0, 1, 2, 3, 4, 5, 6, 7, 8, 9, 10, 11, 12, 13, 14, 15, 16, 17, 18, 19, 20, 21] rfl rfl rfl (by decide) hk9 hFc hP9 hD9
  generalize H9 = H at hP hS ⊢
  have hP : va_P D vwCl ([(xa, .inr (2, [.ref q1, .ref q3, .ref q5, .ref q7, .int 0, .int 0, .null, .int 0]))] ++ (gS t q1 b2 iniS ++ (gS t q3 b4 iniS ++ (gE t q5 b6 iniE ++ ([(q7, .inl (t 1, 6, .inr (.inr (.inr (.inr (fun _ => none))))))] ++ (gS t q8 b9 iniS)))))) H := hP
  have hD : va_D A ([(xa, .inr (2, [.ref q1, .ref q3, .ref q5, .ref q7, .int 0, .int 0, .null, .int 0]))] ++ (gS t q1 b2 iniS ++ (gS t q3 b4 iniS ++ (gE t q5 b6 iniE ++ ([(q7, .inl (t 1, 6, .inr (.inr (.inr (.inr (fun _ => none))))))] ++ (gS t q8 b9 iniS)))))) := hD
  refine va_astq (r := (RX1, TX1, 10)) hx hb hK hP hD hS 21 1 22 1 rfl rfl rfl rfl (pin_in (by decide)) dX2_init_69 (fun H locs hP hD hS => ?_)
  have hP : va_P D vwCl ([(xa, .inr (2, [.ref q1, .ref q3, .ref q5, .ref q7, .int 0, .int 0, .null, .int 0]))] ++ (gS t q1 b2 iniS ++ (gS t q3 b4 iniS ++ (gE t q5 b6 iniE ++ ([(q7, .inl (t 1, 6, .inr (.inr (.inr (.inr (va_up (fun _ => none) (Int32.toNatClampNeg 0) (some q8)))))))] ++ (gS t q8 b9 iniS)))))) H := hP
  have hD : va_D A ([(xa, .inr (2, [.ref q1, .ref q3, .ref q5, .ref q7, .int 0, .int 0, .null, .int 0]))] ++ (gS t q1 b2 iniS ++ (gS t q3 b4 iniS ++ (gE t q5 b6 iniE ++ ([(q7, .inl (t 1, 6, .inr (.inr (.inr (.inr (va_up (fun _ => none) (Int32.toNatClampNeg 0) (some q8)))))))] ++ (gS t q8 b9 iniS)))))) := hD
  refine lv_iinc (v := 1) (lv' := [(1, .int 1), (0, .ref xa)]) hx hb dX2_init_70 hl (k := 0) rfl (by decide) (by decide) rfl (fun ls hl => ?_)
  refine lv_goto (tgt := 48) hx hb dX2_init_73 (by decide) ?_
  refine lv_iload_n hx hb dX2_init_48 rfl (lv_at hl 0 rfl) ?_
  refine lv_aload_n hx hb dX2_init_49 rfl (lv_at hl 1 rfl) ?_
  refine va_get (D := D) (ci := 2) (v := .ref q7) (C := RX2) (T := TX2) (N := 8) hx hb htB inlX2 hown hK hP 0 rfl rfl 3 (by decide) (htB _ kw18) (fun _ h9 => h9) rfl dX2_init_50 ?_
  refine va_alen (v := 6) hx hb hK hP 21 1 rfl rfl rfl dX2_init_53 ?_
  refine lv_icmp_ge (tgt := 76) hx hb dX2_init_54 (by decide) (fun c9 => absurd c9 (by decide)) (fun _ => ?_)
  refine lv_aload_n hx hb dX2_init_57 rfl (lv_at hl 1 rfl) ?_
  refine va_get (D := D) (ci := 2) (v := .ref q7) (C := RX2) (T := TX2) (N := 8) hx hb htB inlX2 hown hK hP 0 rfl rfl 3 (by decide) (htB _ kw18) (fun _ h9 => h9) rfl dX2_init_58 ?_
  refine lv_iload_n hx hb dX2_init_61 rfl (lv_at hl 0 rfl) ?_
  refine va_new (ci := 1) (fs := [.null, .null, .null, .null, .null, .null, .null, .int 0, .int 0, .int 0]) (C := RX1) (T := TX1) (N := 10) hx hb htB inlX1 tyX1 tyX1_ok hown (htB _ kw9) (htB _ kw10) (htB _ kw11) hK hP hD hS hA rfl (by decide +kernel) (Nat.le_of_ble_eq_true rfl) (Nat.le_of_ble_eq_true rfl) dX2_init_62 (fun q10 H hP hD hS => ?_)
  have hP : va_P D vwCl ([(xa, .inr (2, [.ref q1, .ref q3, .ref q5, .ref q7, .int 0, .int 0, .null, .int 0]))] ++ (gS t q1 b2 iniS ++ (gS t q3 b4 iniS ++ (gE t q5 b6 iniE ++ ([(q7, .inl (t 1, 6, .inr (.inr (.inr (.inr (va_up (fun _ => none) (Int32.toNatClampNeg 0) (some q8)))))))] ++ (gS t q8 b9 iniS ++ ([(q10, .inr (1, [.null, .null, .null, .null, .null, .null, .null, .int 0, .int 0, .int 0]))]))))))) H := hP
  have hD : va_D A ([(xa, .inr (2, [.ref q1, .ref q3, .ref q5, .ref q7, .int 0, .int 0, .null, .int 0]))] ++ (gS t q1 b2 iniS ++ (gS t q3 b4 iniS ++ (gE t q5 b6 iniE ++ ([(q7, .inl (t 1, 6, .inr (.inr (.inr (.inr (va_up (fun _ => none) (Int32.toNatClampNeg 0) (some q8)))))))] ++ (gS t q8 b9 iniS ++ ([(q10, .inr (1, [.null, .null, .null, .null, .null, .null, .null, .int 0, .int 0, .int 0]))]))))))) := hD
  refine lv_dup hx hb dX2_init_65 rfl ?_
  have hFc := va_free (wc := [(q10, .inr (1, [.null, .null, .null, .null, .null, .null, .null, .int 0, .int 0, .int 0]))]) hD hS hA [30] rfl
  refine va_callv (va_runI (As := []) (rest := [.ref q10, .int 1, .ref q7]) ⟨hx, hb, hml, hown, hts⟩ (mtX1_init l D t q10 H.size) (cwI 0 hts (gB kw26) rfl rfl rfl (htB _ kw11) (htB _ kw24) (htB _ kw25) rfl (by decide +kernel) ⟨Nat.le_of_ble_eq_true rfl, Nat.le_of_ble_eq_true rfl⟩) (sPc_S (hP.pick0 [30] rfl) hK (hD.sub [30] rfl rfl) hE) rfl rfl hl.1 rfl (lv_room (Nat.le_of_ble_eq_true rfl)) dX2_init_66 ⟨Nat.le_of_ble_eq_true rfl, Nat.le_of_ble_eq_true rfl⟩) hS (fun q9 _ h9 => hFc q9 h9) hFc (fun b11 t9 H9 locs9 ht9 hvm9 hw9 hB9 hz9 hk9 hS => ?_)
  obtain ⟨hP9, -, hD9⟩ := hB9
  rw [ht9] at hP9
  obtain ⟨hP, hD⟩ := va_join (wr := ([(xa, .inr (2, [.ref q1, .ref q3, .ref q5, .ref q7, .int 0, .int 0, .null, .int 0]))] ++ (gS t q1 b2 iniS ++ (gS t q3 b4 iniS ++ (gE t q5 b6 iniE ++ ([(q7, .inl (t 1, 6, .inr (.inr (.inr (.inr (va_up (fun _ => none) (Int32.toNatClampNeg 0) (some q8)))))))] ++ (gS t q8 b9 iniS))))))) (w1 := gS t q10 b11 iniS) hP hD [30] [0, 1, 2, 3, 4, 5, 6, 7, 8, 9, 10, 11, 12, 13, 14, 15, 16, 17, 18, 19, 20, 21, 22, 23, 24, 25, 26, 27, 28, 29] rfl rfl rfl (by decide) hk9 hFc hP9 hD9
  generalize H9 = H at hP hS ⊢
  have hP : va_P D vwCl ([(xa, .inr (2, [.ref q1, .ref q3, .ref q5, .ref q7, .int 0, .int 0, .null, .int 0]))] ++ (gS t q1 b2 iniS ++ (gS t q3 b4 iniS ++ (gE t q5 b6 iniE ++ ([(q7, .inl (t 1, 6, .inr (.inr (.inr (.inr (va_up (fun _ => none) (Int32.toNatClampNeg 0) (some q8)))))))] ++ (gS t q8 b9 iniS ++ (gS t q10 b11 iniS))))))) H := hP
  have hD : va_D A ([(xa, .inr (2, [.ref q1, .ref q3, .ref q5, .ref q7, .int 0, .int 0, .null, .int 0]))] ++ (gS t q1 b2 iniS ++ (gS t q3 b4 iniS ++ (gE t q5 b6 iniE ++ ([(q7, .inl (t 1, 6, .inr (.inr (.inr (.inr (va_up (fun _ => none) (Int32.toNatClampNeg 0) (some q8)))))))] ++ (gS t q8 b9 iniS ++ (gS t q10 b11 iniS))))))) := hD
  refine va_astq (r := (RX1, TX1, 10)) hx hb hK hP hD hS 21 1 30 1 rfl rfl rfl rfl (pin_in (by decide)) dX2_init_69 (fun H locs hP hD hS => ?_)
  have hP : va_P D vwCl ([(xa, .inr (2, [.ref q1, .ref q3, .ref q5, .ref q7, .int 0, .int 0, .null, .int 0]))] ++ (gS t q1 b2 iniS ++ (gS t q3 b4 iniS ++ (gE t q5 b6 iniE ++ ([(q7, .inl (t 1, 6, .inr (.inr (.inr (.inr (va_up (va_up (fun _ => none) (Int32.toNatClampNeg 0) (some q8)) (Int32.toNatClampNeg 1) (some q10)))))))] ++ (gS t q8 b9 iniS ++ (gS t q10 b11 iniS))))))) H := hP
  have hD : va_D A ([(xa, .inr (2, [.ref q1, .ref q3, .ref q5, .ref q7, .int 0, .int 0, .null, .int 0]))] ++ (gS t q1 b2 iniS ++ (gS t q3 b4 iniS ++ (gE t q5 b6 iniE ++ ([(q7, .inl (t 1, 6, .inr (.inr (.inr (.inr (va_up (va_up (fun _ => none) (Int32.toNatClampNeg 0) (some q8)) (Int32.toNatClampNeg 1) (some q10)))))))] ++ (gS t q8 b9 iniS ++ (gS t q10 b11 iniS))))))) := hD
  refine lv_iinc (v := 2) (lv' := [(1, .int 2), (0, .ref xa)]) hx hb dX2_init_70 hl (k := 0) rfl (by decide) (by decide) rfl (fun ls hl => ?_)
  refine lv_goto (tgt := 48) hx hb dX2_init_73 (by decide) ?_
  refine lv_iload_n hx hb dX2_init_48 rfl (lv_at hl 0 rfl) ?_
  refine lv_aload_n hx hb dX2_init_49 rfl (lv_at hl 1 rfl) ?_
  refine va_get (D := D) (ci := 2) (v := .ref q7) (C := RX2) (T := TX2) (N := 8) hx hb htB inlX2 hown hK hP 0 rfl rfl 3 (by decide) (htB _ kw18) (fun _ h9 => h9) rfl dX2_init_50 ?_
  refine va_alen (v := 6) hx hb hK hP 21 1 rfl rfl rfl dX2_init_53 ?_
  refine lv_icmp_ge (tgt := 76) hx hb dX2_init_54 (by decide) (fun c9 => absurd c9 (by decide)) (fun _ => ?_)
  refine lv_aload_n hx hb dX2_init_57 rfl (lv_at hl 1 rfl) ?_
  refine va_get (D := D) (ci := 2) (v := .ref q7) (C := RX2) (T := TX2) (N := 8) hx hb htB inlX2 hown hK hP 0 rfl rfl 3 (by decide) (htB _ kw18) (fun _ h9 => h9) rfl dX2_init_58 ?_
  refine lv_iload_n hx hb dX2_init_61 rfl (lv_at hl 0 rfl) ?_
  refine va_new (ci := 1) (fs := [.null, .null, .null, .null, .null, .null, .null, .int 0, .int 0, .int 0]) (C := RX1) (T := TX1) (N := 10) hx hb htB inlX1 tyX1 tyX1_ok hown (htB _ kw9) (htB _ kw10) (htB _ kw11) hK hP hD hS hA rfl (by decide +kernel) (Nat.le_of_ble_eq_true rfl) (Nat.le_of_ble_eq_true rfl) dX2_init_62 (fun q12 H hP hD hS => ?_)
  have hP : va_P D vwCl ([(xa, .inr (2, [.ref q1, .ref q3, .ref q5, .ref q7, .int 0, .int 0, .null, .int 0]))] ++ (gS t q1 b2 iniS ++ (gS t q3 b4 iniS ++ (gE t q5 b6 iniE ++ ([(q7, .inl (t 1, 6, .inr (.inr (.inr (.inr (va_up (va_up (fun _ => none) (Int32.toNatClampNeg 0) (some q8)) (Int32.toNatClampNeg 1) (some q10)))))))] ++ (gS t q8 b9 iniS ++ (gS t q10 b11 iniS ++ ([(q12, .inr (1, [.null, .null, .null, .null, .null, .null, .null, .int 0, .int 0, .int 0]))])))))))) H := hP
  have hD : va_D A ([(xa, .inr (2, [.ref q1, .ref q3, .ref q5, .ref q7, .int 0, .int 0, .null, .int 0]))] ++ (gS t q1 b2 iniS ++ (gS t q3 b4 iniS ++ (gE t q5 b6 iniE ++ ([(q7, .inl (t 1, 6, .inr (.inr (.inr (.inr (va_up (va_up (fun _ => none) (Int32.toNatClampNeg 0) (some q8)) (Int32.toNatClampNeg 1) (some q10)))))))] ++ (gS t q8 b9 iniS ++ (gS t q10 b11 iniS ++ ([(q12, .inr (1, [.null, .null, .null, .null, .null, .null, .null, .int 0, .int 0, .int 0]))])))))))) := hD
  refine lv_dup hx hb dX2_init_65 rfl ?_
  have hFc := va_free (wc := [(q12, .inr (1, [.null, .null, .null, .null, .null, .null, .null, .int 0, .int 0, .int 0]))]) hD hS hA [38] rfl
  refine va_callv (va_runI (As := []) (rest := [.ref q12, .int 2, .ref q7]) ⟨hx, hb, hml, hown, hts⟩ (mtX1_init l D t q12 H.size) (cwI 0 hts (gB kw26) rfl rfl rfl (htB _ kw11) (htB _ kw24) (htB _ kw25) rfl (by decide +kernel) ⟨Nat.le_of_ble_eq_true rfl, Nat.le_of_ble_eq_true rfl⟩) (sPc_S (hP.pick0 [38] rfl) hK (hD.sub [38] rfl rfl) hE) rfl rfl hl.1 rfl (lv_room (Nat.le_of_ble_eq_true rfl)) dX2_init_66 ⟨Nat.le_of_ble_eq_true rfl, Nat.le_of_ble_eq_true rfl⟩) hS (fun q9 _ h9 => hFc q9 h9) hFc (fun b13 t9 H9 locs9 ht9 hvm9 hw9 hB9 hz9 hk9 hS => ?_)
  obtain ⟨hP9, -, hD9⟩ := hB9
  rw [ht9] at hP9
  obtain ⟨hP, hD⟩ := va_join (wr := ([(xa, .inr (2, [.ref q1, .ref q3, .ref q5, .ref q7, .int 0, .int 0, .null, .int 0]))] ++ (gS t q1 b2 iniS ++ (gS t q3 b4 iniS ++ (gE t q5 b6 iniE ++ ([(q7, .inl (t 1, 6, .inr (.inr (.inr (.inr (va_up (va_up (fun _ => none) (Int32.toNatClampNeg 0) (some q8)) (Int32.toNatClampNeg 1) (some q10)))))))] ++ (gS t q8 b9 iniS ++ (gS t q10 b11 iniS)))))))) (w1 := gS t q12 b13 iniS) hP hD [38] [0, 1, 2, 3, 4, 5, 6, 7, 8, 9, 10, 11, 12, 13, 14, 15, 16, 17, 18, 19, 20, 21, 22, 23, 24, 25, 26, 27, 28, 29, 30, 31, 32, 33, 34, 35, 36, 37] rfl rfl rfl (by decide) hk9 hFc hP9 hD9
  generalize H9 = H at hP hS ⊢
  have hP : va_P D vwCl ([(xa, .inr (2, [.ref q1, .ref q3, .ref q5, .ref q7, .int 0, .int 0, .null, .int 0]))] ++ (gS t q1 b2 iniS ++ (gS t q3 b4 iniS ++ (gE t q5 b6 iniE ++ ([(q7, .inl (t 1, 6, .inr (.inr (.inr (.inr (va_up (va_up (fun _ => none) (Int32.toNatClampNeg 0) (some q8)) (Int32.toNatClampNeg 1) (some q10)))))))] ++ (gS t q8 b9 iniS ++ (gS t q10 b11 iniS ++ (gS t q12 b13 iniS)))))))) H := hP
  have hD : va_D A ([(xa, .inr (2, [.ref q1, .ref q3, .ref q5, .ref q7, .int 0, .int 0, .null, .int 0]))] ++ (gS t q1 b2 iniS ++ (gS t q3 b4 iniS ++ (gE t q5 b6 iniE ++ ([(q7, .inl (t 1, 6, .inr (.inr (.inr (.inr (va_up (va_up (fun _ => none) (Int32.toNatClampNeg 0) (some q8)) (Int32.toNatClampNeg 1) (some q10)))))))] ++ (gS t q8 b9 iniS ++ (gS t q10 b11 iniS ++ (gS t q12 b13 iniS)))))))) := hD
  refine va_astq (r := (RX1, TX1, 10)) hx hb hK hP hD hS 21 1 38 1 rfl rfl rfl rfl (pin_in (by decide)) dX2_init_69 (fun H locs hP hD hS => ?_)
  have hP : va_P D vwCl ([(xa, .inr (2, [.ref q1, .ref q3, .ref q5, .ref q7, .int 0, .int 0, .null, .int 0]))] ++ (gS t q1 b2 iniS ++ (gS t q3 b4 iniS ++ (gE t q5 b6 iniE ++ ([(q7, .inl (t 1, 6, .inr (.inr (.inr (.inr (va_up (va_up (va_up (fun _ => none) (Int32.toNatClampNeg 0) (some q8)) (Int32.toNatClampNeg 1) (some q10)) (Int32.toNatClampNeg 2) (some q12)))))))] ++ (gS t q8 b9 iniS ++ (gS t q10 b11 iniS ++ (gS t q12 b13 iniS)))))))) H := hP
  have hD : va_D A ([(xa, .inr (2, [.ref q1, .ref q3, .ref q5, .ref q7, .int 0, .int 0, .null, .int 0]))] ++ (gS t q1 b2 iniS ++ (gS t q3 b4 iniS ++ (gE t q5 b6 iniE ++ ([(q7, .inl (t 1, 6, .inr (.inr (.inr (.inr (va_up (va_up (va_up (fun _ => none) (Int32.toNatClampNeg 0) (some q8)) (Int32.toNatClampNeg 1) (some q10)) (Int32.toNatClampNeg 2) (some q12)))))))] ++ (gS t q8 b9 iniS ++ (gS t q10 b11 iniS ++ (gS t q12 b13 iniS)))))))) := hD
  refine lv_iinc (v := 3) (lv' := [(1, .int 3), (0, .ref xa)]) hx hb dX2_init_70 hl (k := 0) rfl (by decide) (by decide) rfl (fun ls hl => ?_)
  refine lv_goto (tgt := 48) hx hb dX2_init_73 (by decide) ?_
  refine lv_iload_n hx hb dX2_init_48 rfl (lv_at hl 0 rfl) ?_
  refine lv_aload_n hx hb dX2_init_49 rfl (lv_at hl 1 rfl) ?_
  refine va_get (D := D) (ci := 2) (v := .ref q7) (C := RX2) (T := TX2) (N := 8) hx hb htB inlX2 hown hK hP 0 rfl rfl 3 (by decide) (htB _ kw18) (fun _ h9 => h9) rfl dX2_init_50 ?_
  refine va_alen (v := 6) hx hb hK hP 21 1 rfl rfl rfl dX2_init_53 ?_
  refine lv_icmp_ge (tgt := 76) hx hb dX2_init_54 (by decide) (fun c9 => absurd c9 (by decide)) (fun _ => ?_)
  refine lv_aload_n hx hb dX2_init_57 rfl (lv_at hl 1 rfl) ?_
  refine va_get (D := D) (ci := 2) (v := .ref q7) (C := RX2) (T := TX2) (N := 8) hx hb htB inlX2 hown hK hP 0 rfl rfl 3 (by decide) (htB _ kw18) (fun _ h9 => h9) rfl dX2_init_58 ?_
  refine lv_iload_n hx hb dX2_init_61 rfl (lv_at hl 0 rfl) ?_
  refine va_new (ci := 1) (fs := [.null, .null, .null, .null, .null, .null, .null, .int 0, .int 0, .int 0]) (C := RX1) (T := TX1) (N := 10) hx hb htB inlX1 tyX1 tyX1_ok hown (htB _ kw9) (htB _ kw10) (htB _ kw11) hK hP hD hS hA rfl (by decide +kernel) (Nat.le_of_ble_eq_true rfl) (Nat.le_of_ble_eq_true rfl) dX2_init_62 (fun q14 H hP hD hS => ?_)
  have hP : va_P D vwCl ([(xa, .inr (2, [.ref q1, .ref q3, .ref q5, .ref q7, .int 0, .int 0, .null, .int 0]))] ++ (gS t q1 b2 iniS ++ (gS t q3 b4 iniS ++ (gE t q5 b6 iniE ++ ([(q7, .inl (t 1, 6, .inr (.inr (.inr (.inr (va_up (va_up (va_up (fun _ => none) (Int32.toNatClampNeg 0) (some q8)) (Int32.toNatClampNeg 1) (some q10)) (Int32.toNatClampNeg 2) (some q12)))))))] ++ (gS t q8 b9 iniS ++ (gS t q10 b11 iniS ++ (gS t q12 b13 iniS ++ ([(q14, .inr (1, [.null, .null, .null, .null, .null, .null, .null, .int 0, .int 0, .int 0]))]))))))))) H := hP
  have hD : va_D A ([(xa, .inr (2, [.ref q1, .ref q3, .ref q5, .ref q7, .int 0, .int 0, .null, .int 0]))] ++ (gS t q1 b2 iniS ++ (gS t q3 b4 iniS ++ (gE t q5 b6 iniE ++ ([(q7, .inl (t 1, 6, .inr (.inr (.inr (.inr (va_up (va_up (va_up (fun _ => none) (Int32.toNatClampNeg 0) (some q8)) (Int32.toNatClampNeg 1) (some q10)) (Int32.toNatClampNeg 2) (some q12)))))))] ++ (gS t q8 b9 iniS ++ (gS t q10 b11 iniS ++ (gS t q12 b13 iniS ++ ([(q14, .inr (1, [.null, .null, .null, .null, .null, .null, .null, .int 0, .int 0, .int 0]))]))))))))) := hD
  refine lv_dup hx hb dX2_init_65 rfl ?_
  have hFc := va_free (wc := [(q14, .inr (1, [.null, .null, .null, .null, .null, .null, .null, .int 0, .int 0, .int 0]))]) hD hS hA [46] rfl
  refine va_callv (va_runI (As := []) (rest := [.ref q14, .int 3, .ref q7]) ⟨hx, hb, hml, hown, hts⟩ (mtX1_init l D t q14 H.size) (cwI 0 hts (gB kw26) rfl rfl rfl (htB _ kw11) (htB _ kw24) (htB _ kw25) rfl (by decide +kernel) ⟨Nat.le_of_ble_eq_true rfl, Nat.le_of_ble_eq_true rfl⟩) (sPc_S (hP.pick0 [46] rfl) hK (hD.sub [46] rfl rfl) hE) rfl rfl hl.1 rfl (lv_room (Nat.le_of_ble_eq_true rfl)) dX2_init_66 ⟨Nat.le_of_ble_eq_true rfl, Nat.le_of_ble_eq_true rfl⟩) hS (fun q9 _ h9 => hFc q9 h9) hFc (fun b15 t9 H9 locs9 ht9 hvm9 hw9 hB9 hz9 hk9 hS => ?_)
  obtain ⟨hP9, -, hD9⟩ := hB9
  rw [ht9] at hP9
  obtain ⟨hP, hD⟩ := va_join (wr := ([(xa, .inr (2, [.ref q1, .ref q3, .ref q5, .ref q7, .int 0, .int 0, .null, .int 0]))] ++ (gS t q1 b2 iniS ++ (gS t q3 b4 iniS ++ (gE t q5 b6 iniE ++ ([(q7, .inl (t 1, 6, .inr (.inr (.inr (.inr (va_up (va_up (va_up (fun _ => none) (Int32.toNatClampNeg 0) (some q8)) (Int32.toNatClampNeg 1) (some q10)) (Int32.toNatClampNeg 2) (some q12)))))))] ++ (gS t q8 b9 iniS ++ (gS t q10 b11 iniS ++ (gS t q12 b13 iniS))))))))) (w1 := gS t q14 b15 iniS) hP hD [46] [0, 1, 2, 3, 4, 5, 6, 7, 8, 9, 10, 11, 12, 13, 14, 15, 16, 17, 18, 19, 20, 21, 22, 23, 24, 25, 26, 27, 28, 29, 30, 31, 32, 33, 34, 35, 36, 37, 38, 39, 40, 41, 42, 43, 44, 45] rfl rfl rfl (by decide) hk9 hFc hP9 hD9
  generalize H9 = H at hP hS ⊢
  have hP : va_P D vwCl ([(xa, .inr (2, [.ref q1, .ref q3, .ref q5, .ref q7, .int 0, .int 0, .null, .int 0]))] ++ (gS t q1 b2 iniS ++ (gS t q3 b4 iniS ++ (gE t q5 b6 iniE ++ ([(q7, .inl (t 1, 6, .inr (.inr (.inr (.inr (va_up (va_up (va_up (fun _ => none) (Int32.toNatClampNeg 0) (some q8)) (Int32.toNatClampNeg 1) (some q10)) (Int32.toNatClampNeg 2) (some q12)))))))] ++ (gS t q8 b9 iniS ++ (gS t q10 b11 iniS ++ (gS t q12 b13 iniS ++ (gS t q14 b15 iniS))))))))) H := hP
  have hD : va_D A ([(xa, .inr (2, [.ref q1, .ref q3, .ref q5, .ref q7, .int 0, .int 0, .null, .int 0]))] ++ (gS t q1 b2 iniS ++ (gS t q3 b4 iniS ++ (gE t q5 b6 iniE ++ ([(q7, .inl (t 1, 6, .inr (.inr (.inr (.inr (va_up (va_up (va_up (fun _ => none) (Int32.toNatClampNeg 0) (some q8)) (Int32.toNatClampNeg 1) (some q10)) (Int32.toNatClampNeg 2) (some q12)))))))] ++ (gS t q8 b9 iniS ++ (gS t q10 b11 iniS ++ (gS t q12 b13 iniS ++ (gS t q14 b15 iniS))))))))) := hD
  refine va_astq (r := (RX1, TX1, 10)) hx hb hK hP hD hS 21 1 46 1 rfl rfl rfl rfl (pin_in (by decide)) dX2_init_69 (fun H locs hP hD hS => ?_)
  have hP : va_P D vwCl ([(xa, .inr (2, [.ref q1, .ref q3, .ref q5, .ref q7, .int 0, .int 0, .null, .int 0]))] ++ (gS t q1 b2 iniS ++ (gS t q3 b4 iniS ++ (gE t q5 b6 iniE ++ ([(q7, .inl (t 1, 6, .inr (.inr (.inr (.inr (va_up (va_up (va_up (va_up (fun _ => none) (Int32.toNatClampNeg 0) (some q8)) (Int32.toNatClampNeg 1) (some q10)) (Int32.toNatClampNeg 2) (some q12)) (Int32.toNatClampNeg 3) (some q14)))))))] ++ (gS t q8 b9 iniS ++ (gS t q10 b11 iniS ++ (gS t q12 b13 iniS ++ (gS t q14 b15 iniS))))))))) H := hP
  have hD : va_D A ([(xa, .inr (2, [.ref q1, .ref q3, .ref q5, .ref q7, .int 0, .int 0, .null, .int 0]))] ++ (gS t q1 b2 iniS ++ (gS t q3 b4 iniS ++ (gE t q5 b6 iniE ++ ([(q7, .inl (t 1, 6, .inr (.inr (.inr (.inr (va_up (va_up (va_up (va_up (fun _ => none) (Int32.toNatClampNeg 0) (some q8)) (Int32.toNatClampNeg 1) (some q10)) (Int32.toNatClampNeg 2) (some q12)) (Int32.toNatClampNeg 3) (some q14)))))))] ++ (gS t q8 b9 iniS ++ (gS t q10 b11 iniS ++ (gS t q12 b13 iniS ++ (gS t q14 b15 iniS))))))))) := hD
  refine lv_iinc (v := 4) (lv' := [(1, .int 4), (0, .ref xa)]) hx hb dX2_init_70 hl (k := 0) rfl (by decide) (by decide) rfl (fun ls hl => ?_)
  refine lv_goto (tgt := 48) hx hb dX2_init_73 (by decide) ?_
  refine lv_iload_n hx hb dX2_init_48 rfl (lv_at hl 0 rfl) ?_
  refine lv_aload_n hx hb dX2_init_49 rfl (lv_at hl 1 rfl) ?_
  refine va_get (D := D) (ci := 2) (v := .ref q7) (C := RX2) (T := TX2) (N := 8) hx hb htB inlX2 hown hK hP 0 rfl rfl 3 (by decide) (htB _ kw18) (fun _ h9 => h9) rfl dX2_init_50 ?_
  refine va_alen (v := 6) hx hb hK hP 21 1 rfl rfl rfl dX2_init_53 ?_
  refine lv_icmp_ge (tgt := 76) hx hb dX2_init_54 (by decide) (fun c9 => absurd c9 (by decide)) (fun _ => ?_)
  refine lv_aload_n hx hb dX2_init_57 rfl (lv_at hl 1 rfl) ?_
  refine va_get (D := D) (ci := 2) (v := .ref q7) (C := RX2) (T := TX2) (N := 8) hx hb htB inlX2 hown hK hP 0 rfl rfl 3 (by decide) (htB _ kw18) (fun _ h9 => h9) rfl dX2_init_58 ?_
  refine lv_iload_n hx hb dX2_init_61 rfl (lv_at hl 0 rfl) ?_
  refine va_new (ci := 1) (fs := [.null, .null, .null, .null, .null, .null, .null, .int 0, .int 0, .int 0]) (C := RX1) (T := TX1) (N := 10) hx hb htB inlX1 tyX1 tyX1_ok hown (htB _ kw9) (htB _ kw10) (htB _ kw11) hK hP hD hS hA rfl (by decide +kernel) (Nat.le_of_ble_eq_true rfl) (Nat.le_of_ble_eq_true rfl) dX2_init_62 (fun q16 H hP hD hS => ?_)
  have hP : va_P D vwCl ([(xa, .inr (2, [.ref q1, .ref q3, .ref q5, .ref q7, .int 0, .int 0, .null, .int 0]))] ++ (gS t q1 b2 iniS ++ (gS t q3 b4 iniS ++ (gE t q5 b6 iniE ++ ([(q7, .inl (t 1, 6, .inr (.inr (.inr (.inr (va_up (va_up (va_up (va_up (fun _ => none) (Int32.toNatClampNeg 0) (some q8)) (Int32.toNatClampNeg 1) (some q10)) (Int32.toNatClampNeg 2) (some q12)) (Int32.toNatClampNeg 3) (some q14)))))))] ++ (gS t q8 b9 iniS ++ (gS t q10 b11 iniS ++ (gS t q12 b13 iniS ++ (gS t q14 b15 iniS ++ ([(q16, .inr (1, [.null, .null, .null, .null, .null, .null, .null, .int 0, .int 0, .int 0]))])))))))))) H := hP
  have hD : va_D A ([(xa, .inr (2, [.ref q1, .ref q3, .ref q5, .ref q7, .int 0, .int 0, .null, .int 0]))] ++ (gS t q1 b2 iniS ++ (gS t q3 b4 iniS ++ (gE t q5 b6 iniE ++ ([(q7, .inl (t 1, 6, .inr (.inr (.inr (.inr (va_up (va_up (va_up (va_up (fun _ => none) (Int32.toNatClampNeg 0) (some q8)) (Int32.toNatClampNeg 1) (some q10)) (Int32.toNatClampNeg 2) (some q12)) (Int32.toNatClampNeg 3) (some q14)))))))] ++ (gS t q8 b9 iniS ++ (gS t q10 b11 iniS ++ (gS t q12 b13 iniS ++ (gS t q14 b15 iniS ++ ([(q16, .inr (1, [.null, .null, .null, .null, .null, .null, .null, .int 0, .int 0, .int 0]))])))))))))) := hD
  refine lv_dup hx hb dX2_init_65 rfl ?_
  have hFc := va_free (wc := [(q16, .inr (1, [.null, .null, .null, .null, .null, .null, .null, .int 0, .int 0, .int 0]))]) hD hS hA [54] rfl
  refine va_callv (va_runI (As := []) (rest := [.ref q16, .int 4, .ref q7]) ⟨hx, hb, hml, hown, hts⟩ (mtX1_init l D t q16 H.size) (cwI 0 hts (gB kw26) rfl rfl rfl (htB _ kw11) (htB _ kw24) (htB _ kw25) rfl (by decide +kernel) ⟨Nat.le_of_ble_eq_true rfl, Nat.le_of_ble_eq_true rfl⟩) (sPc_S (hP.pick0 [54] rfl) hK (hD.sub [54] rfl rfl) hE) rfl rfl hl.1 rfl (lv_room (Nat.le_of_ble_eq_true rfl)) dX2_init_66 ⟨Nat.le_of_ble_eq_true rfl, Nat.le_of_ble_eq_true rfl⟩) hS (fun q9 _ h9 => hFc q9 h9) hFc (fun b17 t9 H9 locs9 ht9 hvm9 hw9 hB9 hz9 hk9 hS => ?_)
  obtain ⟨hP9, -, hD9⟩ := hB9
  rw [ht9] at hP9
  obtain ⟨hP, hD⟩ := va_join (wr := ([(xa, .inr (2, [.ref q1, .ref q3, .ref q5, .ref q7, .int 0, .int 0, .null, .int 0]))] ++ (gS t q1 b2 iniS ++ (gS t q3 b4 iniS ++ (gE t q5 b6 iniE ++ ([(q7, .inl (t 1, 6, .inr (.inr (.inr (.inr (va_up (va_up (va_up (va_up (fun _ => none) (Int32.toNatClampNeg 0) (some q8)) (Int32.toNatClampNeg 1) (some q10)) (Int32.toNatClampNeg 2) (some q12)) (Int32.toNatClampNeg 3) (some q14)))))))] ++ (gS t q8 b9 iniS ++ (gS t q10 b11 iniS ++ (gS t q12 b13 iniS ++ (gS t q14 b15 iniS)))))))))) (w1 := gS t q16 b17 iniS) hP hD [54] [0, 1, 2, 3, 4, 5, 6, 7, 8, 9, 10, 11, 12, 13, 14, 15, 16, 17, 18, 19, 20, 21, 22, 23, 24, 25, 26, 27, 28, 29, 30, 31, 32, 33, 34, 35, 36, 37, 38, 39, 40, 41, 42, 43, 44, 45, 46, 47, 48, 49, 50, 51, 52, 53] rfl rfl rfl (by decide) hk9 hFc hP9 hD9
  generalize H9 = H at hP hS ⊢
  have hP : va_P D vwCl ([(xa, .inr (2, [.ref q1, .ref q3, .ref q5, .ref q7, .int 0, .int 0, .null, .int 0]))] ++ (gS t q1 b2 iniS ++ (gS t q3 b4 iniS ++ (gE t q5 b6 iniE ++ ([(q7, .inl (t 1, 6, .inr (.inr (.inr (.inr (va_up (va_up (va_up (va_up (fun _ => none) (Int32.toNatClampNeg 0) (some q8)) (Int32.toNatClampNeg 1) (some q10)) (Int32.toNatClampNeg 2) (some q12)) (Int32.toNatClampNeg 3) (some q14)))))))] ++ (gS t q8 b9 iniS ++ (gS t q10 b11 iniS ++ (gS t q12 b13 iniS ++ (gS t q14 b15 iniS ++ (gS t q16 b17 iniS)))))))))) H := hP
  have hD : va_D A ([(xa, .inr (2, [.ref q1, .ref q3, .ref q5, .ref q7, .int 0, .int 0, .null, .int 0]))] ++ (gS t q1 b2 iniS ++ (gS t q3 b4 iniS ++ (gE t q5 b6 iniE ++ ([(q7, .inl (t 1, 6, .inr (.inr (.inr (.inr (va_up (va_up (va_up (va_up (fun _ => none) (Int32.toNatClampNeg 0) (some q8)) (Int32.toNatClampNeg 1) (some q10)) (Int32.toNatClampNeg 2) (some q12)) (Int32.toNatClampNeg 3) (some q14)))))))] ++ (gS t q8 b9 iniS ++ (gS t q10 b11 iniS ++ (gS t q12 b13 iniS ++ (gS t q14 b15 iniS ++ (gS t q16 b17 iniS)))))))))) := hD
  refine va_astq (r := (RX1, TX1, 10)) hx hb hK hP hD hS 21 1 54 1 rfl rfl rfl rfl (pin_in (by decide)) dX2_init_69 (fun H locs hP hD hS => ?_)
  have hP : va_P D vwCl ([(xa, .inr (2, [.ref q1, .ref q3, .ref q5, .ref q7, .int 0, .int 0, .null, .int 0]))] ++ (gS t q1 b2 iniS ++ (gS t q3 b4 iniS ++ (gE t q5 b6 iniE ++ ([(q7, .inl (t 1, 6, .inr (.inr (.inr (.inr (va_up (va_up (va_up (va_up (va_up (fun _ => none) (Int32.toNatClampNeg 0) (some q8)) (Int32.toNatClampNeg 1) (some q10)) (Int32.toNatClampNeg 2) (some q12)) (Int32.toNatClampNeg 3) (some q14)) (Int32.toNatClampNeg 4) (some q16)))))))] ++ (gS t q8 b9 iniS ++ (gS t q10 b11 iniS ++ (gS t q12 b13 iniS ++ (gS t q14 b15 iniS ++ (gS t q16 b17 iniS)))))))))) H := hP
  have hD : va_D A ([(xa, .inr (2, [.ref q1, .ref q3, .ref q5, .ref q7, .int 0, .int 0, .null, .int 0]))] ++ (gS t q1 b2 iniS ++ (gS t q3 b4 iniS ++ (gE t q5 b6 iniE ++ ([(q7, .inl (t 1, 6, .inr (.inr (.inr (.inr (va_up (va_up (va_up (va_up (va_up (fun _ => none) (Int32.toNatClampNeg 0) (some q8)) (Int32.toNatClampNeg 1) (some q10)) (Int32.toNatClampNeg 2) (some q12)) (Int32.toNatClampNeg 3) (some q14)) (Int32.toNatClampNeg 4) (some q16)))))))] ++ (gS t q8 b9 iniS ++ (gS t q10 b11 iniS ++ (gS t q12 b13 iniS ++ (gS t q14 b15 iniS ++ (gS t q16 b17 iniS)))))))))) := hD
  refine lv_iinc (v := 5) (lv' := [(1, .int 5), (0, .ref xa)]) hx hb dX2_init_70 hl (k := 0) rfl (by decide) (by decide) rfl (fun ls hl => ?_)
  refine lv_goto (tgt := 48) hx hb dX2_init_73 (by decide) ?_
  refine lv_iload_n hx hb dX2_init_48 rfl (lv_at hl 0 rfl) ?_
  refine lv_aload_n hx hb dX2_init_49 rfl (lv_at hl 1 rfl) ?_
  refine va_get (D := D) (ci := 2) (v := .ref q7) (C := RX2) (T := TX2) (N := 8) hx hb htB inlX2 hown hK hP 0 rfl rfl 3 (by decide) (htB _ kw18) (fun _ h9 => h9) rfl dX2_init_50 ?_
  refine va_alen (v := 6) hx hb hK hP 21 1 rfl rfl rfl dX2_init_53 ?_
  refine lv_icmp_ge (tgt := 76) hx hb dX2_init_54 (by decide) (fun c9 => absurd c9 (by decide)) (fun _ => ?_)
  refine lv_aload_n hx hb dX2_init_57 rfl (lv_at hl 1 rfl) ?_
  refine va_get (D := D) (ci := 2) (v := .ref q7) (C := RX2) (T := TX2) (N := 8) hx hb htB inlX2 hown hK hP 0 rfl rfl 3 (by decide) (htB _ kw18) (fun _ h9 => h9) rfl dX2_init_58 ?_
  refine lv_iload_n hx hb dX2_init_61 rfl (lv_at hl 0 rfl) ?_
  refine va_new (ci := 1) (fs := [.null, .null, .null, .null, .null, .null, .null, .int 0, .int 0, .int 0]) (C := RX1) (T := TX1) (N := 10) hx hb htB inlX1 tyX1 tyX1_ok hown (htB _ kw9) (htB _ kw10) (htB _ kw11) hK hP hD hS hA rfl (by decide +kernel) (Nat.le_of_ble_eq_true rfl) (Nat.le_of_ble_eq_true rfl) dX2_init_62 (fun q18 H hP hD hS => ?_)
  have hP : va_P D vwCl ([(xa, .inr (2, [.ref q1, .ref q3, .ref q5, .ref q7, .int 0, .int 0, .null, .int 0]))] ++ (gS t q1 b2 iniS ++ (gS t q3 b4 iniS ++ (gE t q5 b6 iniE ++ ([(q7, .inl (t 1, 6, .inr (.inr (.inr (.inr (va_up (va_up (va_up (va_up (va_up (fun _ => none) (Int32.toNatClampNeg 0) (some q8)) (Int32.toNatClampNeg 1) (some q10)) (Int32.toNatClampNeg 2) (some q12)) (Int32.toNatClampNeg 3) (some q14)) (Int32.toNatClampNeg 4) (some q16)))))))] ++ (gS t q8 b9 iniS ++ (gS t q10 b11 iniS ++ (gS t q12 b13 iniS ++ (gS t q14 b15 iniS ++ (gS t q16 b17 iniS ++ ([(q18, .inr (1, [.null, .null, .null, .null, .null, .null, .null, .int 0, .int 0, .int 0]))]))))))))))) H := hP
  have hD : va_D A ([(xa, .inr (2, [.ref q1, .ref q3, .ref q5, .ref q7, .int 0, .int 0, .null, .int 0]))] ++ (gS t q1 b2 iniS ++ (gS t q3 b4 iniS ++ (gE t q5 b6 iniE ++ ([(q7, .inl (t 1, 6, .inr (.inr (.inr (.inr (va_up (va_up (va_up (va_up (va_up (fun _ => none) (Int32.toNatClampNeg 0) (some q8)) (Int32.toNatClampNeg 1) (some q10)) (Int32.toNatClampNeg 2) (some q12)) (Int32.toNatClampNeg 3) (some q14)) (Int32.toNatClampNeg 4) (some q16)))))))] ++ (gS t q8 b9 iniS ++ (gS t q10 b11 iniS ++ (gS t q12 b13 iniS ++ (gS t q14 b15 iniS ++ (gS t q16 b17 iniS ++ ([(q18, .inr (1, [.null, .null, .null, .null, .null, .null, .null, .int 0, .int 0, .int 0]))]))))))))))) := hD
  refine lv_dup hx hb dX2_init_65 rfl ?_
  have hFc := va_free (wc := [(q18, .inr (1, [.null, .null, .null, .null, .null, .null, .null, .int 0, .int 0, .int 0]))]) hD hS hA [62] rfl
  refine va_callv (va_runI (As := []) (rest := [.ref q18, .int 5, .ref q7]) ⟨hx, hb, hml, hown, hts⟩ (mtX1_init l D t q18 H.size) (cwI 0 hts (gB kw26) rfl rfl rfl (htB _ kw11) (htB _ kw24) (htB _ kw25) rfl (by decide +kernel) ⟨Nat.le_of_ble_eq_true rfl, Nat.le_of_ble_eq_true rfl⟩) (sPc_S (hP.pick0 [62] rfl) hK (hD.sub [62] rfl rfl) hE) rfl rfl hl.1 rfl (lv_room (Nat.le_of_ble_eq_true rfl)) dX2_init_66 ⟨Nat.le_of_ble_eq_true rfl, Nat.le_of_ble_eq_true rfl⟩) hS (fun q9 _ h9 => hFc q9 h9) hFc (fun b19 t9 H9 locs9 ht9 hvm9 hw9 hB9 hz9 hk9 hS => ?_)
  obtain ⟨hP9, -, hD9⟩ := hB9
  rw [ht9] at hP9
  obtain ⟨hP, hD⟩ := va_join (wr := ([(xa, .inr (2, [.ref q1, .ref q3, .ref q5, .ref q7, .int 0, .int 0, .null, .int 0]))] ++ (gS t q1 b2 iniS ++ (gS t q3 b4 iniS ++ (gE t q5 b6 iniE ++ ([(q7, .inl (t 1, 6, .inr (.inr (.inr (.inr (va_up (va_up (va_up (va_up (va_up (fun _ => none) (Int32.toNatClampNeg 0) (some q8)) (Int32.toNatClampNeg 1) (some q10)) (Int32.toNatClampNeg 2) (some q12)) (Int32.toNatClampNeg 3) (some q14)) (Int32.toNatClampNeg 4) (some q16)))))))] ++ (gS t q8 b9 iniS ++ (gS t q10 b11 iniS ++ (gS t q12 b13 iniS ++ (gS t q14 b15 iniS ++ (gS t q16 b17 iniS))))))))))) (w1 := gS t q18 b19 iniS) hP hD [62] [0, 1, 2, 3, 4, 5, 6, 7, 8, 9, 10, 11, 12, 13, 14, 15, 16, 17, 18, 19, 20, 21, 22, 23, 24, 25, 26, 27, 28, 29, 30, 31, 32, 33, 34, 35, 36, 37, 38, 39, 40, 41, 42, 43, 44, 45, 46, 47, 48, 49, 50, 51, 52, 53, 54, 55, 56, 57, 58, 59, 60, 61] rfl rfl rfl (by decide) hk9 hFc hP9 hD9
  generalize H9 = H at hP hS ⊢
  have hP : va_P D vwCl ([(xa, .inr (2, [.ref q1, .ref q3, .ref q5, .ref q7, .int 0, .int 0, .null, .int 0]))] ++ (gS t q1 b2 iniS ++ (gS t q3 b4 iniS ++ (gE t q5 b6 iniE ++ ([(q7, .inl (t 1, 6, .inr (.inr (.inr (.inr (va_up (va_up (va_up (va_up (va_up (fun _ => none) (Int32.toNatClampNeg 0) (some q8)) (Int32.toNatClampNeg 1) (some q10)) (Int32.toNatClampNeg 2) (some q12)) (Int32.toNatClampNeg 3) (some q14)) (Int32.toNatClampNeg 4) (some q16)))))))] ++ (gS t q8 b9 iniS ++ (gS t q10 b11 iniS ++ (gS t q12 b13 iniS ++ (gS t q14 b15 iniS ++ (gS t q16 b17 iniS ++ (gS t q18 b19 iniS))))))))))) H := hP
  have hD : va_D A ([(xa, .inr (2, [.ref q1, .ref q3, .ref q5, .ref q7, .int 0, .int 0, .null, .int 0]))] ++ (gS t q1 b2 iniS ++ (gS t q3 b4 iniS ++ (gE t q5 b6 iniE ++ ([(q7, .inl (t 1, 6, .inr (.inr (.inr (.inr (va_up (va_up (va_up (va_up (va_up (fun _ => none) (Int32.toNatClampNeg 0) (some q8)) (Int32.toNatClampNeg 1) (some q10)) (Int32.toNatClampNeg 2) (some q12)) (Int32.toNatClampNeg 3) (some q14)) (Int32.toNatClampNeg 4) (some q16)))))))] ++ (gS t q8 b9 iniS ++ (gS t q10 b11 iniS ++ (gS t q12 b13 iniS ++ (gS t q14 b15 iniS ++ (gS t q16 b17 iniS ++ (gS t q18 b19 iniS))))))))))) := hD
  refine va_astq (r := (RX1, TX1, 10)) hx hb hK hP hD hS 21 1 62 1 rfl rfl rfl rfl (pin_in (by decide)) dX2_init_69 (fun H locs hP hD hS => ?_)
  have hP : va_P D vwCl ([(xa, .inr (2, [.ref q1, .ref q3, .ref q5, .ref q7, .int 0, .int 0, .null, .int 0]))] ++ (gS t q1 b2 iniS ++ (gS t q3 b4 iniS ++ (gE t q5 b6 iniE ++ ([(q7, .inl (t 1, 6, .inr (.inr (.inr (.inr (va_up (va_up (va_up (va_up (va_up (va_up (fun _ => none) (Int32.toNatClampNeg 0) (some q8)) (Int32.toNatClampNeg 1) (some q10)) (Int32.toNatClampNeg 2) (some q12)) (Int32.toNatClampNeg 3) (some q14)) (Int32.toNatClampNeg 4) (some q16)) (Int32.toNatClampNeg 5) (some q18)))))))] ++ (gS t q8 b9 iniS ++ (gS t q10 b11 iniS ++ (gS t q12 b13 iniS ++ (gS t q14 b15 iniS ++ (gS t q16 b17 iniS ++ (gS t q18 b19 iniS))))))))))) H := hP
  have hD : va_D A ([(xa, .inr (2, [.ref q1, .ref q3, .ref q5, .ref q7, .int 0, .int 0, .null, .int 0]))] ++ (gS t q1 b2 iniS ++ (gS t q3 b4 iniS ++ (gE t q5 b6 iniE ++ ([(q7, .inl (t 1, 6, .inr (.inr (.inr (.inr (va_up (va_up (va_up (va_up (va_up (va_up (fun _ => none) (Int32.toNatClampNeg 0) (some q8)) (Int32.toNatClampNeg 1) (some q10)) (Int32.toNatClampNeg 2) (some q12)) (Int32.toNatClampNeg 3) (some q14)) (Int32.toNatClampNeg 4) (some q16)) (Int32.toNatClampNeg 5) (some q18)))))))] ++ (gS t q8 b9 iniS ++ (gS t q10 b11 iniS ++ (gS t q12 b13 iniS ++ (gS t q14 b15 iniS ++ (gS t q16 b17 iniS ++ (gS t q18 b19 iniS))))))))))) := hD
  refine lv_iinc (v := 6) (lv' := [(1, .int 6), (0, .ref xa)]) hx hb dX2_init_70 hl (k := 0) rfl (by decide) (by decide) rfl (fun ls hl => ?_)
  refine lv_goto (tgt := 48) hx hb dX2_init_73 (by decide) ?_
  refine lv_iload_n hx hb dX2_init_48 rfl (lv_at hl 0 rfl) ?_
  refine lv_aload_n hx hb dX2_init_49 rfl (lv_at hl 1 rfl) ?_
  refine va_get (D := D) (ci := 2) (v := .ref q7) (C := RX2) (T := TX2) (N := 8) hx hb htB inlX2 hown hK hP 0 rfl rfl 3 (by decide) (htB _ kw18) (fun _ h9 => h9) rfl dX2_init_50 ?_
  refine va_alen (v := 6) hx hb hK hP 21 1 rfl rfl rfl dX2_init_53 ?_
  refine lv_icmp_ge (tgt := 76) hx hb dX2_init_54 (by decide) (fun _ => ?_) (fun c9 => absurd (by decide) c9)
  refine lv_aload_n hx hb dX2_init_76 rfl (lv_at hl 1 rfl) ?_
  refine lv_iconst (v := 0) hx hb dX2_init_77 (by decide) ?_
  refine va_put (D := D) (ci := 2) (v := .int 0) (ty := .int) (C := RX2) (T := TX2) (N := 8) hx hb htB inlX2 tyX2 tyX2_ok nmX2 hown hK hP hD hS 0 rfl rfl 4 (by decide) (htB _ kw19) (fun _ h9 => h9) rfl (by decide +kernel) rfl rfl (Nat.le_of_ble_eq_true rfl) dX2_init_78 (fun H locs hP hD hS => ?_)
  have hP : va_P D vwCl ([(xa, .inr (2, [.ref q1, .ref q3, .ref q5, .ref q7, .int 0, .int 0, .null, .int 0]))] ++ (gS t q1 b2 iniS ++ (gS t q3 b4 iniS ++ (gE t q5 b6 iniE ++ ([(q7, .inl (t 1, 6, .inr (.inr (.inr (.inr (va_up (va_up (va_up (va_up (va_up (va_up (fun _ => none) (Int32.toNatClampNeg 0) (some q8)) (Int32.toNatClampNeg 1) (some q10)) (Int32.toNatClampNeg 2) (some q12)) (Int32.toNatClampNeg 3) (some q14)) (Int32.toNatClampNeg 4) (some q16)) (Int32.toNatClampNeg 5) (some q18)))))))] ++ (gS t q8 b9 iniS ++ (gS t q10 b11 iniS ++ (gS t q12 b13 iniS ++ (gS t q14 b15 iniS ++ (gS t q16 b17 iniS ++ (gS t q18 b19 iniS))))))))))) H := hP
  have hD : va_D A ([(xa, .inr (2, [.ref q1, .ref q3, .ref q5, .ref q7, .int 0, .int 0, .null, .int 0]))] ++ (gS t q1 b2 iniS ++ (gS t q3 b4 iniS ++ (gE t q5 b6 iniE ++ ([(q7, .inl (t 1, 6, .inr (.inr (.inr (.inr (va_up (va_up (va_up (va_up (va_up (va_up (fun _ => none) (Int32.toNatClampNeg 0) (some q8)) (Int32.toNatClampNeg 1) (some q10)) (Int32.toNatClampNeg 2) (some q12)) (Int32.toNatClampNeg 3) (some q14)) (Int32.toNatClampNeg 4) (some q16)) (Int32.toNatClampNeg 5) (some q18)))))))] ++ (gS t q8 b9 iniS ++ (gS t q10 b11 iniS ++ (gS t q12 b13 iniS ++ (gS t q14 b15 iniS ++ (gS t q16 b17 iniS ++ (gS t q18 b19 iniS))))))))))) := hD
  refine lv_aload_n hx hb dX2_init_81 rfl (lv_at hl 1 rfl) ?_
  refine lv_iconst (v := 0) hx hb dX2_init_82 (by decide) ?_
  refine va_put (D := D) (ci := 2) (v := .int 0) (ty := .int) (C := RX2) (T := TX2) (N := 8) hx hb htB inlX2 tyX2 tyX2_ok nmX2 hown hK hP hD hS 0 rfl rfl 5 (by decide) (htB _ kw20) (fun _ h9 => h9) rfl (by decide +kernel) rfl rfl (Nat.le_of_ble_eq_true rfl) dX2_init_83 (fun H locs hP hD hS => ?_)
  have hP : va_P D vwCl ([(xa, .inr (2, [.ref q1, .ref q3, .ref q5, .ref q7, .int 0, .int 0, .null, .int 0]))] ++ (gS t q1 b2 iniS ++ (gS t q3 b4 iniS ++ (gE t q5 b6 iniE ++ ([(q7, .inl (t 1, 6, .inr (.inr (.inr (.inr (va_up (va_up (va_up (va_up (va_up (va_up (fun _ => none) (Int32.toNatClampNeg 0) (some q8)) (Int32.toNatClampNeg 1) (some q10)) (Int32.toNatClampNeg 2) (some q12)) (Int32.toNatClampNeg 3) (some q14)) (Int32.toNatClampNeg 4) (some q16)) (Int32.toNatClampNeg 5) (some q18)))))))] ++ (gS t q8 b9 iniS ++ (gS t q10 b11 iniS ++ (gS t q12 b13 iniS ++ (gS t q14 b15 iniS ++ (gS t q16 b17 iniS ++ (gS t q18 b19 iniS))))))))))) H := hP
  have hD : va_D A ([(xa, .inr (2, [.ref q1, .ref q3, .ref q5, .ref q7, .int 0, .int 0, .null, .int 0]))] ++ (gS t q1 b2 iniS ++ (gS t q3 b4 iniS ++ (gE t q5 b6 iniE ++ ([(q7, .inl (t 1, 6, .inr (.inr (.inr (.inr (va_up (va_up (va_up (va_up (va_up (va_up (fun _ => none) (Int32.toNatClampNeg 0) (some q8)) (Int32.toNatClampNeg 1) (some q10)) (Int32.toNatClampNeg 2) (some q12)) (Int32.toNatClampNeg 3) (some q14)) (Int32.toNatClampNeg 4) (some q16)) (Int32.toNatClampNeg 5) (some q18)))))))] ++ (gS t q8 b9 iniS ++ (gS t q10 b11 iniS ++ (gS t q12 b13 iniS ++ (gS t q14 b15 iniS ++ (gS t q16 b17 iniS ++ (gS t q18 b19 iniS))))))))))) := hD
  refine lv_aload_n hx hb dX2_init_86 rfl (lv_at hl 1 rfl) ?_
  refine lv_bipush (v := 60) hx hb dX2_init_87 (by decide) ?_
  refine va_newa (atype := .int) (ty := .int) (a0 := (60, .inl (fun _ => 0))) (N' := 60) hx hb (htB _ kw21) rfl hK hP hD hS hA (fun _ => rfl) (by decide) (by decide) (by decide) (Nat.le_of_ble_eq_true rfl) (Nat.le_of_ble_eq_true rfl) dX2_init_89 (fun q20 cA9 H hK9 hP hD hS => ?_)
  obtain rfl := k_int hK9
  have hP : va_P D vwCl ([(xa, .inr (2, [.ref q1, .ref q3, .ref q5, .ref q7, .int 0, .int 0, .null, .int 0]))] ++ (gS t q1 b2 iniS ++ (gS t q3 b4 iniS ++ (gE t q5 b6 iniE ++ ([(q7, .inl (t 1, 6, .inr (.inr (.inr (.inr (va_up (va_up (va_up (va_up (va_up (va_up (fun _ => none) (Int32.toNatClampNeg 0) (some q8)) (Int32.toNatClampNeg 1) (some q10)) (Int32.toNatClampNeg 2) (some q12)) (Int32.toNatClampNeg 3) (some q14)) (Int32.toNatClampNeg 4) (some q16)) (Int32.toNatClampNeg 5) (some q18)))))))] ++ (gS t q8 b9 iniS ++ (gS t q10 b11 iniS ++ (gS t q12 b13 iniS ++ (gS t q14 b15 iniS ++ (gS t q16 b17 iniS ++ (gS t q18 b19 iniS ++ ([(q20, .inl (t 0, 60, .inl (fun _ => 0)))])))))))))))) H := hP
  have hD : va_D A ([(xa, .inr (2, [.ref q1, .ref q3, .ref q5, .ref q7, .int 0, .int 0, .null, .int 0]))] ++ (gS t q1 b2 iniS ++ (gS t q3 b4 iniS ++ (gE t q5 b6 iniE ++ ([(q7, .inl (t 1, 6, .inr (.inr (.inr (.inr (va_up (va_up (va_up (va_up (va_up (va_up (fun _ => none) (Int32.toNatClampNeg 0) (some q8)) (Int32.toNatClampNeg 1) (some q10)) (Int32.toNatClampNeg 2) (some q12)) (Int32.toNatClampNeg 3) (some q14)) (Int32.toNatClampNeg 4) (some q16)) (Int32.toNatClampNeg 5) (some q18)))))))] ++ (gS t q8 b9 iniS ++ (gS t q10 b11 iniS ++ (gS t q12 b13 iniS ++ (gS t q14 b15 iniS ++ (gS t q16 b17 iniS ++ (gS t q18 b19 iniS ++ ([(q20, .inl (t 0, 60, .inl (fun _ => 0)))])))))))))))) := hD
  refine va_putF (D := D) (ci := 2) (v := .ref q20) (ty := (.array .int)) (C := RX2) (T := TX2) (N := 8) hx hb htB inlX2 tyX2 tyX2_ok nmX2 hown hK hP hD hS 0 rfl rfl 6 (by decide) (htB _ kw22) (fun _ h9 => h9) rfl hin rfl (by decide +kernel) rfl rfl (Nat.le_of_ble_eq_true rfl) dX2_init_91 (fun H locs hP hD hS => ?_)
  have hP : va_P D vwCl ([(xa, .inr (2, [.ref q1, .ref q3, .ref q5, .ref q7, .int 0, .int 0, .ref q20, .int 0]))] ++ (gS t q1 b2 iniS ++ (gS t q3 b4 iniS ++ (gE t q5 b6 iniE ++ ([(q7, .inl (t 1, 6, .inr (.inr (.inr (.inr (va_up (va_up (va_up (va_up (va_up (va_up (fun _ => none) (Int32.toNatClampNeg 0) (some q8)) (Int32.toNatClampNeg 1) (some q10)) (Int32.toNatClampNeg 2) (some q12)) (Int32.toNatClampNeg 3) (some q14)) (Int32.toNatClampNeg 4) (some q16)) (Int32.toNatClampNeg 5) (some q18)))))))] ++ (gS t q8 b9 iniS ++ (gS t q10 b11 iniS ++ (gS t q12 b13 iniS ++ (gS t q14 b15 iniS ++ (gS t q16 b17 iniS ++ (gS t q18 b19 iniS ++ ([(q20, .inl (t 0, 60, .inl (fun _ => 0)))])))))))))))) H := hP
  have hD : va_D A ([(xa, .inr (2, [.ref q1, .ref q3, .ref q5, .ref q7, .int 0, .int 0, .ref q20, .int 0]))] ++ (gS t q1 b2 iniS ++ (gS t q3 b4 iniS ++ (gE t q5 b6 iniE ++ ([(q7, .inl (t 1, 6, .inr (.inr (.inr (.inr (va_up (va_up (va_up (va_up (va_up (va_up (fun _ => none) (Int32.toNatClampNeg 0) (some q8)) (Int32.toNatClampNeg 1) (some q10)) (Int32.toNatClampNeg 2) (some q12)) (Int32.toNatClampNeg 3) (some q14)) (Int32.toNatClampNeg 4) (some q16)) (Int32.toNatClampNeg 5) (some q18)))))))] ++ (gS t q8 b9 iniS ++ (gS t q10 b11 iniS ++ (gS t q12 b13 iniS ++ (gS t q14 b15 iniS ++ (gS t q16 b17 iniS ++ (gS t q18 b19 iniS ++ ([(q20, .inl (t 0, 60, .inl (fun _ => 0)))])))))))))))) := hD
  refine lv_aload_n hx hb dX2_init_94 rfl (lv_at hl 1 rfl) ?_
  refine lv_iconst (v := 0) hx hb dX2_init_95 (by decide) ?_
  refine va_put (D := D) (ci := 2) (v := .int 0) (ty := .int) (C := RX2) (T := TX2) (N := 8) hx hb htB inlX2 tyX2 tyX2_ok nmX2 hown hK hP hD hS 0 rfl rfl 7 (by decide) (htB _ kw23) (fun _ h9 => h9) rfl (by decide +kernel) rfl rfl (Nat.le_of_ble_eq_true rfl) dX2_init_96 (fun H locs hP hD hS => ?_)
  have hP : va_P D vwCl ([(xa, .inr (2, [.ref q1, .ref q3, .ref q5, .ref q7, .int 0, .int 0, .ref q20, .int 0]))] ++ (gS t q1 b2 iniS ++ (gS t q3 b4 iniS ++ (gE t q5 b6 iniE ++ ([(q7, .inl (t 1, 6, .inr (.inr (.inr (.inr (va_up (va_up (va_up (va_up (va_up (va_up (fun _ => none) (Int32.toNatClampNeg 0) (some q8)) (Int32.toNatClampNeg 1) (some q10)) (Int32.toNatClampNeg 2) (some q12)) (Int32.toNatClampNeg 3) (some q14)) (Int32.toNatClampNeg 4) (some q16)) (Int32.toNatClampNeg 5) (some q18)))))))] ++ (gS t q8 b9 iniS ++ (gS t q10 b11 iniS ++ (gS t q12 b13 iniS ++ (gS t q14 b15 iniS ++ (gS t q16 b17 iniS ++ (gS t q18 b19 iniS ++ ([(q20, .inl (t 0, 60, .inl (fun _ => 0)))])))))))))))) H := hP
  have hD : va_D A ([(xa, .inr (2, [.ref q1, .ref q3, .ref q5, .ref q7, .int 0, .int 0, .ref q20, .int 0]))] ++ (gS t q1 b2 iniS ++ (gS t q3 b4 iniS ++ (gE t q5 b6 iniE ++ ([(q7, .inl (t 1, 6, .inr (.inr (.inr (.inr (va_up (va_up (va_up (va_up (va_up (va_up (fun _ => none) (Int32.toNatClampNeg 0) (some q8)) (Int32.toNatClampNeg 1) (some q10)) (Int32.toNatClampNeg 2) (some q12)) (Int32.toNatClampNeg 3) (some q14)) (Int32.toNatClampNeg 4) (some q16)) (Int32.toNatClampNeg 5) (some q18)))))))] ++ (gS t q8 b9 iniS ++ (gS t q10 b11 iniS ++ (gS t q12 b13 iniS ++ (gS t q14 b15 iniS ++ (gS t q16 b17 iniS ++ (gS t q18 b19 iniS ++ ([(q20, .inl (t 0, 60, .inl (fun _ => 0)))])))))))))))) := hD
  have hP : va_P D vwCl _ H := hP.q6 (sa := (fun i => [q8, q10, q12, q14, q16, q18].getD i 0)) 21 rfl (by decide) rfl rfl rfl rfl rfl rfl rfl
  have hD : va_D A _ := hD.q6 (sa := (fun i => [q8, q10, q12, q14, q16, q18].getD i 0)) 21 rfl rfl
  have hP : va_P D vwCl (gBo xa (fun i => [q1, q3, q5, q7, q20].getD i 0) (0, 0, 0) ++ (gS t ((fun i => [q1, q3, q5, q7, q20].getD i 0) 0) b2 iniS ++ (gS t ((fun i => [q1, q3, q5, q7, q20].getD i 0) 1) b4 iniS ++ (gE t ((fun i => [q1, q3, q5, q7, q20].getD i 0) 2) b6 iniE ++ (gQ t ((fun i => [q1, q3, q5, q7, q20].getD i 0) 3) (fun i => [q8, q10, q12, q14, q16, q18].getD i 0) ++ (g6 t (fun i => [q8, q10, q12, q14, q16, q18].getD i 0) (fun i => [b9, b11, b13, b15, b17, b19].getD i b9) (fun _ => iniS) ++ gA t ((fun i => [q1, q3, q5, q7, q20].getD i 0) 4) 60 (fun _ => 0))))))) H := hP.pick0 [0, 1, 2, 3, 4, 5, 6, 7, 8, 9, 10, 11, 12, 13, 14, 15, 16, 17, 18, 19, 20, 21, 22, 23, 24, 25, 26, 27, 28, 29, 30, 31, 32, 33, 34, 35, 36, 37, 38, 39, 40, 41, 42, 43, 44, 45, 46, 47, 48, 49, 50, 51, 52, 53, 54, 55, 56, 57, 58, 59, 60, 61, 62, 63, 64, 65, 66, 67, 68, 69, 70] rfl
  have hD : va_D A (gBo xa (fun i => [q1, q3, q5, q7, q20].getD i 0) (0, 0, 0) ++ (gS t ((fun i => [q1, q3, q5, q7, q20].getD i 0) 0) b2 iniS ++ (gS t ((fun i => [q1, q3, q5, q7, q20].getD i 0) 1) b4 iniS ++ (gE t ((fun i => [q1, q3, q5, q7, q20].getD i 0) 2) b6 iniE ++ (gQ t ((fun i => [q1, q3, q5, q7, q20].getD i 0) 3) (fun i => [q8, q10, q12, q14, q16, q18].getD i 0) ++ (g6 t (fun i => [q8, q10, q12, q14, q16, q18].getD i 0) (fun i => [b9, b11, b13, b15, b17, b19].getD i b9) (fun _ => iniS) ++ gA t ((fun i => [q1, q3, q5, q7, q20].getD i 0) 4) 60 (fun _ => 0))))))) := hD.sub [0, 1, 2, 3, 4, 5, 6, 7, 8, 9, 10, 11, 12, 13, 14, 15, 16, 17, 18, 19, 20, 21, 22, 23, 24, 25, 26, 27, 28, 29, 30, 31, 32, 33, 34, 35, 36, 37, 38, 39, 40, 41, 42, 43, 44, 45, 46, 47, 48, 49, 50, 51, 52, 53, 54, 55, 56, 57, 58, 59, 60, 61, 62, 63, 64, 65, 66, 67, 68, 69, 70] (by decide +kernel) rfl
  exact W.vret hx hb hr (fun tt ht hW => ⟨⟨((fun i => [q1, q3, q5, q7, q20].getD i 0), b2, b4, b6, (fun i => [q8, q10, q12, q14, q16, q18].getD i 0), (fun i => [b9, b11, b13, b15, b17, b19].getD i b9)), rfl, trivial, by rw [ht]; exact hP, va_K.moved hW.alike hK, hD⟩, hS.F ht⟩) hS.2.2 dX2_init_99 hlocks
end
