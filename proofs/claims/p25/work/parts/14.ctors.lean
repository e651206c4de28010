/-! constructors -/
abbrev iniS : ShT := ((upd (upd (fun _ => 0) (Int32.toNatClampNeg 0) 50) (Int32.toNatClampNeg 1) 50), (fun _ => 0), (fun _ => 0), (fun _ => 0), (fun _ => 0), (upd (upd (upd (upd (fun _ => 0) (Int32.toNatClampNeg 0) 1) (Int32.toNatClampNeg 1) 60) (Int32.toNatClampNeg 2) 30) (Int32.toNatClampNeg 3) 20), (fun _ => 0), 0, 0, 0)
abbrev iniE : ExT := ((fun _ => 0), (fun _ => 0), (fun _ => 0), 0, 0, 0, 0, 0, 0, 0)
abbrev iniMo : MoT := (0, 0, 0, 0, 0, 0)
abbrev iniN : Nat → Int32 := (upd (upd (upd (upd (upd (upd (fun _ => 0) (Int32.toNatClampNeg 0) 1) (Int32.toNatClampNeg 1) 60) (Int32.toNatClampNeg 2) 30) (Int32.toNatClampNeg 3) 20) (Int32.toNatClampNeg 4) 50) (Int32.toNatClampNeg 5) 50)
theorem k_int {D : va_G} {cl : List vw_C} {t : Nat → ClassId} {cA : ClassId} {s : State} (h : va_K D cl (TY t ++ [(cA, .int)]) s) : t 0 = cA := by
  have h1 := va_nm_int (h.2 0 (t 0, .int) rfl).2
  have h2 := va_nm_int (h.2 2 (cA, .int) rfl).2
  exact Option.some.inj (h1.symm.trans h2)
theorem k_obj {D : va_G} {cl : List vw_C} {t : Nat → ClassId} {cA : ClassId} {s : State} (h : va_K D cl (TY t ++ [(cA, .object RX1)]) s) : t 1 = cA := by
  obtain ⟨_, _, -, -, -, h1⟩ := (h.2 1 (t 1, .object RX1) rfl).2
  obtain ⟨_, _, -, -, -, h2⟩ := (h.2 2 (cA, .object RX1) rfl).2
  exact Option.some.inj (h1.symm.trans h2)
theorem met_ofC {l : Launch} {y : MethodName} {ws ws' : List Cond} {rm : Room} {D : va_G} {t : Nat → ClassId} {ww : va_W} {sz mc ms : Nat} {av : List Value} {Qf : (Nat → Prop) → Array Value → State → Outcome → State → Prop} {cc : ByteArray} {maxL : Nat} {ret : Option FieldType}
    (hy : plainName y.cls = true) (hn2 : y.name = "<init>") (hw : ws = Cond.code y cc maxL ret :: ws') (hn : (lg_sl av).length ≤ maxL)
    (body : ∀ (p : Program) (e : Env) (s : State) (m : MethodId) (args : Array Value) (below : List Frame) (meth : Method) (c : Code) (A : Nat → Prop), p.tables.exec = Jvm.exec → c.code = cc → meth.sig.returnType = ret → c.maxLocals = maxL → (∀ w ∈ ws, w.before args s = true) → s.vm.findClass y.cls = some m.cls → meth.locks = false → meth.name = "<init>" →
      (∀ q, s.heap.size ≤ q → A q) → va_P D vwCl ww s.heap → va_K D vwCl (TY t) s → va_D A ww → xE s → va_S A s.heap s.heap [] → ∀ ls : Array Slot, lv_has ls maxL (lv_args 0 av) →
      W p l e rm s m args below meth c s.heap [] 0 0 (MQ below (Qf A) args s mc ms A) (F0 m 0 ls [])) : Met l y ws rm (sPc D t ww sz av) (Qf (va_A ww sz)) mc ms (va_A ww sz) := by
  refine Met.ofW (cc := cc) (maxL := maxL) (ret := ret) hy hw ?_
  intro p e s m args below meth c s₁ B hml hv
  obtain ⟨rfl, hsz, hP, hK, hD0, hE⟩ := hv
  subst hsz
  rw [lg_entry_eq]
  exact body p e s m _ below meth c (va_A ww s.heap.size) B.exec B.bytes B.returns hml (atoms_spec (ws := ws) B.pre) (findClass_of_methodNamed B.named) B.notSynchronized ((name_of_methodNamed B.named B.method).1.trans hn2) (fun q h => Or.inr h) hP hK hD0.self hE va_S.rf _ (lv_entry av hn)
def sPcO (D : va_G) (t : Nat → ClassId) (ws : va_W) (sz : Nat) (av : List Value) : Array Value → State → Prop := fun v U => sPc D t ws sz av v U ∧ va_AO RX1 U
theorem sPcO_S {D : va_G} {t : Nat → ClassId} {ws : va_W} {av : List Value} {s : State} {H : Heap} {A : Nat → Prop} (hP : va_P D vwCl ws H) (hK : va_K D vwCl (TY t) s) (hD : va_D A ws) (hE : xE s) (hO : va_AO RX1 s) : PreS s H (sPcO D t ws H.size av) av :=
  ⟨fun a U g mk h => ⟨sPc_blind a U g mk h.1, va_AO.moved (u := U) (U := U.calling g mk a) (Vm.Alike.refl U.vm) h.2⟩, fun U hU hW => ⟨(sPc_S hP hK hD hE).2 U hU hW, va_AO.moved hW.alike hO⟩⟩
theorem met_ofO {l : Launch} {y : MethodName} {ws ws' : List Cond} {rm : Room} {D : va_G} {t : Nat → ClassId} {ww : va_W} {sz mc ms : Nat} {av : List Value} {Qf : (Nat → Prop) → Array Value → State → Outcome → State → Prop} {cc : ByteArray} {maxL : Nat} {ret : Option FieldType}
    (hy : plainName y.cls = true) (hn2 : y.name = "<init>") (hw : ws = Cond.code y cc maxL ret :: ws') (hn : (lg_sl av).length ≤ maxL)
    (body : ∀ (p : Program) (e : Env) (s : State) (m : MethodId) (args : Array Value) (below : List Frame) (meth : Method) (c : Code) (A : Nat → Prop), p.tables.exec = Jvm.exec → c.code = cc → meth.sig.returnType = ret → c.maxLocals = maxL → (∀ w ∈ ws, w.before args s = true) → s.vm.findClass y.cls = some m.cls → meth.locks = false → meth.name = "<init>" →
      (∀ q, s.heap.size ≤ q → A q) → va_P D vwCl ww s.heap → va_K D vwCl (TY t) s → va_D A ww → xE s → va_S A s.heap s.heap [] → va_AO RX1 s → ∀ ls : Array Slot, lv_has ls maxL (lv_args 0 av) →
      W p l e rm s m args below meth c s.heap [] 0 0 (MQ below (Qf A) args s mc ms A) (F0 m 0 ls [])) : Met l y ws rm (sPcO D t ww sz av) (Qf (va_A ww sz)) mc ms (va_A ww sz) := by
  refine Met.ofW (cc := cc) (maxL := maxL) (ret := ret) hy hw ?_
  intro p e s m args below meth c s₁ B hml hv
  obtain ⟨⟨rfl, hsz, hP, hK, hD0, hE⟩, hO⟩ := hv
  subst hsz
  rw [lg_entry_eq]
  exact body p e s m _ below meth c (va_A ww s.heap.size) B.exec B.bytes B.returns hml (atoms_spec (ws := ws) B.pre) (findClass_of_methodNamed B.named) B.notSynchronized ((name_of_methodNamed B.named B.method).1.trans hn2) (fun q h => Or.inr h) hP hK hD0.self hE va_S.rf hO _ (lv_entry av hn)
/-- a row of six references, told by a list of addresses -/
theorem q6_cell (cA : ClassId) (f g : Nat → Option Nat) (h : ∀ j, j < 6 → f j = g j) : vp_cell cA (6, .inr (.inr (.inr (.inr f)))) = vp_cell cA (6, .inr (.inr (.inr (.inr g)))) := by
  rw [vp_cell_q, vp_cell_q]
  unfold arrV
  congr 1
  apply Array.ext
  · simp
  · intro i h1 h2
    simp only [Array.size_ofFn] at h1
    simp [h i h1]
theorem va_P.q6 {D : va_G} {ws : va_W} {H : Heap} (hP : va_P D vwCl ws H) {a : Nat} {cA : ClassId} {f : Nat → Option Nat} {sa : Nat → Nat} (k : Nat) (hk : ws[k]? = some (a, .inl (cA, 6, .inr (.inr (.inr (.inr f)))))) (hl : (6 : Nat) = 6) (h0 : f 0 = some (sa 0)) (h1 : f 1 = some (sa 1)) (h2 : f 2 = some (sa 2)) (h3 : f 3 = some (sa 3)) (h4 : f 4 = some (sa 4)) (h5 : f 5 = some (sa 5)) {ws' : va_W} (hw : ws.set k (a, .inl (cA, 6, .inr (.inr (.inr (.inr (fun i => some (sa i))))))) = ws') : va_P D vwCl ws' H := by
  subst hw
  intro j q hq
  rw [List.getElem?_set] at hq
  split at hq
  · next e =>
    subst e
    split at hq
    · cases hq
      have h := hP k _ hk
      show H[a]? = some (vp_cell _ _)
      rw [← q6_cell cA f (fun i => some (sa i)) (fun j hj => by
        rcases (show j = 0 ∨ j = 1 ∨ j = 2 ∨ j = 3 ∨ j = 4 ∨ j = 5 by omega) with rfl | rfl | rfl | rfl | rfl | rfl <;> assumption)]
      exact h
    · cases hq
  · exact hP j q hq
theorem va_D.q6 {A : Nat → Prop} {ws : va_W} (hD : va_D A ws) {a : Nat} {cA : ClassId} {f : Nat → Option Nat} {sa : Nat → Nat} (k : Nat) (hk : ws[k]? = some (a, .inl (cA, 6, .inr (.inr (.inr (.inr f)))))) {ws' : va_W} (hw : ws.set k (a, .inl (cA, 6, .inr (.inr (.inr (.inr (fun i => some (sa i))))))) = ws') : va_D A ws' := by
  subst hw
  refine hD.fst ?_
  rw [List.map_set]
  apply List.ext_getElem?
  intro j
  rw [List.getElem?_set]
  split
  · next e => subst e; rw [List.getElem?_map, hk]; simp [(List.getElem?_eq_some_iff.mp hk).1]
  · rfl

abbrev zX1_init : List Cond := .code yX1_init cX1_init 1 none :: BIG
theorem dX1_init_0 : decode cX1_init 0 = .ok (.aload_n 0, 1) := by decide +kernel
theorem dX1_init_1 : decode cX1_init 1 = .ok (.invokespecial 3, 3) := by decide +kernel
theorem dX1_init_4 : decode cX1_init 4 = .ok (.aload_n 0, 1) := by decide +kernel
theorem dX1_init_5 : decode cX1_init 5 = .ok (.iconst 2, 1) := by decide +kernel
theorem dX1_init_6 : decode cX1_init 6 = .ok (.newarray .int, 2) := by decide +kernel
theorem dX1_init_8 : decode cX1_init 8 = .ok (.dup, 1) := by decide +kernel
theorem dX1_init_9 : decode cX1_init 9 = .ok (.iconst 0, 1) := by decide +kernel
theorem dX1_init_10 : decode cX1_init 10 = .ok (.bipush 50, 2) := by decide +kernel
theorem dX1_init_12 : decode cX1_init 12 = .ok (.iastore, 1) := by decide +kernel
theorem dX1_init_13 : decode cX1_init 13 = .ok (.dup, 1) := by decide +kernel
theorem dX1_init_14 : decode cX1_init 14 = .ok (.iconst 1, 1) := by decide +kernel
theorem dX1_init_15 : decode cX1_init 15 = .ok (.bipush 50, 2) := by decide +kernel
theorem dX1_init_17 : decode cX1_init 17 = .ok (.iastore, 1) := by decide +kernel
theorem dX1_init_18 : decode cX1_init 18 = .ok (.putfield 9, 3) := by decide +kernel
theorem dX1_init_21 : decode cX1_init 21 = .ok (.aload_n 0, 1) := by decide +kernel
theorem dX1_init_22 : decode cX1_init 22 = .ok (.iconst 2, 1) := by decide +kernel
theorem dX1_init_23 : decode cX1_init 23 = .ok (.newarray .int, 2) := by decide +kernel
theorem dX1_init_25 : decode cX1_init 25 = .ok (.putfield 15, 3) := by decide +kernel
theorem dX1_init_28 : decode cX1_init 28 = .ok (.aload_n 0, 1) := by decide +kernel
theorem dX1_init_29 : decode cX1_init 29 = .ok (.bipush 24, 2) := by decide +kernel
theorem dX1_init_31 : decode cX1_init 31 = .ok (.newarray .int, 2) := by decide +kernel
theorem dX1_init_33 : decode cX1_init 33 = .ok (.putfield 18, 3) := by decide +kernel
theorem dX1_init_36 : decode cX1_init 36 = .ok (.aload_n 0, 1) := by decide +kernel
theorem dX1_init_37 : decode cX1_init 37 = .ok (.bipush 24, 2) := by decide +kernel
theorem dX1_init_39 : decode cX1_init 39 = .ok (.newarray .int, 2) := by decide +kernel
theorem dX1_init_41 : decode cX1_init 41 = .ok (.putfield 21, 3) := by decide +kernel
theorem dX1_init_44 : decode cX1_init 44 = .ok (.aload_n 0, 1) := by decide +kernel
theorem dX1_init_45 : decode cX1_init 45 = .ok (.bipush 6, 2) := by decide +kernel
theorem dX1_init_47 : decode cX1_init 47 = .ok (.newarray .int, 2) := by decide +kernel
theorem dX1_init_49 : decode cX1_init 49 = .ok (.putfield 24, 3) := by decide +kernel
theorem dX1_init_52 : decode cX1_init 52 = .ok (.aload_n 0, 1) := by decide +kernel
theorem dX1_init_53 : decode cX1_init 53 = .ok (.iconst 4, 1) := by decide +kernel
theorem dX1_init_54 : decode cX1_init 54 = .ok (.newarray .int, 2) := by decide +kernel
theorem dX1_init_56 : decode cX1_init 56 = .ok (.dup, 1) := by decide +kernel
theorem dX1_init_57 : decode cX1_init 57 = .ok (.iconst 0, 1) := by decide +kernel
theorem dX1_init_58 : decode cX1_init 58 = .ok (.iconst 1, 1) := by decide +kernel
theorem dX1_init_59 : decode cX1_init 59 = .ok (.iastore, 1) := by decide +kernel
theorem dX1_init_60 : decode cX1_init 60 = .ok (.dup, 1) := by decide +kernel
theorem dX1_init_61 : decode cX1_init 61 = .ok (.iconst 1, 1) := by decide +kernel
theorem dX1_init_62 : decode cX1_init 62 = .ok (.bipush 60, 2) := by decide +kernel
theorem dX1_init_64 : decode cX1_init 64 = .ok (.iastore, 1) := by decide +kernel
theorem dX1_init_65 : decode cX1_init 65 = .ok (.dup, 1) := by decide +kernel
theorem dX1_init_66 : decode cX1_init 66 = .ok (.iconst 2, 1) := by decide +kernel
theorem dX1_init_67 : decode cX1_init 67 = .ok (.bipush 30, 2) := by decide +kernel
theorem dX1_init_69 : decode cX1_init 69 = .ok (.iastore, 1) := by decide +kernel
theorem dX1_init_70 : decode cX1_init 70 = .ok (.dup, 1) := by decide +kernel
theorem dX1_init_71 : decode cX1_init 71 = .ok (.iconst 3, 1) := by decide +kernel
theorem dX1_init_72 : decode cX1_init 72 = .ok (.bipush 20, 2) := by decide +kernel
theorem dX1_init_74 : decode cX1_init 74 = .ok (.iastore, 1) := by decide +kernel
theorem dX1_init_75 : decode cX1_init 75 = .ok (.putfield 27, 3) := by decide +kernel
theorem dX1_init_78 : decode cX1_init 78 = .ok (.aload_n 0, 1) := by decide +kernel
theorem dX1_init_79 : decode cX1_init 79 = .ok (.bipush 6, 2) := by decide +kernel
theorem dX1_init_81 : decode cX1_init 81 = .ok (.newarray .int, 2) := by decide +kernel
theorem dX1_init_83 : decode cX1_init 83 = .ok (.putfield 30, 3) := by decide +kernel
theorem dX1_init_86 : decode cX1_init 86 = .ok (.aload_n 0, 1) := by decide +kernel
theorem dX1_init_87 : decode cX1_init 87 = .ok (.iconst 0, 1) := by decide +kernel
theorem dX1_init_88 : decode cX1_init 88 = .ok (.putfield 33, 3) := by decide +kernel
theorem dX1_init_91 : decode cX1_init 91 = .ok (.aload_n 0, 1) := by decide +kernel
theorem dX1_init_92 : decode cX1_init 92 = .ok (.iconst 0, 1) := by decide +kernel
theorem dX1_init_93 : decode cX1_init 93 = .ok (.putfield 37, 3) := by decide +kernel
theorem dX1_init_96 : decode cX1_init 96 = .ok (.aload_n 0, 1) := by decide +kernel
theorem dX1_init_97 : decode cX1_init 97 = .ok (.iconst 0, 1) := by decide +kernel
theorem dX1_init_98 : decode cX1_init 98 = .ok (.putfield 40, 3) := by decide +kernel
theorem dX1_init_101 : decode cX1_init 101 = .ok (.return_, 1) := by decide +kernel
set_option maxHeartbeats 8000000 in
set_option maxRecDepth 100000 in
theorem mtX1_init (l : Launch) (D : va_G) (t : Nat → ClassId) (xa : Nat) (sz : Nat) : Met l yX1_init zX1_init ({ frames := 1, cells := 7, slots := 68, locals := 12 }) (sPc D t ([(xa, .inr (1, [.null, .null, .null, .null, .null, .null, .null, .int 0, .int 0, .int 0]))] : va_W) sz [.ref xa]) (va_Qv (fun (_ : Nat → Nat) => True) (fun u tt => va_P D vwCl (gS t xa u iniS) tt.heap ∧ va_K D vwCl (TY t) tt ∧ va_D (va_A ([(xa, .inr (1, [.null, .null, .null, .null, .null, .null, .null, .int 0, .int 0, .int 0]))] : va_W) sz) (gS t xa u iniS)) (va_A ([(xa, .inr (1, [.null, .null, .null, .null, .null, .null, .null, .int 0, .int 0, .int 0]))] : va_W) sz)) 7 68 (va_A ([(xa, .inr (1, [.null, .null, .null, .null, .null, .null, .null, .int 0, .int 0, .int 0]))] : va_W) sz) := by
  refine met_ofC (Qf := fun A => va_Qv (fun (_ : Nat → Nat) => True) (fun u tt => va_P D vwCl (gS t xa u iniS) tt.heap ∧ va_K D vwCl (TY t) tt ∧ va_D A (gS t xa u iniS)) A) (cc := cX1_init) (maxL := 1) (ret := none) (by decide) rfl rfl (Nat.le_of_ble_eq_true rfl) ?_
  intro p e s m args below meth c A hx hb hr hml hts hown hlocks hin hA hP hK hD hE hS ls hl
  have htB : ∀ w ∈ BIG, w.before args s = true := fun w h => hts w (List.mem_cons_of_mem _ h)
  have hown : s.vm.findClass RX1 = some m.cls := hown
  have hl : lv_has ls 1 [(0, .ref xa)] := hl
  refine lv_aload_n hx hb dX1_init_0 rfl (lv_at hl 0 rfl) ?_
  refine W.objInit hx hb hown (htB _ kw27) (htB _ kw7) (htB _ kw8) rfl (by rw [hml]; exact hl.1) rfl dX1_init_1 (Nat.le_of_ble_eq_true rfl) (Nat.le_of_ble_eq_true rfl) ?_
  refine W.eq (g2 := F0 m 4 ls []) rfl ?_
  refine lv_aload_n hx hb dX1_init_4 rfl (lv_at hl 0 rfl) ?_
  refine lv_iconst (v := 2) hx hb dX1_init_5 (by decide) ?_
  refine va_newa (atype := .int) (ty := .int) (a0 := (2, .inl (fun _ => 0))) (N' := 2) hx hb (htB _ kw21) rfl hK hP hD hS hA (fun _ => rfl) (by decide) (by decide) (by decide) (Nat.le_of_ble_eq_true rfl) (Nat.le_of_ble_eq_true rfl) dX1_init_6 (fun q1 cA9 H hK9 hP hD hS => ?_)
  obtain rfl := k_int hK9
  have hP : va_P D vwCl ([(xa, .inr (1, [.null, .null, .null, .null, .null, .null, .null, .int 0, .int 0, .int 0])), (q1, .inl (t 0, 2, .inl (fun _ => 0)))] : va_W) H := hP
  have hD : va_D A ([(xa, .inr (1, [.null, .null, .null, .null, .null, .null, .null, .int 0, .int 0, .int 0])), (q1, .inl (t 0, 2, .inl (fun _ => 0)))] : va_W) := hD
  refine lv_dup hx hb dX1_init_8 rfl ?_
  refine lv_iconst (v := 0) hx hb dX1_init_9 (by decide) ?_
  refine lv_bipush (v := 50) hx hb dX1_init_10 (by decide) ?_
  refine va_iast hx hb hK hP hD hS 1 0 rfl rfl (pin_in (by decide)) dX1_init_12 (fun H locs hP hD hS => ?_)
  have hP : va_P D vwCl ([(xa, .inr (1, [.null, .null, .null, .null, .null, .null, .null, .int 0, .int 0, .int 0])), (q1, .inl (t 0, 2, .inl (upd (fun _ => 0) (Int32.toNatClampNeg 0) 50)))] : va_W) H := hP
  have hD : va_D A ([(xa, .inr (1, [.null, .null, .null, .null, .null, .null, .null, .int 0, .int 0, .int 0])), (q1, .inl (t 0, 2, .inl (upd (fun _ => 0) (Int32.toNatClampNeg 0) 50)))] : va_W) := hD
  refine lv_dup hx hb dX1_init_13 rfl ?_
  refine lv_iconst (v := 1) hx hb dX1_init_14 (by decide) ?_
  refine lv_bipush (v := 50) hx hb dX1_init_15 (by decide) ?_
  refine va_iast hx hb hK hP hD hS 1 0 rfl rfl (pin_in (by decide)) dX1_init_17 (fun H locs hP hD hS => ?_)
  have hP : va_P D vwCl ([(xa, .inr (1, [.null, .null, .null, .null, .null, .null, .null, .int 0, .int 0, .int 0])), (q1, .inl (t 0, 2, .inl (upd (upd (fun _ => 0) (Int32.toNatClampNeg 0) 50) (Int32.toNatClampNeg 1) 50)))] : va_W) H := hP
  have hD : va_D A ([(xa, .inr (1, [.null, .null, .null, .null, .null, .null, .null, .int 0, .int 0, .int 0])), (q1, .inl (t 0, 2, .inl (upd (upd (fun _ => 0) (Int32.toNatClampNeg 0) 50) (Int32.toNatClampNeg 1) 50)))] : va_W) := hD
  refine va_putF (D := D) (ci := 1) (v := .ref q1) (ty := (.array .int)) (C := RX1) (T := TX1) (N := 10) hx hb htB inlX1 tyX1 tyX1_ok nmX1 hown hK hP hD hS 0 rfl rfl 0 (by decide) (htB _ kw28) (fun _ h9 => h9) rfl hin rfl (by decide +kernel) rfl rfl (Nat.le_of_ble_eq_true rfl) dX1_init_18 (fun H locs hP hD hS => ?_)
  have hP : va_P D vwCl ([(xa, .inr (1, [.ref q1, .null, .null, .null, .null, .null, .null, .int 0, .int 0, .int 0])), (q1, .inl (t 0, 2, .inl (upd (upd (fun _ => 0) (Int32.toNatClampNeg 0) 50) (Int32.toNatClampNeg 1) 50)))] : va_W) H := hP
  have hD : va_D A ([(xa, .inr (1, [.ref q1, .null, .null, .null, .null, .null, .null, .int 0, .int 0, .int 0])), (q1, .inl (t 0, 2, .inl (upd (upd (fun _ => 0) (Int32.toNatClampNeg 0) 50) (Int32.toNatClampNeg 1) 50)))] : va_W) := hD
  refine lv_aload_n hx hb dX1_init_21 rfl (lv_at hl 0 rfl) ?_
  refine lv_iconst (v := 2) hx hb dX1_init_22 (by decide) ?_
  refine va_newa (atype := .int) (ty := .int) (a0 := (2, .inl (fun _ => 0))) (N' := 2) hx hb (htB _ kw21) rfl hK hP hD hS hA (fun _ => rfl) (by decide) (by decide) (by decide) (Nat.le_of_ble_eq_true rfl) (Nat.le_of_ble_eq_true rfl) dX1_init_23 (fun q2 cA9 H hK9 hP hD hS => ?_)
  obtain rfl := k_int hK9
  have hP : va_P D vwCl ([(xa, .inr (1, [.ref q1, .null, .null, .null, .null, .null, .null, .int 0, .int 0, .int 0])), (q1, .inl (t 0, 2, .inl (upd (upd (fun _ => 0) (Int32.toNatClampNeg 0) 50) (Int32.toNatClampNeg 1) 50))), (q2, .inl (t 0, 2, .inl (fun _ => 0)))] : va_W) H := hP
  have hD : va_D A ([(xa, .inr (1, [.ref q1, .null, .null, .null, .null, .null, .null, .int 0, .int 0, .int 0])), (q1, .inl (t 0, 2, .inl (upd (upd (fun _ => 0) (Int32.toNatClampNeg 0) 50) (Int32.toNatClampNeg 1) 50))), (q2, .inl (t 0, 2, .inl (fun _ => 0)))] : va_W) := hD
  refine va_putF (D := D) (ci := 1) (v := .ref q2) (ty := (.array .int)) (C := RX1) (T := TX1) (N := 10) hx hb htB inlX1 tyX1 tyX1_ok nmX1 hown hK hP hD hS 0 rfl rfl 1 (by decide) (htB _ kw29) (fun _ h9 => h9) rfl hin rfl (by decide +kernel) rfl rfl (Nat.le_of_ble_eq_true rfl) dX1_init_25 (fun H locs hP hD hS => ?_)
  have hP : va_P D vwCl ([(xa, .inr (1, [.ref q1, .ref q2, .null, .null, .null, .null, .null, .int 0, .int 0, .int 0])), (q1, .inl (t 0, 2, .inl (upd (upd (fun _ => 0) (Int32.toNatClampNeg 0) 50) (Int32.toNatClampNeg 1) 50))), (q2, .inl (t 0, 2, .inl (fun _ => 0)))] : va_W) H := hP
  have hD : va_D A ([(xa, .inr (1, [.ref q1, .ref q2, .null, .null, .null, .null, .null, .int 0, .int 0, .int 0])), (q1, .inl (t 0, 2, .inl (upd (upd (fun _ => 0) (Int32.toNatClampNeg 0) 50) (Int32.toNatClampNeg 1) 50))), (q2, .inl (t 0, 2, .inl (fun _ => 0)))] : va_W) := hD
  refine lv_aload_n hx hb dX1_init_28 rfl (lv_at hl 0 rfl) ?_
  refine lv_bipush (v := 24) hx hb dX1_init_29 (by decide) ?_
  refine va_newa (atype := .int) (ty := .int) (a0 := (24, .inl (fun _ => 0))) (N' := 24) hx hb (htB _ kw21) rfl hK hP hD hS hA (fun _ => rfl) (by decide) (by decide) (by decide) (Nat.le_of_ble_eq_true rfl) (Nat.le_of_ble_eq_true rfl) dX1_init_31 (fun q3 cA9 H hK9 hP hD hS => ?_)
  obtain rfl := k_int hK9
  have hP : va_P D vwCl ([(xa, .inr (1, [.ref q1, .ref q2, .null, .null, .null, .null, .null, .int 0, .int 0, .int 0])), (q1, .inl (t 0, 2, .inl (upd (upd (fun _ => 0) (Int32.toNatClampNeg 0) 50) (Int32.toNatClampNeg 1) 50))), (q2, .inl (t 0, 2, .inl (fun _ => 0))), (q3, .inl (t 0, 24, .inl (fun _ => 0)))] : va_W) H := hP
  have hD : va_D A ([(xa, .inr (1, [.ref q1, .ref q2, .null, .null, .null, .null, .null, .int 0, .int 0, .int 0])), (q1, .inl (t 0, 2, .inl (upd (upd (fun _ => 0) (Int32.toNatClampNeg 0) 50) (Int32.toNatClampNeg 1) 50))), (q2, .inl (t 0, 2, .inl (fun _ => 0))), (q3, .inl (t 0, 24, .inl (fun _ => 0)))] : va_W) := hD
  refine va_putF (D := D) (ci := 1) (v := .ref q3) (ty := (.array .int)) (C := RX1) (T := TX1) (N := 10) hx hb htB inlX1 tyX1 tyX1_ok nmX1 hown hK hP hD hS 0 rfl rfl 2 (by decide) (htB _ kw30) (fun _ h9 => h9) rfl hin rfl (by decide +kernel) rfl rfl (Nat.le_of_ble_eq_true rfl) dX1_init_33 (fun H locs hP hD hS => ?_)
  have hP : va_P D vwCl ([(xa, .inr (1, [.ref q1, .ref q2, .ref q3, .null, .null, .null, .null, .int 0, .int 0, .int 0])), (q1, .inl (t 0, 2, .inl (upd (upd (fun _ => 0) (Int32.toNatClampNeg 0) 50) (Int32.toNatClampNeg 1) 50))), (q2, .inl (t 0, 2, .inl (fun _ => 0))), (q3, .inl (t 0, 24, .inl (fun _ => 0)))] : va_W) H := hP
  have hD : va_D A ([(xa, .inr (1, [.ref q1, .ref q2, .ref q3, .null, .null, .null, .null, .int 0, .int 0, .int 0])), (q1, .inl (t 0, 2, .inl (upd (upd (fun _ => 0) (Int32.toNatClampNeg 0) 50) (Int32.toNatClampNeg 1) 50))), (q2, .inl (t 0, 2, .inl (fun _ => 0))), (q3, .inl (t 0, 24, .inl (fun _ => 0)))] : va_W) := hD
  refine lv_aload_n hx hb dX1_init_36 rfl (lv_at hl 0 rfl) ?_
  refine lv_bipush (v := 24) hx hb dX1_init_37 (by decide) ?_
  refine va_newa (atype := .int) (ty := .int) (a0 := (24, .inl (fun _ => 0))) (N' := 24) hx hb (htB _ kw21) rfl hK hP hD hS hA (fun _ => rfl) (by decide) (by decide) (by decide) (Nat.le_of_ble_eq_true rfl) (Nat.le_of_ble_eq_true rfl) dX1_init_39 (fun q4 cA9 H hK9 hP hD hS => ?_)
  obtain rfl := k_int hK9
  have hP : va_P D vwCl ([(xa, .inr (1, [.ref q1, .ref q2, .ref q3, .null, .null, .null, .null, .int 0, .int 0, .int 0])), (q1, .inl (t 0, 2, .inl (upd (upd (fun _ => 0) (Int32.toNatClampNeg 0) 50) (Int32.toNatClampNeg 1) 50))), (q2, .inl (t 0, 2, .inl (fun _ => 0))), (q3, .inl (t 0, 24, .inl (fun _ => 0))), (q4, .inl (t 0, 24, .inl (fun _ => 0)))] : va_W) H := hP
  have hD : va_D A ([(xa, .inr (1, [.ref q1, .ref q2, .ref q3, .null, .null, .null, .null, .int 0, .int 0, .int 0])), (q1, .inl (t 0, 2, .inl (upd (upd (fun _ => 0) (Int32.toNatClampNeg 0) 50) (Int32.toNatClampNeg 1) 50))), (q2, .inl (t 0, 2, .inl (fun _ => 0))), (q3, .inl (t 0, 24, .inl (fun _ => 0))), (q4, .inl (t 0, 24, .inl (fun _ => 0)))] : va_W) := hD
  refine va_putF (D := D) (ci := 1) (v := .ref q4) (ty := (.array .int)) (C := RX1) (T := TX1) (N := 10) hx hb htB inlX1 tyX1 tyX1_ok nmX1 hown hK hP hD hS 0 rfl rfl 3 (by decide) (htB _ kw31) (fun _ h9 => h9) rfl hin rfl (by decide +kernel) rfl rfl (Nat.le_of_ble_eq_true rfl) dX1_init_41 (fun H locs hP hD hS => ?_)
  have hP : va_P D vwCl ([(xa, .inr (1, [.ref q1, .ref q2, .ref q3, .ref q4, .null, .null, .null, .int 0, .int 0, .int 0])), (q1, .inl (t 0, 2, .inl (upd (upd (fun _ => 0) (Int32.toNatClampNeg 0) 50) (Int32.toNatClampNeg 1) 50))), (q2, .inl (t 0, 2, .inl (fun _ => 0))), (q3, .inl (t 0, 24, .inl (fun _ => 0))), (q4, .inl (t 0, 24, .inl (fun _ => 0)))] : va_W) H := hP
  have hD : va_D A ([(xa, .inr (1, [.ref q1, .ref q2, .ref q3, .ref q4, .null, .null, .null, .int 0, .int 0, .int 0])), (q1, .inl (t 0, 2, .inl (upd (upd (fun _ => 0) (Int32.toNatClampNeg 0) 50) (Int32.toNatClampNeg 1) 50))), (q2, .inl (t 0, 2, .inl (fun _ => 0))), (q3, .inl (t 0, 24, .inl (fun _ => 0))), (q4, .inl (t 0, 24, .inl (fun _ => 0)))] : va_W) := hD
  refine lv_aload_n hx hb dX1_init_44 rfl (lv_at hl 0 rfl) ?_
  refine lv_bipush (v := 6) hx hb dX1_init_45 (by decide) ?_
  refine va_newa (atype := .int) (ty := .int) (a0 := (6, .inl (fun _ => 0))) (N' := 6) hx hb (htB _ kw21) rfl hK hP hD hS hA (fun _ => rfl) (by decide) (by decide) (by decide) (Nat.le_of_ble_eq_true rfl) (Nat.le_of_ble_eq_true rfl) dX1_init_47 (fun q5 cA9 H hK9 hP hD hS => ?_)
  obtain rfl := k_int hK9
  have hP : va_P D vwCl ([(xa, .inr (1, [.ref q1, .ref q2, .ref q3, .ref q4, .null, .null, .null, .int 0, .int 0, .int 0])), (q1, .inl (t 0, 2, .inl (upd (upd (fun _ => 0) (Int32.toNatClampNeg 0) 50) (Int32.toNatClampNeg 1) 50))), (q2, .inl (t 0, 2, .inl (fun _ => 0))), (q3, .inl (t 0, 24, .inl (fun _ => 0))), (q4, .inl (t 0, 24, .inl (fun _ => 0))), (q5, .inl (t 0, 6, .inl (fun _ => 0)))] : va_W) H := hP
  have hD : va_D A ([(xa, .inr (1, [.ref q1, .ref q2, .ref q3, .ref q4, .null, .null, .null, .int 0, .int 0, .int 0])), (q1, .inl (t 0, 2, .inl (upd (upd (fun _ => 0) (Int32.toNatClampNeg 0) 50) (Int32.toNatClampNeg 1) 50))), (q2, .inl (t 0, 2, .inl (fun _ => 0))), (q3, .inl (t 0, 24, .inl (fun _ => 0))), (q4, .inl (t 0, 24, .inl (fun _ => 0))), (q5, .inl (t 0, 6, .inl (fun _ => 0)))] : va_W) := hD
  refine va_putF (D := D) (ci := 1) (v := .ref q5) (ty := (.array .int)) (C := RX1) (T := TX1) (N := 10) hx hb htB inlX1 tyX1 tyX1_ok nmX1 hown hK hP hD hS 0 rfl rfl 4 (by decide) (htB _ kw32) (fun _ h9 => h9) rfl hin rfl (by decide +kernel) rfl rfl (Nat.le_of_ble_eq_true rfl) dX1_init_49 (fun H locs hP hD hS => ?_)
  have hP : va_P D vwCl ([(xa, .inr (1, [.ref q1, .ref q2, .ref q3, .ref q4, .ref q5, .null, .null, .int 0, .int 0, .int 0])), (q1, .inl (t 0, 2, .inl (upd (upd (fun _ => 0) (Int32.toNatClampNeg 0) 50) (Int32.toNatClampNeg 1) 50))), (q2, .inl (t 0, 2, .inl (fun _ => 0))), (q3, .inl (t 0, 24, .inl (fun _ => 0))), (q4, .inl (t 0, 24, .inl (fun _ => 0))), (q5, .inl (t 0, 6, .inl (fun _ => 0)))] : va_W) H := hP
  have hD : va_D A ([(xa, .inr (1, [.ref q1, .ref q2, .ref q3, .ref q4, .ref q5, .null, .null, .int 0, .int 0, .int 0])), (q1, .inl (t 0, 2, .inl (upd (upd (fun _ => 0) (Int32.toNatClampNeg 0) 50) (Int32.toNatClampNeg 1) 50))), (q2, .inl (t 0, 2, .inl (fun _ => 0))), (q3, .inl (t 0, 24, .inl (fun _ => 0))), (q4, .inl (t 0, 24, .inl (fun _ => 0))), (q5, .inl (t 0, 6, .inl (fun _ => 0)))] : va_W) := hD
  refine lv_aload_n hx hb dX1_init_52 rfl (lv_at hl 0 rfl) ?_
  refine lv_iconst (v := 4) hx hb dX1_init_53 (by decide) ?_
  refine va_newa (atype := .int) (ty := .int) (a0 := (4, .inl (fun _ => 0))) (N' := 4) hx hb (htB _ kw21) rfl hK hP hD hS hA (fun _ => rfl) (by decide) (by decide) (by decide) (Nat.le_of_ble_eq_true rfl) (Nat.le_of_ble_eq_true rfl) dX1_init_54 (fun q6 cA9 H hK9 hP hD hS => ?_)
  obtain rfl := k_int hK9
  have hP : va_P D vwCl ([(xa, .inr (1, [.ref q1, .ref q2, .ref q3, .ref q4, .ref q5, .null, .null, .int 0, .int 0, .int 0])), (q1, .inl (t 0, 2, .inl (upd (upd (fun _ => 0) (Int32.toNatClampNeg 0) 50) (Int32.toNatClampNeg 1) 50))), (q2, .inl (t 0, 2, .inl (fun _ => 0))), (q3, .inl (t 0, 24, .inl (fun _ => 0))), (q4, .inl (t 0, 24, .inl (fun _ => 0))), (q5, .inl (t 0, 6, .inl (fun _ => 0))), (q6, .inl (t 0, 4, .inl (fun _ => 0)))] : va_W) H := hP
  have hD : va_D A ([(xa, .inr (1, [.ref q1, .ref q2, .ref q3, .ref q4, .ref q5, .null, .null, .int 0, .int 0, .int 0])), (q1, .inl (t 0, 2, .inl (upd (upd (fun _ => 0) (Int32.toNatClampNeg 0) 50) (Int32.toNatClampNeg 1) 50))), (q2, .inl (t 0, 2, .inl (fun _ => 0))), (q3, .inl (t 0, 24, .inl (fun _ => 0))), (q4, .inl (t 0, 24, .inl (fun _ => 0))), (q5, .inl (t 0, 6, .inl (fun _ => 0))), (q6, .inl (t 0, 4, .inl (fun _ => 0)))] : va_W) := hD
  refine lv_dup hx hb dX1_init_56 rfl ?_
  refine lv_iconst (v := 0) hx hb dX1_init_57 (by decide) ?_
  refine lv_iconst (v := 1) hx hb dX1_init_58 (by decide) ?_
  refine va_iast hx hb hK hP hD hS 6 0 rfl rfl (pin_in (by decide)) dX1_init_59 (fun H locs hP hD hS => ?_)
  have hP : va_P D vwCl ([(xa, .inr (1, [.ref q1, .ref q2, .ref q3, .ref q4, .ref q5, .null, .null, .int 0, .int 0, .int 0])), (q1, .inl (t 0, 2, .inl (upd (upd (fun _ => 0) (Int32.toNatClampNeg 0) 50) (Int32.toNatClampNeg 1) 50))), (q2, .inl (t 0, 2, .inl (fun _ => 0))), (q3, .inl (t 0, 24, .inl (fun _ => 0))), (q4, .inl (t 0, 24, .inl (fun _ => 0))), (q5, .inl (t 0, 6, .inl (fun _ => 0))), (q6, .inl (t 0, 4, .inl (upd (fun _ => 0) (Int32.toNatClampNeg 0) 1)))] : va_W) H := hP
  have hD : va_D A ([(xa, .inr (1, [.ref q1, .ref q2, .ref q3, .ref q4, .ref q5, .null, .null, .int 0, .int 0, .int 0])), (q1, .inl (t 0, 2, .inl (upd (upd (fun _ => 0) (Int32.toNatClampNeg 0) 50) (Int32.toNatClampNeg 1) 50))), (q2, .inl (t 0, 2, .inl (fun _ => 0))), (q3, .inl (t 0, 24, .inl (fun _ => 0))), (q4, .inl (t 0, 24, .inl (fun _ => 0))), (q5, .inl (t 0, 6, .inl (fun _ => 0))), (q6, .inl (t 0, 4, .inl (upd (fun _ => 0) (Int32.toNatClampNeg 0) 1)))] : va_W) := hD
  refine lv_dup hx hb dX1_init_60 rfl ?_
  refine lv_iconst (v := 1) hx hb dX1_init_61 (by decide) ?_
  refine lv_bipush (v := 60) hx hb dX1_init_62 (by decide) ?_
  refine va_iast hx hb hK hP hD hS 6 0 rfl rfl (pin_in (by decide)) dX1_init_64 (fun H locs hP hD hS => ?_)
  have hP : va_P D vwCl ([(xa, .inr (1, [.ref q1, .ref q2, .ref q3, .ref q4, .ref q5, .null, .null, .int 0, .int 0, .int 0])), (q1, .inl (t 0, 2, .inl (upd (upd (fun _ => 0) (Int32.toNatClampNeg 0) 50) (Int32.toNatClampNeg 1) 50))), (q2, .inl (t 0, 2, .inl (fun _ => 0))), (q3, .inl (t 0, 24, .inl (fun _ => 0))), (q4, .inl (t 0, 24, .inl (fun _ => 0))), (q5, .inl (t 0, 6, .inl (fun _ => 0))), (q6, .inl (t 0, 4, .inl (upd (upd (fun _ => 0) (Int32.toNatClampNeg 0) 1) (Int32.toNatClampNeg 1) 60)))] : va_W) H := hP
  have hD : va_D A ([(xa, .inr (1, [.ref q1, .ref q2, .ref q3, .ref q4, .ref q5, .null, .null, .int 0, .int 0, .int 0])), (q1, .inl (t 0, 2, .inl (upd (upd (fun _ => 0) (Int32.toNatClampNeg 0) 50) (Int32.toNatClampNeg 1) 50))), (q2, .inl (t 0, 2, .inl (fun _ => 0))), (q3, .inl (t 0, 24, .inl (fun _ => 0))), (q4, .inl (t 0, 24, .inl (fun _ => 0))), (q5, .inl (t 0, 6, .inl (fun _ => 0))), (q6, .inl (t 0, 4, .inl (upd (upd (fun _ => 0) (Int32.toNatClampNeg 0) 1) (Int32.toNatClampNeg 1) 60)))] : va_W) := hD
  refine lv_dup hx hb dX1_init_65 rfl ?_
  refine lv_iconst (v := 2) hx hb dX1_init_66 (by decide) ?_
  refine lv_bipush (v := 30) hx hb dX1_init_67 (by decide) ?_
  refine va_iast hx hb hK hP hD hS 6 0 rfl rfl (pin_in (by decide)) dX1_init_69 (fun H locs hP hD hS => ?_)
  have hP : va_P D vwCl ([(xa, .inr (1, [.ref q1, .ref q2, .ref q3, .ref q4, .ref q5, .null, .null, .int 0, .int 0, .int 0])), (q1, .inl (t 0, 2, .inl (upd (upd (fun _ => 0) (Int32.toNatClampNeg 0) 50) (Int32.toNatClampNeg 1) 50))), (q2, .inl (t 0, 2, .inl (fun _ => 0))), (q3, .inl (t 0, 24, .inl (fun _ => 0))), (q4, .inl (t 0, 24, .inl (fun _ => 0))), (q5, .inl (t 0, 6, .inl (fun _ => 0))), (q6, .inl (t 0, 4, .inl (upd (upd (upd (fun _ => 0) (Int32.toNatClampNeg 0) 1) (Int32.toNatClampNeg 1) 60) (Int32.toNatClampNeg 2) 30)))] : va_W) H := hP
  have hD : va_D A ([(xa, .inr (1, [.ref q1, .ref q2, .ref q3, .ref q4, .ref q5, .null, .null, .int 0, .int 0, .int 0])), (q1, .inl (t 0, 2, .inl (upd (upd (fun _ => 0) (Int32.toNatClampNeg 0) 50) (Int32.toNatClampNeg 1) 50))), (q2, .inl (t 0, 2, .inl (fun _ => 0))), (q3, .inl (t 0, 24, .inl (fun _ => 0))), (q4, .inl (t 0, 24, .inl (fun _ => 0))), (q5, .inl (t 0, 6, .inl (fun _ => 0))), (q6, .inl (t 0, 4, .inl (upd (upd (upd (fun _ => 0) (Int32.toNatClampNeg 0) 1) (Int32.toNatClampNeg 1) 60) (Int32.toNatClampNeg 2) 30)))] : va_W) := hD
  refine lv_dup hx hb dX1_init_70 rfl ?_
  refine lv_iconst (v := 3) hx hb dX1_init_71 (by decide) ?_
  refine lv_bipush (v := 20) hx hb dX1_init_72 (by decide) ?_
  refine va_iast hx hb hK hP hD hS 6 0 rfl rfl (pin_in (by decide)) dX1_init_74 (fun H locs hP hD hS => ?_)
  have hP : va_P D vwCl ([(xa, .inr (1, [.ref q1, .ref q2, .ref q3, .ref q4, .ref q5, .null, .null, .int 0, .int 0, .int 0])), (q1, .inl (t 0, 2, .inl (upd (upd (fun _ => 0) (Int32.toNatClampNeg 0) 50) (Int32.toNatClampNeg 1) 50))), (q2, .inl (t 0, 2, .inl (fun _ => 0))), (q3, .inl (t 0, 24, .inl (fun _ => 0))), (q4, .inl (t 0, 24, .inl (fun _ => 0))), (q5, .inl (t 0, 6, .inl (fun _ => 0))), (q6, .inl (t 0, 4, .inl (upd (upd (upd (upd (fun _ => 0) (Int32.toNatClampNeg 0) 1) (Int32.toNatClampNeg 1) 60) (Int32.toNatClampNeg 2) 30) (Int32.toNatClampNeg 3) 20)))] : va_W) H := hP
  have hD : va_D A ([(xa, .inr (1, [.ref q1, .ref q2, .ref q3, .ref q4, .ref q5, .null, .null, .int 0, .int 0, .int 0])), (q1, .inl (t 0, 2, .inl (upd (upd (fun _ => 0) (Int32.toNatClampNeg 0) 50) (Int32.toNatClampNeg 1) 50))), (q2, .inl (t 0, 2, .inl (fun _ => 0))), (q3, .inl (t 0, 24, .inl (fun _ => 0))), (q4, .inl (t 0, 24, .inl (fun _ => 0))), (q5, .inl (t 0, 6, .inl (fun _ => 0))), (q6, .inl (t 0, 4, .inl (upd (upd (upd (upd (fun _ => 0) (Int32.toNatClampNeg 0) 1) (Int32.toNatClampNeg 1) 60) (Int32.toNatClampNeg 2) 30) (Int32.toNatClampNeg 3) 20)))] : va_W) := hD
  refine va_putF (D := D) (ci := 1) (v := .ref q6) (ty := (.array .int)) (C := RX1) (T := TX1) (N := 10) hx hb htB inlX1 tyX1 tyX1_ok nmX1 hown hK hP hD hS 0 rfl rfl 5 (by decide) (htB _ kw33) (fun _ h9 => h9) rfl hin rfl (by decide +kernel) rfl rfl (Nat.le_of_ble_eq_true rfl) dX1_init_75 (fun H locs hP hD hS => ?_)
  have hP : va_P D vwCl ([(xa, .inr (1, [.ref q1, .ref q2, .ref q3, .ref q4, .ref q5, .ref q6, .null, .int 0, .int 0, .int 0])), (q1, .inl (t 0, 2, .inl (upd (upd (fun _ => 0) (Int32.toNatClampNeg 0) 50) (Int32.toNatClampNeg 1) 50))), (q2, .inl (t 0, 2, .inl (fun _ => 0))), (q3, .inl (t 0, 24, .inl (fun _ => 0))), (q4, .inl (t 0, 24, .inl (fun _ => 0))), (q5, .inl (t 0, 6, .inl (fun _ => 0))), (q6, .inl (t 0, 4, .inl (upd (upd (upd (upd (fun _ => 0) (Int32.toNatClampNeg 0) 1) (Int32.toNatClampNeg 1) 60) (Int32.toNatClampNeg 2) 30) (Int32.toNatClampNeg 3) 20)))] : va_W) H := hP
  have hD : va_D A ([(xa, .inr (1, [.ref q1, .ref q2, .ref q3, .ref q4, .ref q5, .ref q6, .null, .int 0, .int 0, .int 0])), (q1, .inl (t 0, 2, .inl (upd (upd (fun _ => 0) (Int32.toNatClampNeg 0) 50) (Int32.toNatClampNeg 1) 50))), (q2, .inl (t 0, 2, .inl (fun _ => 0))), (q3, .inl (t 0, 24, .inl (fun _ => 0))), (q4, .inl (t 0, 24, .inl (fun _ => 0))), (q5, .inl (t 0, 6, .inl (fun _ => 0))), (q6, .inl (t 0, 4, .inl (upd (upd (upd (upd (fun _ => 0) (Int32.toNatClampNeg 0) 1) (Int32.toNatClampNeg 1) 60) (Int32.toNatClampNeg 2) 30) (Int32.toNatClampNeg 3) 20)))] : va_W) := hD
  refine lv_aload_n hx hb dX1_init_78 rfl (lv_at hl 0 rfl) ?_
  refine lv_bipush (v := 6) hx hb dX1_init_79 (by decide) ?_
  refine va_newa (atype := .int) (ty := .int) (a0 := (6, .inl (fun _ => 0))) (N' := 6) hx hb (htB _ kw21) rfl hK hP hD hS hA (fun _ => rfl) (by decide) (by decide) (by decide) (Nat.le_of_ble_eq_true rfl) (Nat.le_of_ble_eq_true rfl) dX1_init_81 (fun q7 cA9 H hK9 hP hD hS => ?_)
  obtain rfl := k_int hK9
  have hP : va_P D vwCl ([(xa, .inr (1, [.ref q1, .ref q2, .ref q3, .ref q4, .ref q5, .ref q6, .null, .int 0, .int 0, .int 0])), (q1, .inl (t 0, 2, .inl (upd (upd (fun _ => 0) (Int32.toNatClampNeg 0) 50) (Int32.toNatClampNeg 1) 50))), (q2, .inl (t 0, 2, .inl (fun _ => 0))), (q3, .inl (t 0, 24, .inl (fun _ => 0))), (q4, .inl (t 0, 24, .inl (fun _ => 0))), (q5, .inl (t 0, 6, .inl (fun _ => 0))), (q6, .inl (t 0, 4, .inl (upd (upd (upd (upd (fun _ => 0) (Int32.toNatClampNeg 0) 1) (Int32.toNatClampNeg 1) 60) (Int32.toNatClampNeg 2) 30) (Int32.toNatClampNeg 3) 20))), (q7, .inl (t 0, 6, .inl (fun _ => 0)))] : va_W) H := hP
  have hD : va_D A ([(xa, .inr (1, [.ref q1, .ref q2, .ref q3, .ref q4, .ref q5, .ref q6, .null, .int 0, .int 0, .int 0])), (q1, .inl (t 0, 2, .inl (upd (upd (fun _ => 0) (Int32.toNatClampNeg 0) 50) (Int32.toNatClampNeg 1) 50))), (q2, .inl (t 0, 2, .inl (fun _ => 0))), (q3, .inl (t 0, 24, .inl (fun _ => 0))), (q4, .inl (t 0, 24, .inl (fun _ => 0))), (q5, .inl (t 0, 6, .inl (fun _ => 0))), (q6, .inl (t 0, 4, .inl (upd (upd (upd (upd (fun _ => 0) (Int32.toNatClampNeg 0) 1) (Int32.toNatClampNeg 1) 60) (Int32.toNatClampNeg 2) 30) (Int32.toNatClampNeg 3) 20))), (q7, .inl (t 0, 6, .inl (fun _ => 0)))] : va_W) := hD
  refine va_putF (D := D) (ci := 1) (v := .ref q7) (ty := (.array .int)) (C := RX1) (T := TX1) (N := 10) hx hb htB inlX1 tyX1 tyX1_ok nmX1 hown hK hP hD hS 0 rfl rfl 6 (by decide) (htB _ kw34) (fun _ h9 => h9) rfl hin rfl (by decide +kernel) rfl rfl (Nat.le_of_ble_eq_true rfl) dX1_init_83 (fun H locs hP hD hS => ?_)
  have hP : va_P D vwCl ([(xa, .inr (1, [.ref q1, .ref q2, .ref q3, .ref q4, .ref q5, .ref q6, .ref q7, .int 0, .int 0, .int 0])), (q1, .inl (t 0, 2, .inl (upd (upd (fun _ => 0) (Int32.toNatClampNeg 0) 50) (Int32.toNatClampNeg 1) 50))), (q2, .inl (t 0, 2, .inl (fun _ => 0))), (q3, .inl (t 0, 24, .inl (fun _ => 0))), (q4, .inl (t 0, 24, .inl (fun _ => 0))), (q5, .inl (t 0, 6, .inl (fun _ => 0))), (q6, .inl (t 0, 4, .inl (upd (upd (upd (upd (fun _ => 0) (Int32.toNatClampNeg 0) 1) (Int32.toNatClampNeg 1) 60) (Int32.toNatClampNeg 2) 30) (Int32.toNatClampNeg 3) 20))), (q7, .inl (t 0, 6, .inl (fun _ => 0)))] : va_W) H := hP
  have hD : va_D A ([(xa, .inr (1, [.ref q1, .ref q2, .ref q3, .ref q4, .ref q5, .ref q6, .ref q7, .int 0, .int 0, .int 0])), (q1, .inl (t 0, 2, .inl (upd (upd (fun _ => 0) (Int32.toNatClampNeg 0) 50) (Int32.toNatClampNeg 1) 50))), (q2, .inl (t 0, 2, .inl (fun _ => 0))), (q3, .inl (t 0, 24, .inl (fun _ => 0))), (q4, .inl (t 0, 24, .inl (fun _ => 0))), (q5, .inl (t 0, 6, .inl (fun _ => 0))), (q6, .inl (t 0, 4, .inl (upd (upd (upd (upd (fun _ => 0) (Int32.toNatClampNeg 0) 1) (Int32.toNatClampNeg 1) 60) (Int32.toNatClampNeg 2) 30) (Int32.toNatClampNeg 3) 20))), (q7, .inl (t 0, 6, .inl (fun _ => 0)))] : va_W) := hD
  refine lv_aload_n hx hb dX1_init_86 rfl (lv_at hl 0 rfl) ?_
  refine lv_iconst (v := 0) hx hb dX1_init_87 (by decide) ?_
  refine va_put (D := D) (ci := 1) (v := .int 0) (ty := .int) (C := RX1) (T := TX1) (N := 10) hx hb htB inlX1 tyX1 tyX1_ok nmX1 hown hK hP hD hS 0 rfl rfl 7 (by decide) (htB _ kw35) (fun _ h9 => h9) rfl (by decide +kernel) rfl rfl (Nat.le_of_ble_eq_true rfl) dX1_init_88 (fun H locs hP hD hS => ?_)
  have hP : va_P D vwCl ([(xa, .inr (1, [.ref q1, .ref q2, .ref q3, .ref q4, .ref q5, .ref q6, .ref q7, .int 0, .int 0, .int 0])), (q1, .inl (t 0, 2, .inl (upd (upd (fun _ => 0) (Int32.toNatClampNeg 0) 50) (Int32.toNatClampNeg 1) 50))), (q2, .inl (t 0, 2, .inl (fun _ => 0))), (q3, .inl (t 0, 24, .inl (fun _ => 0))), (q4, .inl (t 0, 24, .inl (fun _ => 0))), (q5, .inl (t 0, 6, .inl (fun _ => 0))), (q6, .inl (t 0, 4, .inl (upd (upd (upd (upd (fun _ => 0) (Int32.toNatClampNeg 0) 1) (Int32.toNatClampNeg 1) 60) (Int32.toNatClampNeg 2) 30) (Int32.toNatClampNeg 3) 20))), (q7, .inl (t 0, 6, .inl (fun _ => 0)))] : va_W) H := hP
  have hD : va_D A ([(xa, .inr (1, [.ref q1, .ref q2, .ref q3, .ref q4, .ref q5, .ref q6, .ref q7, .int 0, .int 0, .int 0])), (q1, .inl (t 0, 2, .inl (upd (upd (fun _ => 0) (Int32.toNatClampNeg 0) 50) (Int32.toNatClampNeg 1) 50))), (q2, .inl (t 0, 2, .inl (fun _ => 0))), (q3, .inl (t 0, 24, .inl (fun _ => 0))), (q4, .inl (t 0, 24, .inl (fun _ => 0))), (q5, .inl (t 0, 6, .inl (fun _ => 0))), (q6, .inl (t 0, 4, .inl (upd (upd (upd (upd (fun _ => 0) (Int32.toNatClampNeg 0) 1) (Int32.toNatClampNeg 1) 60) (Int32.toNatClampNeg 2) 30) (Int32.toNatClampNeg 3) 20))), (q7, .inl (t 0, 6, .inl (fun _ => 0)))] : va_W) := hD
  refine lv_aload_n hx hb dX1_init_91 rfl (lv_at hl 0 rfl) ?_
  refine lv_iconst (v := 0) hx hb dX1_init_92 (by decide) ?_
  refine va_put (D := D) (ci := 1) (v := .int 0) (ty := .int) (C := RX1) (T := TX1) (N := 10) hx hb htB inlX1 tyX1 tyX1_ok nmX1 hown hK hP hD hS 0 rfl rfl 8 (by decide) (htB _ kw36) (fun _ h9 => h9) rfl (by decide +kernel) rfl rfl (Nat.le_of_ble_eq_true rfl) dX1_init_93 (fun H locs hP hD hS => ?_)
  have hP : va_P D vwCl ([(xa, .inr (1, [.ref q1, .ref q2, .ref q3, .ref q4, .ref q5, .ref q6, .ref q7, .int 0, .int 0, .int 0])), (q1, .inl (t 0, 2, .inl (upd (upd (fun _ => 0) (Int32.toNatClampNeg 0) 50) (Int32.toNatClampNeg 1) 50))), (q2, .inl (t 0, 2, .inl (fun _ => 0))), (q3, .inl (t 0, 24, .inl (fun _ => 0))), (q4, .inl (t 0, 24, .inl (fun _ => 0))), (q5, .inl (t 0, 6, .inl (fun _ => 0))), (q6, .inl (t 0, 4, .inl (upd (upd (upd (upd (fun _ => 0) (Int32.toNatClampNeg 0) 1) (Int32.toNatClampNeg 1) 60) (Int32.toNatClampNeg 2) 30) (Int32.toNatClampNeg 3) 20))), (q7, .inl (t 0, 6, .inl (fun _ => 0)))] : va_W) H := hP
  have hD : va_D A ([(xa, .inr (1, [.ref q1, .ref q2, .ref q3, .ref q4, .ref q5, .ref q6, .ref q7, .int 0, .int 0, .int 0])), (q1, .inl (t 0, 2, .inl (upd (upd (fun _ => 0) (Int32.toNatClampNeg 0) 50) (Int32.toNatClampNeg 1) 50))), (q2, .inl (t 0, 2, .inl (fun _ => 0))), (q3, .inl (t 0, 24, .inl (fun _ => 0))), (q4, .inl (t 0, 24, .inl (fun _ => 0))), (q5, .inl (t 0, 6, .inl (fun _ => 0))), (q6, .inl (t 0, 4, .inl (upd (upd (upd (upd (fun _ => 0) (Int32.toNatClampNeg 0) 1) (Int32.toNatClampNeg 1) 60) (Int32.toNatClampNeg 2) 30) (Int32.toNatClampNeg 3) 20))), (q7, .inl (t 0, 6, .inl (fun _ => 0)))] : va_W) := hD
  refine lv_aload_n hx hb dX1_init_96 rfl (lv_at hl 0 rfl) ?_
  refine lv_iconst (v := 0) hx hb dX1_init_97 (by decide) ?_
  refine va_put (D := D) (ci := 1) (v := .int 0) (ty := .int) (C := RX1) (T := TX1) (N := 10) hx hb htB inlX1 tyX1 tyX1_ok nmX1 hown hK hP hD hS 0 rfl rfl 9 (by decide) (htB _ kw37) (fun _ h9 => h9) rfl (by decide +kernel) rfl rfl (Nat.le_of_ble_eq_true rfl) dX1_init_98 (fun H locs hP hD hS => ?_)
  have hP : va_P D vwCl ([(xa, .inr (1, [.ref q1, .ref q2, .ref q3, .ref q4, .ref q5, .ref q6, .ref q7, .int 0, .int 0, .int 0])), (q1, .inl (t 0, 2, .inl (upd (upd (fun _ => 0) (Int32.toNatClampNeg 0) 50) (Int32.toNatClampNeg 1) 50))), (q2, .inl (t 0, 2, .inl (fun _ => 0))), (q3, .inl (t 0, 24, .inl (fun _ => 0))), (q4, .inl (t 0, 24, .inl (fun _ => 0))), (q5, .inl (t 0, 6, .inl (fun _ => 0))), (q6, .inl (t 0, 4, .inl (upd (upd (upd (upd (fun _ => 0) (Int32.toNatClampNeg 0) 1) (Int32.toNatClampNeg 1) 60) (Int32.toNatClampNeg 2) 30) (Int32.toNatClampNeg 3) 20))), (q7, .inl (t 0, 6, .inl (fun _ => 0)))] : va_W) H := hP
  have hD : va_D A ([(xa, .inr (1, [.ref q1, .ref q2, .ref q3, .ref q4, .ref q5, .ref q6, .ref q7, .int 0, .int 0, .int 0])), (q1, .inl (t 0, 2, .inl (upd (upd (fun _ => 0) (Int32.toNatClampNeg 0) 50) (Int32.toNatClampNeg 1) 50))), (q2, .inl (t 0, 2, .inl (fun _ => 0))), (q3, .inl (t 0, 24, .inl (fun _ => 0))), (q4, .inl (t 0, 24, .inl (fun _ => 0))), (q5, .inl (t 0, 6, .inl (fun _ => 0))), (q6, .inl (t 0, 4, .inl (upd (upd (upd (upd (fun _ => 0) (Int32.toNatClampNeg 0) 1) (Int32.toNatClampNeg 1) 60) (Int32.toNatClampNeg 2) 30) (Int32.toNatClampNeg 3) 20))), (q7, .inl (t 0, 6, .inl (fun _ => 0)))] : va_W) := hD
  have hP : va_P D vwCl (gS t xa (fun i => [q1, q2, q3, q4, q5, q6, q7].getD i 0) iniS) H := hP.pick0 [0, 1, 2, 3, 4, 5, 6, 7] rfl
  have hD : va_D A (gS t xa (fun i => [q1, q2, q3, q4, q5, q6, q7].getD i 0) iniS) := hD.sub [0, 1, 2, 3, 4, 5, 6, 7] rfl rfl
  exact W.vret hx hb hr (fun tt ht hW => ⟨⟨(fun i => [q1, q2, q3, q4, q5, q6, q7].getD i 0), rfl, trivial, by rw [ht]; exact hP, va_K.moved hW.alike hK, hD⟩, hS.F ht⟩) hS.2.2 dX1_init_101 hlocks

abbrev zX0_init : List Cond := .code yX0_init cX0_init 1 none :: BIG
theorem dX0_init_0 : decode cX0_init 0 = .ok (.aload_n 0, 1) := by decide +kernel
theorem dX0_init_1 : decode cX0_init 1 = .ok (.invokespecial 3, 3) := by decide +kernel
theorem dX0_init_4 : decode cX0_init 4 = .ok (.aload_n 0, 1) := by decide +kernel
theorem dX0_init_5 : decode cX0_init 5 = .ok (.bipush 24, 2) := by decide +kernel
theorem dX0_init_7 : decode cX0_init 7 = .ok (.newarray .int, 2) := by decide +kernel
theorem dX0_init_9 : decode cX0_init 9 = .ok (.putfield 9, 3) := by decide +kernel
theorem dX0_init_12 : decode cX0_init 12 = .ok (.aload_n 0, 1) := by decide +kernel
theorem dX0_init_13 : decode cX0_init 13 = .ok (.bipush 24, 2) := by decide +kernel
theorem dX0_init_15 : decode cX0_init 15 = .ok (.newarray .int, 2) := by decide +kernel
theorem dX0_init_17 : decode cX0_init 17 = .ok (.putfield 15, 3) := by decide +kernel
theorem dX0_init_20 : decode cX0_init 20 = .ok (.aload_n 0, 1) := by decide +kernel
theorem dX0_init_21 : decode cX0_init 21 = .ok (.bipush 24, 2) := by decide +kernel
theorem dX0_init_23 : decode cX0_init 23 = .ok (.newarray .int, 2) := by decide +kernel
theorem dX0_init_25 : decode cX0_init 25 = .ok (.putfield 18, 3) := by decide +kernel
theorem dX0_init_28 : decode cX0_init 28 = .ok (.return_, 1) := by decide +kernel
set_option maxHeartbeats 8000000 in
set_option maxRecDepth 100000 in
theorem mtX0_init (l : Launch) (D : va_G) (t : Nat → ClassId) (xa : Nat) (sz : Nat) : Met l yX0_init zX0_init ({ frames := 1, cells := 3, slots := 72, locals := 12 }) (sPc D t ([(xa, .inr (0, [.null, .null, .null, .int 0, .int 0, .int 0, .int 0, .int 0, .int 0, .int 0]))] : va_W) sz [.ref xa]) (va_Qv (fun (_ : Nat → Nat) => True) (fun u tt => va_P D vwCl (gE t xa u iniE) tt.heap ∧ va_K D vwCl (TY t) tt ∧ va_D (va_A ([(xa, .inr (0, [.null, .null, .null, .int 0, .int 0, .int 0, .int 0, .int 0, .int 0, .int 0]))] : va_W) sz) (gE t xa u iniE)) (va_A ([(xa, .inr (0, [.null, .null, .null, .int 0, .int 0, .int 0, .int 0, .int 0, .int 0, .int 0]))] : va_W) sz)) 3 72 (va_A ([(xa, .inr (0, [.null, .null, .null, .int 0, .int 0, .int 0, .int 0, .int 0, .int 0, .int 0]))] : va_W) sz) := by
  refine met_ofC (Qf := fun A => va_Qv (fun (_ : Nat → Nat) => True) (fun u tt => va_P D vwCl (gE t xa u iniE) tt.heap ∧ va_K D vwCl (TY t) tt ∧ va_D A (gE t xa u iniE)) A) (cc := cX0_init) (maxL := 1) (ret := none) (by decide) rfl rfl (Nat.le_of_ble_eq_true rfl) ?_
  intro p e s m args below meth c A hx hb hr hml hts hown hlocks hin hA hP hK hD hE hS ls hl
  have htB : ∀ w ∈ BIG, w.before args s = true := fun w h => hts w (List.mem_cons_of_mem _ h)
  have hown : s.vm.findClass RX0 = some m.cls := hown
  have hl : lv_has ls 1 [(0, .ref xa)] := hl
  refine lv_aload_n hx hb dX0_init_0 rfl (lv_at hl 0 rfl) ?_
  refine W.objInit hx hb hown (htB _ kw41) (htB _ kw7) (htB _ kw8) rfl (by rw [hml]; exact hl.1) rfl dX0_init_1 (Nat.le_of_ble_eq_true rfl) (Nat.le_of_ble_eq_true rfl) ?_
  refine W.eq (g2 := F0 m 4 ls []) rfl ?_
  refine lv_aload_n hx hb dX0_init_4 rfl (lv_at hl 0 rfl) ?_
  refine lv_bipush (v := 24) hx hb dX0_init_5 (by decide) ?_
  refine va_newa (atype := .int) (ty := .int) (a0 := (24, .inl (fun _ => 0))) (N' := 24) hx hb (htB _ kw21) rfl hK hP hD hS hA (fun _ => rfl) (by decide) (by decide) (by decide) (Nat.le_of_ble_eq_true rfl) (Nat.le_of_ble_eq_true rfl) dX0_init_7 (fun q1 cA9 H hK9 hP hD hS => ?_)
  obtain rfl := k_int hK9
  have hP : va_P D vwCl ([(xa, .inr (0, [.null, .null, .null, .int 0, .int 0, .int 0, .int 0, .int 0, .int 0, .int 0])), (q1, .inl (t 0, 24, .inl (fun _ => 0)))] : va_W) H := hP
  have hD : va_D A ([(xa, .inr (0, [.null, .null, .null, .int 0, .int 0, .int 0, .int 0, .int 0, .int 0, .int 0])), (q1, .inl (t 0, 24, .inl (fun _ => 0)))] : va_W) := hD
  refine va_putF (D := D) (ci := 0) (v := .ref q1) (ty := (.array .int)) (C := RX0) (T := TX0) (N := 10) hx hb htB inlX0 tyX0 tyX0_ok nmX0 hown hK hP hD hS 0 rfl rfl 0 (by decide) (htB _ kw42) (fun _ h9 => h9) rfl hin rfl (by decide +kernel) rfl rfl (Nat.le_of_ble_eq_true rfl) dX0_init_9 (fun H locs hP hD hS => ?_)
  have hP : va_P D vwCl ([(xa, .inr (0, [.ref q1, .null, .null, .int 0, .int 0, .int 0, .int 0, .int 0, .int 0, .int 0])), (q1, .inl (t 0, 24, .inl (fun _ => 0)))] : va_W) H := hP
  have hD : va_D A ([(xa, .inr (0, [.ref q1, .null, .null, .int 0, .int 0, .int 0, .int 0, .int 0, .int 0, .int 0])), (q1, .inl (t 0, 24, .inl (fun _ => 0)))] : va_W) := hD
  refine lv_aload_n hx hb dX0_init_12 rfl (lv_at hl 0 rfl) ?_
  refine lv_bipush (v := 24) hx hb dX0_init_13 (by decide) ?_
  refine va_newa (atype := .int) (ty := .int) (a0 := (24, .inl (fun _ => 0))) (N' := 24) hx hb (htB _ kw21) rfl hK hP hD hS hA (fun _ => rfl) (by decide) (by decide) (by decide) (Nat.le_of_ble_eq_true rfl) (Nat.le_of_ble_eq_true rfl) dX0_init_15 (fun q2 cA9 H hK9 hP hD hS => ?_)
  obtain rfl := k_int hK9
  have hP : va_P D vwCl ([(xa, .inr (0, [.ref q1, .null, .null, .int 0, .int 0, .int 0, .int 0, .int 0, .int 0, .int 0])), (q1, .inl (t 0, 24, .inl (fun _ => 0))), (q2, .inl (t 0, 24, .inl (fun _ => 0)))] : va_W) H := hP
  have hD : va_D A ([(xa, .inr (0, [.ref q1, .null, .null, .int 0, .int 0, .int 0, .int 0, .int 0, .int 0, .int 0])), (q1, .inl (t 0, 24, .inl (fun _ => 0))), (q2, .inl (t 0, 24, .inl (fun _ => 0)))] : va_W) := hD
  refine va_putF (D := D) (ci := 0) (v := .ref q2) (ty := (.array .int)) (C := RX0) (T := TX0) (N := 10) hx hb htB inlX0 tyX0 tyX0_ok nmX0 hown hK hP hD hS 0 rfl rfl 1 (by decide) (htB _ kw43) (fun _ h9 => h9) rfl hin rfl (by decide +kernel) rfl rfl (Nat.le_of_ble_eq_true rfl) dX0_init_17 (fun H locs hP hD hS => ?_)
  have hP : va_P D vwCl ([(xa, .inr (0, [.ref q1, .ref q2, .null, .int 0, .int 0, .int 0, .int 0, .int 0, .int 0, .int 0])), (q1, .inl (t 0, 24, .inl (fun _ => 0))), (q2, .inl (t 0, 24, .inl (fun _ => 0)))] : va_W) H := hP
  have hD : va_D A ([(xa, .inr (0, [.ref q1, .ref q2, .null, .int 0, .int 0, .int 0, .int 0, .int 0, .int 0, .int 0])), (q1, .inl (t 0, 24, .inl (fun _ => 0))), (q2, .inl (t 0, 24, .inl (fun _ => 0)))] : va_W) := hD
  refine lv_aload_n hx hb dX0_init_20 rfl (lv_at hl 0 rfl) ?_
  refine lv_bipush (v := 24) hx hb dX0_init_21 (by decide) ?_
  refine va_newa (atype := .int) (ty := .int) (a0 := (24, .inl (fun _ => 0))) (N' := 24) hx hb (htB _ kw21) rfl hK hP hD hS hA (fun _ => rfl) (by decide) (by decide) (by decide) (Nat.le_of_ble_eq_true rfl) (Nat.le_of_ble_eq_true rfl) dX0_init_23 (fun q3 cA9 H hK9 hP hD hS => ?_)
  obtain rfl := k_int hK9
  have hP : va_P D vwCl ([(xa, .inr (0, [.ref q1, .ref q2, .null, .int 0, .int 0, .int 0, .int 0, .int 0, .int 0, .int 0])), (q1, .inl (t 0, 24, .inl (fun _ => 0))), (q2, .inl (t 0, 24, .inl (fun _ => 0))), (q3, .inl (t 0, 24, .inl (fun _ => 0)))] : va_W) H := hP
  have hD : va_D A ([(xa, .inr (0, [.ref q1, .ref q2, .null, .int 0, .int 0, .int 0, .int 0, .int 0, .int 0, .int 0])), (q1, .inl (t 0, 24, .inl (fun _ => 0))), (q2, .inl (t 0, 24, .inl (fun _ => 0))), (q3, .inl (t 0, 24, .inl (fun _ => 0)))] : va_W) := hD
  refine va_putF (D := D) (ci := 0) (v := .ref q3) (ty := (.array .int)) (C := RX0) (T := TX0) (N := 10) hx hb htB inlX0 tyX0 tyX0_ok nmX0 hown hK hP hD hS 0 rfl rfl 2 (by decide) (htB _ kw44) (fun _ h9 => h9) rfl hin rfl (by decide +kernel) rfl rfl (Nat.le_of_ble_eq_true rfl) dX0_init_25 (fun H locs hP hD hS => ?_)
  have hP : va_P D vwCl ([(xa, .inr (0, [.ref q1, .ref q2, .ref q3, .int 0, .int 0, .int 0, .int 0, .int 0, .int 0, .int 0])), (q1, .inl (t 0, 24, .inl (fun _ => 0))), (q2, .inl (t 0, 24, .inl (fun _ => 0))), (q3, .inl (t 0, 24, .inl (fun _ => 0)))] : va_W) H := hP
  have hD : va_D A ([(xa, .inr (0, [.ref q1, .ref q2, .ref q3, .int 0, .int 0, .int 0, .int 0, .int 0, .int 0, .int 0])), (q1, .inl (t 0, 24, .inl (fun _ => 0))), (q2, .inl (t 0, 24, .inl (fun _ => 0))), (q3, .inl (t 0, 24, .inl (fun _ => 0)))] : va_W) := hD
  have hP : va_P D vwCl (gE t xa (fun i => [q1, q2, q3].getD i 0) iniE) H := hP.pick0 [0, 1, 2, 3] rfl
  have hD : va_D A (gE t xa (fun i => [q1, q2, q3].getD i 0) iniE) := hD.sub [0, 1, 2, 3] rfl rfl
  exact W.vret hx hb hr (fun tt ht hW => ⟨⟨(fun i => [q1, q2, q3].getD i 0), rfl, trivial, by rw [ht]; exact hP, va_K.moved hW.alike hK, hD⟩, hS.F ht⟩) hS.2.2 dX0_init_28 hlocks

abbrev zX2_init : List Cond := .code yX2_init cX2_init 2 none :: BIG
theorem dX2_init_0 : decode cX2_init 0 = .ok (.aload_n 0, 1) := by decide +kernel
theorem dX2_init_1 : decode cX2_init 1 = .ok (.invokespecial 1, 3) := by decide +kernel
theorem dX2_init_4 : decode cX2_init 4 = .ok (.aload_n 0, 1) := by decide +kernel
theorem dX2_init_5 : decode cX2_init 5 = .ok (.new 7, 3) := by decide +kernel
theorem dX2_init_8 : decode cX2_init 8 = .ok (.dup, 1) := by decide +kernel
theorem dX2_init_9 : decode cX2_init 9 = .ok (.invokespecial 9, 3) := by decide +kernel
theorem dX2_init_12 : decode cX2_init 12 = .ok (.putfield 10, 3) := by decide +kernel
theorem dX2_init_15 : decode cX2_init 15 = .ok (.aload_n 0, 1) := by decide +kernel
theorem dX2_init_16 : decode cX2_init 16 = .ok (.new 7, 3) := by decide +kernel
theorem dX2_init_19 : decode cX2_init 19 = .ok (.dup, 1) := by decide +kernel
theorem dX2_init_20 : decode cX2_init 20 = .ok (.invokespecial 9, 3) := by decide +kernel
theorem dX2_init_23 : decode cX2_init 23 = .ok (.putfield 16, 3) := by decide +kernel
theorem dX2_init_26 : decode cX2_init 26 = .ok (.aload_n 0, 1) := by decide +kernel
theorem dX2_init_27 : decode cX2_init 27 = .ok (.new 19, 3) := by decide +kernel
theorem dX2_init_30 : decode cX2_init 30 = .ok (.dup, 1) := by decide +kernel
theorem dX2_init_31 : decode cX2_init 31 = .ok (.invokespecial 21, 3) := by decide +kernel
theorem dX2_init_34 : decode cX2_init 34 = .ok (.putfield 22, 3) := by decide +kernel
theorem dX2_init_37 : decode cX2_init 37 = .ok (.aload_n 0, 1) := by decide +kernel
theorem dX2_init_38 : decode cX2_init 38 = .ok (.bipush 6, 2) := by decide +kernel
theorem dX2_init_40 : decode cX2_init 40 = .ok (.anewarray 7, 3) := by decide +kernel
theorem dX2_init_43 : decode cX2_init 43 = .ok (.putfield 26, 3) := by decide +kernel
theorem dX2_init_46 : decode cX2_init 46 = .ok (.iconst 0, 1) := by decide +kernel
theorem dX2_init_47 : decode cX2_init 47 = .ok (.istore_n 1, 1) := by decide +kernel
theorem dX2_init_48 : decode cX2_init 48 = .ok (.iload_n 1, 1) := by decide +kernel
theorem dX2_init_49 : decode cX2_init 49 = .ok (.aload_n 0, 1) := by decide +kernel
theorem dX2_init_50 : decode cX2_init 50 = .ok (.getfield 26, 3) := by decide +kernel
theorem dX2_init_53 : decode cX2_init 53 = .ok (.arraylength, 1) := by decide +kernel
theorem dX2_init_54 : decode cX2_init 54 = .ok (.if_icmp .ge 22, 3) := by decide +kernel
theorem dX2_init_57 : decode cX2_init 57 = .ok (.aload_n 0, 1) := by decide +kernel
theorem dX2_init_58 : decode cX2_init 58 = .ok (.getfield 26, 3) := by decide +kernel
theorem dX2_init_61 : decode cX2_init 61 = .ok (.iload_n 1, 1) := by decide +kernel
theorem dX2_init_62 : decode cX2_init 62 = .ok (.new 7, 3) := by decide +kernel
theorem dX2_init_65 : decode cX2_init 65 = .ok (.dup, 1) := by decide +kernel
theorem dX2_init_66 : decode cX2_init 66 = .ok (.invokespecial 9, 3) := by decide +kernel
theorem dX2_init_69 : decode cX2_init 69 = .ok (.aastore, 1) := by decide +kernel
theorem dX2_init_70 : decode cX2_init 70 = .ok (.iinc 1 1, 3) := by decide +kernel
theorem dX2_init_73 : decode cX2_init 73 = .ok (.goto (-25), 3) := by decide +kernel
theorem dX2_init_76 : decode cX2_init 76 = .ok (.aload_n 0, 1) := by decide +kernel
theorem dX2_init_77 : decode cX2_init 77 = .ok (.iconst 0, 1) := by decide +kernel
theorem dX2_init_78 : decode cX2_init 78 = .ok (.putfield 30, 3) := by decide +kernel
theorem dX2_init_81 : decode cX2_init 81 = .ok (.aload_n 0, 1) := by decide +kernel
theorem dX2_init_82 : decode cX2_init 82 = .ok (.iconst 0, 1) := by decide +kernel
theorem dX2_init_83 : decode cX2_init 83 = .ok (.putfield 34, 3) := by decide +kernel
theorem dX2_init_86 : decode cX2_init 86 = .ok (.aload_n 0, 1) := by decide +kernel
theorem dX2_init_87 : decode cX2_init 87 = .ok (.bipush 60, 2) := by decide +kernel
theorem dX2_init_89 : decode cX2_init 89 = .ok (.newarray .int, 2) := by decide +kernel
theorem dX2_init_91 : decode cX2_init 91 = .ok (.putfield 37, 3) := by decide +kernel
theorem dX2_init_94 : decode cX2_init 94 = .ok (.aload_n 0, 1) := by decide +kernel
theorem dX2_init_95 : decode cX2_init 95 = .ok (.iconst 0, 1) := by decide +kernel
theorem dX2_init_96 : decode cX2_init 96 = .ok (.putfield 41, 3) := by decide +kernel
theorem dX2_init_99 : decode cX2_init 99 = .ok (.return_, 1) := by decide +kernel
set_option maxHeartbeats 8000000 in
set_option maxRecDepth 100000 in
theorem mtX2_init (l : Launch) (D : va_G) (t : Nat → ClassId) (xa : Nat) (sz : Nat) : Met l yX2_init zX2_init ({ frames := 2, cells := 70, slots := 772, locals := 32 }) (sPcO D t ([(xa, .inr (2, [.null, .null, .null, .null, .int 0, .int 0, .null, .int 0]))] : va_W) sz [.ref xa]) (va_Qv (fun (_ : (Nat → Nat) × (Nat → Nat) × (Nat → Nat) × (Nat → Nat) × (Nat → Nat) × (Nat → Nat → Nat)) => True) (fun u tt => va_P D vwCl (gBo xa u.1 (0, 0, 0) ++ (gS t (u.1 0) u.2.1 iniS ++ (gS t (u.1 1) u.2.2.1 iniS ++ (gE t (u.1 2) u.2.2.2.1 iniE ++ (gQ t (u.1 3) u.2.2.2.2.1 ++ (g6 t u.2.2.2.2.1 u.2.2.2.2.2 (fun _ => iniS) ++ gA t (u.1 4) 60 (fun _ => 0))))))) tt.heap ∧ va_K D vwCl (TY t) tt ∧ va_D (va_A ([(xa, .inr (2, [.null, .null, .null, .null, .int 0, .int 0, .null, .int 0]))] : va_W) sz) (gBo xa u.1 (0, 0, 0) ++ (gS t (u.1 0) u.2.1 iniS ++ (gS t (u.1 1) u.2.2.1 iniS ++ (gE t (u.1 2) u.2.2.2.1 iniE ++ (gQ t (u.1 3) u.2.2.2.2.1 ++ (g6 t u.2.2.2.2.1 u.2.2.2.2.2 (fun _ => iniS) ++ gA t (u.1 4) 60 (fun _ => 0)))))))) (va_A ([(xa, .inr (2, [.null, .null, .null, .null, .int 0, .int 0, .null, .int 0]))] : va_W) sz)) 70 772 (va_A ([(xa, .inr (2, [.null, .null, .null, .null, .int 0, .int 0, .null, .int 0]))] : va_W) sz) := by
  refine met_ofO (Qf := fun A => va_Qv (fun (_ : (Nat → Nat) × (Nat → Nat) × (Nat → Nat) × (Nat → Nat) × (Nat → Nat) × (Nat → Nat → Nat)) => True) (fun u tt => va_P D vwCl (gBo xa u.1 (0, 0, 0) ++ (gS t (u.1 0) u.2.1 iniS ++ (gS t (u.1 1) u.2.2.1 iniS ++ (gE t (u.1 2) u.2.2.2.1 iniE ++ (gQ t (u.1 3) u.2.2.2.2.1 ++ (g6 t u.2.2.2.2.1 u.2.2.2.2.2 (fun _ => iniS) ++ gA t (u.1 4) 60 (fun _ => 0))))))) tt.heap ∧ va_K D vwCl (TY t) tt ∧ va_D A (gBo xa u.1 (0, 0, 0) ++ (gS t (u.1 0) u.2.1 iniS ++ (gS t (u.1 1) u.2.2.1 iniS ++ (gE t (u.1 2) u.2.2.2.1 iniE ++ (gQ t (u.1 3) u.2.2.2.2.1 ++ (g6 t u.2.2.2.2.1 u.2.2.2.2.2 (fun _ => iniS) ++ gA t (u.1 4) 60 (fun _ => 0)))))))) A) (cc := cX2_init) (maxL := 2) (ret := none) (by decide) rfl rfl (Nat.le_of_ble_eq_true rfl) ?_
  intro p e s m args below meth c A hx hb hr hml hts hown hlocks hin hA hP hK hD hE hS hAO ls hl
  have htB : ∀ w ∈ BIG, w.before args s = true := fun w h => hts w (List.mem_cons_of_mem _ h)
  have hown : s.vm.findClass RX2 = some m.cls := hown
  have hl : lv_has ls 2 [(0, .ref xa)] := hl
  refine lv_aload_n hx hb dX2_init_0 rfl (lv_at hl 0 rfl) ?_
  refine W.objInit hx hb hown (htB _ kw6) (htB _ kw7) (htB _ kw8) rfl (by rw [hml]; exact hl.1) rfl dX2_init_1 (Nat.le_of_ble_eq_true rfl) (Nat.le_of_ble_eq_true rfl) ?_
  refine W.eq (g2 := F0 m 4 ls []) rfl ?_
  refine lv_aload_n hx hb dX2_init_4 rfl (lv_at hl 0 rfl) ?_
  refine va_new (ci := 1) (fs := [.null, .null, .null, .null, .null, .null, .null, .int 0, .int 0, .int 0]) (C := RX1) (T := TX1) (N := 10) hx hb htB inlX1 tyX1 tyX1_ok hown (htB _ kw9) (htB _ kw10) (htB _ kw11) hK hP hD hS hA rfl (by decide +kernel) (Nat.le_of_ble_eq_true rfl) (Nat.le_of_ble_eq_true rfl) dX2_init_5 (fun q1 H hP hD hS => ?_)
  have hP : va_P D vwCl ([(xa, .inr (2, [.null, .null, .null, .null, .int 0, .int 0, .null, .int 0])), (q1, .inr (1, [.null, .null, .null, .null, .null, .null, .null, .int 0, .int 0, .int 0]))] : va_W) H := hP
  have hD : va_D A ([(xa, .inr (2, [.null, .null, .null, .null, .int 0, .int 0, .null, .int 0])), (q1, .inr (1, [.null, .null, .null, .null, .null, .null, .null, .int 0, .int 0, .int 0]))] : va_W) := hD
  refine lv_dup hx hb dX2_init_8 rfl ?_
  have hFc := va_free (wc := [(q1, .inr (1, [.null, .null, .null, .null, .null, .null, .null, .int 0, .int 0, .int 0]))]) hD hS hA [1] rfl
  refine va_callv (va_runI (As := []) (rest := [.ref q1, .ref xa]) ⟨hx, hb, hml, hown, hts⟩ (mtX1_init l D t q1 H.size) (cwI 0 hts (gB kw26) rfl rfl rfl (htB _ kw11) (htB _ kw24) (htB _ kw25) rfl (by decide +kernel) ⟨Nat.le_of_ble_eq_true rfl, Nat.le_of_ble_eq_true rfl⟩) (sPc_S (hP.pick0 [1] rfl) hK (hD.sub [1] rfl rfl) hE) rfl rfl hl.1 rfl (lv_room (Nat.le_of_ble_eq_true rfl)) dX2_init_9 ⟨Nat.le_of_ble_eq_true rfl, Nat.le_of_ble_eq_true rfl⟩) hS (fun q9 _ h9 => hFc q9 h9) hFc (fun b2 t9 H9 locs9 ht9 hvm9 hw9 hB9 hz9 hk9 hS => ?_)
  obtain ⟨hP9, -, hD9⟩ := hB9
  rw [ht9] at hP9
  obtain ⟨hP, hD⟩ := va_join (wr := ([(xa, .inr (2, [.null, .null, .null, .null, .int 0, .int 0, .null, .int 0]))] : va_W)) (w1 := gS t q1 b2 iniS) hP hD [1] [0] rfl rfl rfl (by decide) hk9 hFc hP9 hD9
  generalize H9 = H at hP hS ⊢
  have hP : va_P D vwCl ([(xa, .inr (2, [.null, .null, .null, .null, .int 0, .int 0, .null, .int 0]))] ++ (gS t q1 b2 iniS)) H := hP
  have hD : va_D A ([(xa, .inr (2, [.null, .null, .null, .null, .int 0, .int 0, .null, .int 0]))] ++ (gS t q1 b2 iniS)) := hD
  refine va_putF (D := D) (ci := 2) (v := .ref q1) (ty := (.object "ShutterBench$Shutter")) (C := RX2) (T := TX2) (N := 8) hx hb htB inlX2 tyX2 tyX2_ok nmX2 hown hK hP hD hS 0 rfl rfl 0 (by decide) (htB _ kw12) (fun _ h9 => h9) rfl hin rfl (by decide +kernel) rfl rfl (Nat.le_of_ble_eq_true rfl) dX2_init_12 (fun H locs hP hD hS => ?_)
  have hP : va_P D vwCl ([(xa, .inr (2, [.ref q1, .null, .null, .null, .int 0, .int 0, .null, .int 0]))] ++ (gS t q1 b2 iniS)) H := hP
  have hD : va_D A ([(xa, .inr (2, [.ref q1, .null, .null, .null, .int 0, .int 0, .null, .int 0]))] ++ (gS t q1 b2 iniS)) := hD
  refine lv_aload_n hx hb dX2_init_15 rfl (lv_at hl 0 rfl) ?_
  refine va_new (ci := 1) (fs := [.null, .null, .null, .null, .null, .null, .null, .int 0, .int 0, .int 0]) (C := RX1) (T := TX1) (N := 10) hx hb htB inlX1 tyX1 tyX1_ok hown (htB _ kw9) (htB _ kw10) (htB _ kw11) hK hP hD hS hA rfl (by decide +kernel) (Nat.le_of_ble_eq_true rfl) (Nat.le_of_ble_eq_true rfl) dX2_init_16 (fun q3 H hP hD hS => ?_)
  have hP : va_P D vwCl ([(xa, .inr (2, [.ref q1, .null, .null, .null, .int 0, .int 0, .null, .int 0]))] ++ (gS t q1 b2 iniS ++ ([(q3, .inr (1, [.null, .null, .null, .null, .null, .null, .null, .int 0, .int 0, .int 0]))]))) H := hP
  have hD : va_D A ([(xa, .inr (2, [.ref q1, .null, .null, .null, .int 0, .int 0, .null, .int 0]))] ++ (gS t q1 b2 iniS ++ ([(q3, .inr (1, [.null, .null, .null, .null, .null, .null, .null, .int 0, .int 0, .int 0]))]))) := hD
  refine lv_dup hx hb dX2_init_19 rfl ?_
  have hFc := va_free (wc := [(q3, .inr (1, [.null, .null, .null, .null, .null, .null, .null, .int 0, .int 0, .int 0]))]) hD hS hA [9] rfl
  refine va_callv (va_runI (As := []) (rest := [.ref q3, .ref xa]) ⟨hx, hb, hml, hown, hts⟩ (mtX1_init l D t q3 H.size) (cwI 0 hts (gB kw26) rfl rfl rfl (htB _ kw11) (htB _ kw24) (htB _ kw25) rfl (by decide +kernel) ⟨Nat.le_of_ble_eq_true rfl, Nat.le_of_ble_eq_true rfl⟩) (sPc_S (hP.pick0 [9] rfl) hK (hD.sub [9] rfl rfl) hE) rfl rfl hl.1 rfl (lv_room (Nat.le_of_ble_eq_true rfl)) dX2_init_20 ⟨Nat.le_of_ble_eq_true rfl, Nat.le_of_ble_eq_true rfl⟩) hS (fun q9 _ h9 => hFc q9 h9) hFc (fun b4 t9 H9 locs9 ht9 hvm9 hw9 hB9 hz9 hk9 hS => ?_)
  obtain ⟨hP9, -, hD9⟩ := hB9
  rw [ht9] at hP9
  obtain ⟨hP, hD⟩ := va_join (wr := ([(xa, .inr (2, [.ref q1, .null, .null, .null, .int 0, .int 0, .null, .int 0]))] ++ (gS t q1 b2 iniS))) (w1 := gS t q3 b4 iniS) hP hD [9] [0, 1, 2, 3, 4, 5, 6, 7, 8] rfl rfl rfl (by decide) hk9 hFc hP9 hD9
  generalize H9 = H at hP hS ⊢
  have hP : va_P D vwCl ([(xa, .inr (2, [.ref q1, .null, .null, .null, .int 0, .int 0, .null, .int 0]))] ++ (gS t q1 b2 iniS ++ (gS t q3 b4 iniS))) H := hP
  have hD : va_D A ([(xa, .inr (2, [.ref q1, .null, .null, .null, .int 0, .int 0, .null, .int 0]))] ++ (gS t q1 b2 iniS ++ (gS t q3 b4 iniS))) := hD
  refine va_putF (D := D) (ci := 2) (v := .ref q3) (ty := (.object "ShutterBench$Shutter")) (C := RX2) (T := TX2) (N := 8) hx hb htB inlX2 tyX2 tyX2_ok nmX2 hown hK hP hD hS 0 rfl rfl 1 (by decide) (htB _ kw13) (fun _ h9 => h9) rfl hin rfl (by decide +kernel) rfl rfl (Nat.le_of_ble_eq_true rfl) dX2_init_23 (fun H locs hP hD hS => ?_)
  have hP : va_P D vwCl ([(xa, .inr (2, [.ref q1, .ref q3, .null, .null, .int 0, .int 0, .null, .int 0]))] ++ (gS t q1 b2 iniS ++ (gS t q3 b4 iniS))) H := hP
  have hD : va_D A ([(xa, .inr (2, [.ref q1, .ref q3, .null, .null, .int 0, .int 0, .null, .int 0]))] ++ (gS t q1 b2 iniS ++ (gS t q3 b4 iniS))) := hD
  refine lv_aload_n hx hb dX2_init_26 rfl (lv_at hl 0 rfl) ?_
  refine va_new (ci := 0) (fs := [.null, .null, .null, .int 0, .int 0, .int 0, .int 0, .int 0, .int 0, .int 0]) (C := RX0) (T := TX0) (N := 10) hx hb htB inlX0 tyX0 tyX0_ok hown (htB _ kw14) (htB _ kw15) (htB _ kw16) hK hP hD hS hA rfl (by decide +kernel) (Nat.le_of_ble_eq_true rfl) (Nat.le_of_ble_eq_true rfl) dX2_init_27 (fun q5 H hP hD hS => ?_)
  have hP : va_P D vwCl ([(xa, .inr (2, [.ref q1, .ref q3, .null, .null, .int 0, .int 0, .null, .int 0]))] ++ (gS t q1 b2 iniS ++ (gS t q3 b4 iniS ++ ([(q5, .inr (0, [.null, .null, .null, .int 0, .int 0, .int 0, .int 0, .int 0, .int 0, .int 0]))])))) H := hP
  have hD : va_D A ([(xa, .inr (2, [.ref q1, .ref q3, .null, .null, .int 0, .int 0, .null, .int 0]))] ++ (gS t q1 b2 iniS ++ (gS t q3 b4 iniS ++ ([(q5, .inr (0, [.null, .null, .null, .int 0, .int 0, .int 0, .int 0, .int 0, .int 0, .int 0]))])))) := hD
  refine lv_dup hx hb dX2_init_30 rfl ?_
  have hFc := va_free (wc := [(q5, .inr (0, [.null, .null, .null, .int 0, .int 0, .int 0, .int 0, .int 0, .int 0, .int 0]))]) hD hS hA [17] rfl
  refine va_callv (va_runI (As := []) (rest := [.ref q5, .ref xa]) ⟨hx, hb, hml, hown, hts⟩ (mtX0_init l D t q5 H.size) (cwI 0 hts (gB kw40) rfl rfl rfl (htB _ kw16) (htB _ kw38) (htB _ kw39) rfl (by decide +kernel) ⟨Nat.le_of_ble_eq_true rfl, Nat.le_of_ble_eq_true rfl⟩) (sPc_S (hP.pick0 [17] rfl) hK (hD.sub [17] rfl rfl) hE) rfl rfl hl.1 rfl (lv_room (Nat.le_of_ble_eq_true rfl)) dX2_init_31 ⟨Nat.le_of_ble_eq_true rfl, Nat.le_of_ble_eq_true rfl⟩) hS (fun q9 _ h9 => hFc q9 h9) hFc (fun b6 t9 H9 locs9 ht9 hvm9 hw9 hB9 hz9 hk9 hS => ?_)
  obtain ⟨hP9, -, hD9⟩ := hB9
  rw [ht9] at hP9
  obtain ⟨hP, hD⟩ := va_join (wr := ([(xa, .inr (2, [.ref q1, .ref q3, .null, .null, .int 0, .int 0, .null, .int 0]))] ++ (gS t q1 b2 iniS ++ (gS t q3 b4 iniS)))) (w1 := gE t q5 b6 iniE) hP hD [17] [0, 1, 2, 3, 4, 5, 6, 7, 8, 9, 10, 11, 12, 13, 14, 15, 16] rfl rfl rfl (by decide) hk9 hFc hP9 hD9
  generalize H9 = H at hP hS ⊢
  have hP : va_P D vwCl ([(xa, .inr (2, [.ref q1, .ref q3, .null, .null, .int 0, .int 0, .null, .int 0]))] ++ (gS t q1 b2 iniS ++ (gS t q3 b4 iniS ++ (gE t q5 b6 iniE)))) H := hP
  have hD : va_D A ([(xa, .inr (2, [.ref q1, .ref q3, .null, .null, .int 0, .int 0, .null, .int 0]))] ++ (gS t q1 b2 iniS ++ (gS t q3 b4 iniS ++ (gE t q5 b6 iniE)))) := hD
  refine va_putF (D := D) (ci := 2) (v := .ref q5) (ty := (.object "ShutterBench$Exposure")) (C := RX2) (T := TX2) (N := 8) hx hb htB inlX2 tyX2 tyX2_ok nmX2 hown hK hP hD hS 0 rfl rfl 2 (by decide) (htB _ kw17) (fun _ h9 => h9) rfl hin rfl (by decide +kernel) rfl rfl (Nat.le_of_ble_eq_true rfl) dX2_init_34 (fun H locs hP hD hS => ?_)
  have hP : va_P D vwCl ([(xa, .inr (2, [.ref q1, .ref q3, .ref q5, .null, .int 0, .int 0, .null, .int 0]))] ++ (gS t q1 b2 iniS ++ (gS t q3 b4 iniS ++ (gE t q5 b6 iniE)))) H := hP
  have hD : va_D A ([(xa, .inr (2, [.ref q1, .ref q3, .ref q5, .null, .int 0, .int 0, .null, .int 0]))] ++ (gS t q1 b2 iniS ++ (gS t q3 b4 iniS ++ (gE t q5 b6 iniE)))) := hD
  refine lv_aload_n hx hb dX2_init_37 rfl (lv_at hl 0 rfl) ?_
  refine lv_bipush (v := 6) hx hb dX2_init_38 (by decide) ?_
  refine va_newq (C := RX1) (N' := 6) hx hb hown (htB _ kw9) hAO hK hP hD hS hA (by decide) (by decide) (by decide) (Nat.le_of_ble_eq_true rfl) (Nat.le_of_ble_eq_true rfl) dX2_init_40 (fun q7 cA9 H hK9 hP hD hS => ?_)
  obtain rfl := k_obj hK9
  have hP : va_P D vwCl ([(xa, .inr (2, [.ref q1, .ref q3, .ref q5, .null, .int 0, .int 0, .null, .int 0]))] ++ (gS t q1 b2 iniS ++ (gS t q3 b4 iniS ++ (gE t q5 b6 iniE ++ ([(q7, .inl (t 1, 6, .inr (.inr (.inr (.inr (fun _ => none))))))]))))) H := hP
  have hD : va_D A ([(xa, .inr (2, [.ref q1, .ref q3, .ref q5, .null, .int 0, .int 0, .null, .int 0]))] ++ (gS t q1 b2 iniS ++ (gS t q3 b4 iniS ++ (gE t q5 b6 iniE ++ ([(q7, .inl (t 1, 6, .inr (.inr (.inr (.inr (fun _ => none))))))]))))) := hD
  refine va_putF (D := D) (ci := 2) (v := .ref q7) (ty := (.array (.object "ShutterBench$Shutter"))) (C := RX2) (T := TX2) (N := 8) hx hb htB inlX2 tyX2 tyX2_ok nmX2 hown hK hP hD hS 0 rfl rfl 3 (by decide) (htB _ kw18) (fun _ h9 => h9) rfl hin rfl (by decide +kernel) rfl rfl (Nat.le_of_ble_eq_true rfl) dX2_init_43 (fun H locs hP hD hS => ?_)
  have hP : va_P D vwCl ([(xa, .inr (2, [.ref q1, .ref q3, .ref q5, .ref q7, .int 0, .int 0, .null, .int 0]))] ++ (gS t q1 b2 iniS ++ (gS t q3 b4 iniS ++ (gE t q5 b6 iniE ++ ([(q7, .inl (t 1, 6, .inr (.inr (.inr (.inr (fun _ => none))))))]))))) H := hP
  have hD : va_D A ([(xa, .inr (2, [.ref q1, .ref q3, .ref q5, .ref q7, .int 0, .int 0, .null, .int 0]))] ++ (gS t q1 b2 iniS ++ (gS t q3 b4 iniS ++ (gE t q5 b6 iniE ++ ([(q7, .inl (t 1, 6, .inr (.inr (.inr (.inr (fun _ => none))))))]))))) := hD
  refine lv_iconst (v := 0) hx hb dX2_init_46 (by decide) ?_
  refine lv_istore_n (lv' := [(1, .int 0), (0, .ref xa)]) hx hb dX2_init_47 rfl hl (by decide) rfl (fun ls hl => ?_)
  refine lv_iload_n hx hb dX2_init_48 rfl (lv_at hl 0 rfl) ?_
  refine lv_aload_n hx hb dX2_init_49 rfl (lv_at hl 1 rfl) ?_
  refine va_get (D := D) (ci := 2) (v := .ref q7) (C := RX2) (T := TX2) (N := 8) hx hb htB inlX2 hown hK hP 0 rfl rfl 3 (by decide) (htB _ kw18) (fun _ h9 => h9) rfl dX2_init_50 ?_
  refine va_alen (v := 6) hx hb hK hP 21 1 rfl rfl rfl dX2_init_53 ?_
  refine lv_icmp_ge (tgt := 76) hx hb dX2_init_54 (by decide) (fun c9 => absurd c9 (by decide)) (fun _ => ?_)
  refine lv_aload_n hx hb dX2_init_57 rfl (lv_at hl 1 rfl) ?_
  refine va_get (D := D) (ci := 2) (v := .ref q7) (C := RX2) (T := TX2) (N := 8) hx hb htB inlX2 hown hK hP 0 rfl rfl 3 (by decide) (htB _ kw18) (fun _ h9 => h9) rfl dX2_init_58 ?_
  refine lv_iload_n hx hb dX2_init_61 rfl (lv_at hl 0 rfl) ?_
  refine va_new (ci := 1) (fs := [.null, .null, .null, .null, .null, .null, .null, .int 0, .int 0, .int 0]) (C := RX1) (T := TX1) (N := 10) hx hb htB inlX1 tyX1 tyX1_ok hown (htB _ kw9) (htB _ kw10) (htB _ kw11) hK hP hD hS hA rfl (by decide +kernel) (Nat.le_of_ble_eq_true rfl) (Nat.le_of_ble_eq_true rfl) dX2_init_62 (fun q8 H hP hD hS => ?_)
  have hP : va_P D vwCl ([(xa, .inr (2, [.ref q1, .ref q3, .ref q5, .ref q7, .int 0, .int 0, .null, .int 0]))] ++ (gS t q1 b2 iniS ++ (gS t q3 b4 iniS ++ (gE t q5 b6 iniE ++ ([(q7, .inl (t 1, 6, .inr (.inr (.inr (.inr (fun _ => none)))))), (q8, .inr (1, [.null, .null, .null, .null, .null, .null, .null, .int 0, .int 0, .int 0]))]))))) H := hP
  have hD : va_D A ([(xa, .inr (2, [.ref q1, .ref q3, .ref q5, .ref q7, .int 0, .int 0, .null, .int 0]))] ++ (gS t q1 b2 iniS ++ (gS t q3 b4 iniS ++ (gE t q5 b6 iniE ++ ([(q7, .inl (t 1, 6, .inr (.inr (.inr (.inr (fun _ => none)))))), (q8, .inr (1, [.null, .null, .null, .null, .null, .null, .null, .int 0, .int 0, .int 0]))]))))) := hD
  refine lv_dup hx hb dX2_init_65 rfl ?_
  have hFc := va_free (wc := [(q8, .inr (1, [.null, .null, .null, .null, .null, .null, .null, .int 0, .int 0, .int 0]))]) hD hS hA [22] rfl
  refine va_callv (va_runI (As := []) (rest := [.ref q8, .int 0, .ref q7]) ⟨hx, hb, hml, hown, hts⟩ (mtX1_init l D t q8 H.size) (cwI 0 hts (gB kw26) rfl rfl rfl (htB _ kw11) (htB _ kw24) (htB _ kw25) rfl (by decide +kernel) ⟨Nat.le_of_ble_eq_true rfl, Nat.le_of_ble_eq_true rfl⟩) (sPc_S (hP.pick0 [22] rfl) hK (hD.sub [22] rfl rfl) hE) rfl rfl hl.1 rfl (lv_room (Nat.le_of_ble_eq_true rfl)) dX2_init_66 ⟨Nat.le_of_ble_eq_true rfl, Nat.le_of_ble_eq_true rfl⟩) hS (fun q9 _ h9 => hFc q9 h9) hFc (fun b9 t9 H9 locs9 ht9 hvm9 hw9 hB9 hz9 hk9 hS => ?_)
  obtain ⟨hP9, -, hD9⟩ := hB9
  rw [ht9] at hP9
  obtain ⟨hP, hD⟩ := va_join (wr := ([(xa, .inr (2, [.ref q1, .ref q3, .ref q5, .ref q7, .int 0, .int 0, .null, .int 0]))] ++ (gS t q1 b2 iniS ++ (gS t q3 b4 iniS ++ (gE t q5 b6 iniE ++ ([(q7, .inl (t 1, 6, .inr (.inr (.inr (.inr (fun _ => none))))))])))))) (w1 := gS t q8 b9 iniS) hP hD [22] [0, 1, 2, 3, 4, 5, 6, 7, 8, 9, 10, 11, 12, 13, 14, 15, 16, 17, 18, 19, 20, 21] rfl rfl rfl (by decide) hk9 hFc hP9 hD9
  generalize H9 = H at hP hS ⊢
  have hP : va_P D vwCl ([(xa, .inr (2, [.ref q1, .ref q3, .ref q5, .ref q7, .int 0, .int 0, .null, .int 0]))] ++ (gS t q1 b2 iniS ++ (gS t q3 b4 iniS ++ (gE t q5 b6 iniE ++ ([(q7, .inl (t 1, 6, .inr (.inr (.inr (.inr (fun _ => none))))))] ++ (gS t q8 b9 iniS)))))) H := hP
  have hD : va_D A ([(xa, .inr (2, [.ref q1, .ref q3, .ref q5, .ref q7, .int 0, .int 0, .null, .int 0]))] ++ (gS t q1 b2 iniS ++ (gS t q3 b4 iniS ++ (gE t q5 b6 iniE ++ ([(q7, .inl (t 1, 6, .inr (.inr (.inr (.inr (fun _ => none))))))] ++ (gS t q8 b9 iniS)))))) := hD
  refine va_astq (r := (RX1, TX1, 10)) hx hb hK hP hD hS 21 1 22 1 rfl rfl rfl rfl (pin_in (by decide)) dX2_init_69 (fun H locs hP hD hS => ?_)
  have hP : va_P D vwCl ([(xa, .inr (2, [.ref q1, .ref q3, .ref q5, .ref q7, .int 0, .int 0, .null, .int 0]))] ++ (gS t q1 b2 iniS ++ (gS t q3 b4 iniS ++ (gE t q5 b6 iniE ++ ([(q7, .inl (t 1, 6, .inr (.inr (.inr (.inr (va_up (fun _ => none) (Int32.toNatClampNeg 0) (some q8)))))))] ++ (gS t q8 b9 iniS)))))) H := hP
  have hD : va_D A ([(xa, .inr (2, [.ref q1, .ref q3, .ref q5, .ref q7, .int 0, .int 0, .null, .int 0]))] ++ (gS t q1 b2 iniS ++ (gS t q3 b4 iniS ++ (gE t q5 b6 iniE ++ ([(q7, .inl (t 1, 6, .inr (.inr (.inr (.inr (va_up (fun _ => none) (Int32.toNatClampNeg 0) (some q8)))))))] ++ (gS t q8 b9 iniS)))))) := hD
  refine lv_iinc (v := 1) (lv' := [(1, .int 1), (0, .ref xa)]) hx hb dX2_init_70 hl (k := 0) rfl (by decide) (by decide) rfl (fun ls hl => ?_)
  refine lv_goto (tgt := 48) hx hb dX2_init_73 (by decide) ?_
  refine lv_iload_n hx hb dX2_init_48 rfl (lv_at hl 0 rfl) ?_
  refine lv_aload_n hx hb dX2_init_49 rfl (lv_at hl 1 rfl) ?_
  refine va_get (D := D) (ci := 2) (v := .ref q7) (C := RX2) (T := TX2) (N := 8) hx hb htB inlX2 hown hK hP 0 rfl rfl 3 (by decide) (htB _ kw18) (fun _ h9 => h9) rfl dX2_init_50 ?_
  refine va_alen (v := 6) hx hb hK hP 21 1 rfl rfl rfl dX2_init_53 ?_
  refine lv_icmp_ge (tgt := 76) hx hb dX2_init_54 (by decide) (fun c9 => absurd c9 (by decide)) (fun _ => ?_)
  refine lv_aload_n hx hb dX2_init_57 rfl (lv_at hl 1 rfl) ?_
  refine va_get (D := D) (ci := 2) (v := .ref q7) (C := RX2) (T := TX2) (N := 8) hx hb htB inlX2 hown hK hP 0 rfl rfl 3 (by decide) (htB _ kw18) (fun _ h9 => h9) rfl dX2_init_58 ?_
  refine lv_iload_n hx hb dX2_init_61 rfl (lv_at hl 0 rfl) ?_
  refine va_new (ci := 1) (fs := [.null, .null, .null, .null, .null, .null, .null, .int 0, .int 0, .int 0]) (C := RX1) (T := TX1) (N := 10) hx hb htB inlX1 tyX1 tyX1_ok hown (htB _ kw9) (htB _ kw10) (htB _ kw11) hK hP hD hS hA rfl (by decide +kernel) (Nat.le_of_ble_eq_true rfl) (Nat.le_of_ble_eq_true rfl) dX2_init_62 (fun q10 H hP hD hS => ?_)
  have hP : va_P D vwCl ([(xa, .inr (2, [.ref q1, .ref q3, .ref q5, .ref q7, .int 0, .int 0, .null, .int 0]))] ++ (gS t q1 b2 iniS ++ (gS t q3 b4 iniS ++ (gE t q5 b6 iniE ++ ([(q7, .inl (t 1, 6, .inr (.inr (.inr (.inr (va_up (fun _ => none) (Int32.toNatClampNeg 0) (some q8)))))))] ++ (gS t q8 b9 iniS ++ ([(q10, .inr (1, [.null, .null, .null, .null, .null, .null, .null, .int 0, .int 0, .int 0]))]))))))) H := hP
  have hD : va_D A ([(xa, .inr (2, [.ref q1, .ref q3, .ref q5, .ref q7, .int 0, .int 0, .null, .int 0]))] ++ (gS t q1 b2 iniS ++ (gS t q3 b4 iniS ++ (gE t q5 b6 iniE ++ ([(q7, .inl (t 1, 6, .inr (.inr (.inr (.inr (va_up (fun _ => none) (Int32.toNatClampNeg 0) (some q8)))))))] ++ (gS t q8 b9 iniS ++ ([(q10, .inr (1, [.null, .null, .null, .null, .null, .null, .null, .int 0, .int 0, .int 0]))]))))))) := hD
  refine lv_dup hx hb dX2_init_65 rfl ?_
  have hFc := va_free (wc := [(q10, .inr (1, [.null, .null, .null, .null, .null, .null, .null, .int 0, .int 0, .int 0]))]) hD hS hA [30] rfl
  refine va_callv (va_runI (As := []) (rest := [.ref q10, .int 1, .ref q7]) ⟨hx, hb, hml, hown, hts⟩ (mtX1_init l D t q10 H.size) (cwI 0 hts (gB kw26) rfl rfl rfl (htB _ kw11) (htB _ kw24) (htB _ kw25) rfl (by decide +kernel) ⟨Nat.le_of_ble_eq_true rfl, Nat.le_of_ble_eq_true rfl⟩) (sPc_S (hP.pick0 [30] rfl) hK (hD.sub [30] rfl rfl) hE) rfl rfl hl.1 rfl (lv_room (Nat.le_of_ble_eq_true rfl)) dX2_init_66 ⟨Nat.le_of_ble_eq_true rfl, Nat.le_of_ble_eq_true rfl⟩) hS (fun q9 _ h9 => hFc q9 h9) hFc (fun b11 t9 H9 locs9 ht9 hvm9 hw9 hB9 hz9 hk9 hS => ?_)
  obtain ⟨hP9, -, hD9⟩ := hB9
  rw [ht9] at hP9
  obtain ⟨hP, hD⟩ := va_join (wr := ([(xa, .inr (2, [.ref q1, .ref q3, .ref q5, .ref q7, .int 0, .int 0, .null, .int 0]))] ++ (gS t q1 b2 iniS ++ (gS t q3 b4 iniS ++ (gE t q5 b6 iniE ++ ([(q7, .inl (t 1, 6, .inr (.inr (.inr (.inr (va_up (fun _ => none) (Int32.toNatClampNeg 0) (some q8)))))))] ++ (gS t q8 b9 iniS))))))) (w1 := gS t q10 b11 iniS) hP hD [30] [0, 1, 2, 3, 4, 5, 6, 7, 8, 9, 10, 11, 12, 13, 14, 15, 16, 17, 18, 19, 20, 21, 22, 23, 24, 25, 26, 27, 28, 29] rfl rfl rfl (by decide) hk9 hFc hP9 hD9
  generalize H9 = H at hP hS ⊢
  have hP : va_P D vwCl ([(xa, .inr (2, [.ref q1, .ref q3, .ref q5, .ref q7, .int 0, .int 0, .null, .int 0]))] ++ (gS t q1 b2 iniS ++ (gS t q3 b4 iniS ++ (gE t q5 b6 iniE ++ ([(q7, .inl (t 1, 6, .inr (.inr (.inr (.inr (va_up (fun _ => none) (Int32.toNatClampNeg 0) (some q8)))))))] ++ (gS t q8 b9 iniS ++ (gS t q10 b11 iniS))))))) H := hP
  have hD : va_D A ([(xa, .inr (2, [.ref q1, .ref q3, .ref q5, .ref q7, .int 0, .int 0, .null, .int 0]))] ++ (gS t q1 b2 iniS ++ (gS t q3 b4 iniS ++ (gE t q5 b6 iniE ++ ([(q7, .inl (t 1, 6, .inr (.inr (.inr (.inr (va_up (fun _ => none) (Int32.toNatClampNeg 0) (some q8)))))))] ++ (gS t q8 b9 iniS ++ (gS t q10 b11 iniS))))))) := hD
  refine va_astq (r := (RX1, TX1, 10)) hx hb hK hP hD hS 21 1 30 1 rfl rfl rfl rfl (pin_in (by decide)) dX2_init_69 (fun H locs hP hD hS => ?_)
  have hP : va_P D vwCl ([(xa, .inr (2, [.ref q1, .ref q3, .ref q5, .ref q7, .int 0, .int 0, .null, .int 0]))] ++ (gS t q1 b2 iniS ++ (gS t q3 b4 iniS ++ (gE t q5 b6 iniE ++ ([(q7, .inl (t 1, 6, .inr (.inr (.inr (.inr (va_up (va_up (fun _ => none) (Int32.toNatClampNeg 0) (some q8)) (Int32.toNatClampNeg 1) (some q10)))))))] ++ (gS t q8 b9 iniS ++ (gS t q10 b11 iniS))))))) H := hP
  have hD : va_D A ([(xa, .inr (2, [.ref q1, .ref q3, .ref q5, .ref q7, .int 0, .int 0, .null, .int 0]))] ++ (gS t q1 b2 iniS ++ (gS t q3 b4 iniS ++ (gE t q5 b6 iniE ++ ([(q7, .inl (t 1, 6, .inr (.inr (.inr (.inr (va_up (va_up (fun _ => none) (Int32.toNatClampNeg 0) (some q8)) (Int32.toNatClampNeg 1) (some q10)))))))] ++ (gS t q8 b9 iniS ++ (gS t q10 b11 iniS))))))) := hD
  refine lv_iinc (v := 2) (lv' := [(1, .int 2), (0, .ref xa)]) hx hb dX2_init_70 hl (k := 0) rfl (by decide) (by decide) rfl (fun ls hl => ?_)
  refine lv_goto (tgt := 48) hx hb dX2_init_73 (by decide) ?_
  refine lv_iload_n hx hb dX2_init_48 rfl (lv_at hl 0 rfl) ?_
  refine lv_aload_n hx hb dX2_init_49 rfl (lv_at hl 1 rfl) ?_
  refine va_get (D := D) (ci := 2) (v := .ref q7) (C := RX2) (T := TX2) (N := 8) hx hb htB inlX2 hown hK hP 0 rfl rfl 3 (by decide) (htB _ kw18) (fun _ h9 => h9) rfl dX2_init_50 ?_
  refine va_alen (v := 6) hx hb hK hP 21 1 rfl rfl rfl dX2_init_53 ?_
  refine lv_icmp_ge (tgt := 76) hx hb dX2_init_54 (by decide) (fun c9 => absurd c9 (by decide)) (fun _ => ?_)
  refine lv_aload_n hx hb dX2_init_57 rfl (lv_at hl 1 rfl) ?_
  refine va_get (D := D) (ci := 2) (v := .ref q7) (C := RX2) (T := TX2) (N := 8) hx hb htB inlX2 hown hK hP 0 rfl rfl 3 (by decide) (htB _ kw18) (fun _ h9 => h9) rfl dX2_init_58 ?_
  refine lv_iload_n hx hb dX2_init_61 rfl (lv_at hl 0 rfl) ?_
  refine va_new (ci := 1) (fs := [.null, .null, .null, .null, .null, .null, .null, .int 0, .int 0, .int 0]) (C := RX1) (T := TX1) (N := 10) hx hb htB inlX1 tyX1 tyX1_ok hown (htB _ kw9) (htB _ kw10) (htB _ kw11) hK hP hD hS hA rfl (by decide +kernel) (Nat.le_of_ble_eq_true rfl) (Nat.le_of_ble_eq_true rfl) dX2_init_62 (fun q12 H hP hD hS => ?_)
  have hP : va_P D vwCl ([(xa, .inr (2, [.ref q1, .ref q3, .ref q5, .ref q7, .int 0, .int 0, .null, .int 0]))] ++ (gS t q1 b2 iniS ++ (gS t q3 b4 iniS ++ (gE t q5 b6 iniE ++ ([(q7, .inl (t 1, 6, .inr (.inr (.inr (.inr (va_up (va_up (fun _ => none) (Int32.toNatClampNeg 0) (some q8)) (Int32.toNatClampNeg 1) (some q10)))))))] ++ (gS t q8 b9 iniS ++ (gS t q10 b11 iniS ++ ([(q12, .inr (1, [.null, .null, .null, .null, .null, .null, .null, .int 0, .int 0, .int 0]))])))))))) H := hP
  have hD : va_D A ([(xa, .inr (2, [.ref q1, .ref q3, .ref q5, .ref q7, .int 0, .int 0, .null, .int 0]))] ++ (gS t q1 b2 iniS ++ (gS t q3 b4 iniS ++ (gE t q5 b6 iniE ++ ([(q7, .inl (t 1, 6, .inr (.inr (.inr (.inr (va_up (va_up (fun _ => none) (Int32.toNatClampNeg 0) (some q8)) (Int32.toNatClampNeg 1) (some q10)))))))] ++ (gS t q8 b9 iniS ++ (gS t q10 b11 iniS ++ ([(q12, .inr (1, [.null, .null, .null, .null, .null, .null, .null, .int 0, .int 0, .int 0]))])))))))) := hD
  refine lv_dup hx hb dX2_init_65 rfl ?_
  have hFc := va_free (wc := [(q12, .inr (1, [.null, .null, .null, .null, .null, .null, .null, .int 0, .int 0, .int 0]))]) hD hS hA [38] rfl
  refine va_callv (va_runI (As := []) (rest := [.ref q12, .int 2, .ref q7]) ⟨hx, hb, hml, hown, hts⟩ (mtX1_init l D t q12 H.size) (cwI 0 hts (gB kw26) rfl rfl rfl (htB _ kw11) (htB _ kw24) (htB _ kw25) rfl (by decide +kernel) ⟨Nat.le_of_ble_eq_true rfl, Nat.le_of_ble_eq_true rfl⟩) (sPc_S (hP.pick0 [38] rfl) hK (hD.sub [38] rfl rfl) hE) rfl rfl hl.1 rfl (lv_room (Nat.le_of_ble_eq_true rfl)) dX2_init_66 ⟨Nat.le_of_ble_eq_true rfl, Nat.le_of_ble_eq_true rfl⟩) hS (fun q9 _ h9 => hFc q9 h9) hFc (fun b13 t9 H9 locs9 ht9 hvm9 hw9 hB9 hz9 hk9 hS => ?_)
  obtain ⟨hP9, -, hD9⟩ := hB9
  rw [ht9] at hP9
  obtain ⟨hP, hD⟩ := va_join (wr := ([(xa, .inr (2, [.ref q1, .ref q3, .ref q5, .ref q7, .int 0, .int 0, .null, .int 0]))] ++ (gS t q1 b2 iniS ++ (gS t q3 b4 iniS ++ (gE t q5 b6 iniE ++ ([(q7, .inl (t 1, 6, .inr (.inr (.inr (.inr (va_up (va_up (fun _ => none) (Int32.toNatClampNeg 0) (some q8)) (Int32.toNatClampNeg 1) (some q10)))))))] ++ (gS t q8 b9 iniS ++ (gS t q10 b11 iniS)))))))) (w1 := gS t q12 b13 iniS) hP hD [38] [0, 1, 2, 3, 4, 5, 6, 7, 8, 9, 10, 11, 12, 13, 14, 15, 16, 17, 18, 19, 20, 21, 22, 23, 24, 25, 26, 27, 28, 29, 30, 31, 32, 33, 34, 35, 36, 37] rfl rfl rfl (by decide) hk9 hFc hP9 hD9
  generalize H9 = H at hP hS ⊢
  have hP : va_P D vwCl ([(xa, .inr (2, [.ref q1, .ref q3, .ref q5, .ref q7, .int 0, .int 0, .null, .int 0]))] ++ (gS t q1 b2 iniS ++ (gS t q3 b4 iniS ++ (gE t q5 b6 iniE ++ ([(q7, .inl (t 1, 6, .inr (.inr (.inr (.inr (va_up (va_up (fun _ => none) (Int32.toNatClampNeg 0) (some q8)) (Int32.toNatClampNeg 1) (some q10)))))))] ++ (gS t q8 b9 iniS ++ (gS t q10 b11 iniS ++ (gS t q12 b13 iniS)))))))) H := hP
  have hD : va_D A ([(xa, .inr (2, [.ref q1, .ref q3, .ref q5, .ref q7, .int 0, .int 0, .null, .int 0]))] ++ (gS t q1 b2 iniS ++ (gS t q3 b4 iniS ++ (gE t q5 b6 iniE ++ ([(q7, .inl (t 1, 6, .inr (.inr (.inr (.inr (va_up (va_up (fun _ => none) (Int32.toNatClampNeg 0) (some q8)) (Int32.toNatClampNeg 1) (some q10)))))))] ++ (gS t q8 b9 iniS ++ (gS t q10 b11 iniS ++ (gS t q12 b13 iniS)))))))) := hD
  refine va_astq (r := (RX1, TX1, 10)) hx hb hK hP hD hS 21 1 38 1 rfl rfl rfl rfl (pin_in (by decide)) dX2_init_69 (fun H locs hP hD hS => ?_)
  have hP : va_P D vwCl ([(xa, .inr (2, [.ref q1, .ref q3, .ref q5, .ref q7, .int 0, .int 0, .null, .int 0]))] ++ (gS t q1 b2 iniS ++ (gS t q3 b4 iniS ++ (gE t q5 b6 iniE ++ ([(q7, .inl (t 1, 6, .inr (.inr (.inr (.inr (va_up (va_up (va_up (fun _ => none) (Int32.toNatClampNeg 0) (some q8)) (Int32.toNatClampNeg 1) (some q10)) (Int32.toNatClampNeg 2) (some q12)))))))] ++ (gS t q8 b9 iniS ++ (gS t q10 b11 iniS ++ (gS t q12 b13 iniS)))))))) H := hP
  have hD : va_D A ([(xa, .inr (2, [.ref q1, .ref q3, .ref q5, .ref q7, .int 0, .int 0, .null, .int 0]))] ++ (gS t q1 b2 iniS ++ (gS t q3 b4 iniS ++ (gE t q5 b6 iniE ++ ([(q7, .inl (t 1, 6, .inr (.inr (.inr (.inr (va_up (va_up (va_up (fun _ => none) (Int32.toNatClampNeg 0) (some q8)) (Int32.toNatClampNeg 1) (some q10)) (Int32.toNatClampNeg 2) (some q12)))))))] ++ (gS t q8 b9 iniS ++ (gS t q10 b11 iniS ++ (gS t q12 b13 iniS)))))))) := hD
  refine lv_iinc (v := 3) (lv' := [(1, .int 3), (0, .ref xa)]) hx hb dX2_init_70 hl (k := 0) rfl (by decide) (by decide) rfl (fun ls hl => ?_)
  refine lv_goto (tgt := 48) hx hb dX2_init_73 (by decide) ?_
  refine lv_iload_n hx hb dX2_init_48 rfl (lv_at hl 0 rfl) ?_
  refine lv_aload_n hx hb dX2_init_49 rfl (lv_at hl 1 rfl) ?_
  refine va_get (D := D) (ci := 2) (v := .ref q7) (C := RX2) (T := TX2) (N := 8) hx hb htB inlX2 hown hK hP 0 rfl rfl 3 (by decide) (htB _ kw18) (fun _ h9 => h9) rfl dX2_init_50 ?_
  refine va_alen (v := 6) hx hb hK hP 21 1 rfl rfl rfl dX2_init_53 ?_
  refine lv_icmp_ge (tgt := 76) hx hb dX2_init_54 (by decide) (fun c9 => absurd c9 (by decide)) (fun _ => ?_)
  refine lv_aload_n hx hb dX2_init_57 rfl (lv_at hl 1 rfl) ?_
  refine va_get (D := D) (ci := 2) (v := .ref q7) (C := RX2) (T := TX2) (N := 8) hx hb htB inlX2 hown hK hP 0 rfl rfl 3 (by decide) (htB _ kw18) (fun _ h9 => h9) rfl dX2_init_58 ?_
  refine lv_iload_n hx hb dX2_init_61 rfl (lv_at hl 0 rfl) ?_
  refine va_new (ci := 1) (fs := [.null, .null, .null, .null, .null, .null, .null, .int 0, .int 0, .int 0]) (C := RX1) (T := TX1) (N := 10) hx hb htB inlX1 tyX1 tyX1_ok hown (htB _ kw9) (htB _ kw10) (htB _ kw11) hK hP hD hS hA rfl (by decide +kernel) (Nat.le_of_ble_eq_true rfl) (Nat.le_of_ble_eq_true rfl) dX2_init_62 (fun q14 H hP hD hS => ?_)
  have hP : va_P D vwCl ([(xa, .inr (2, [.ref q1, .ref q3, .ref q5, .ref q7, .int 0, .int 0, .null, .int 0]))] ++ (gS t q1 b2 iniS ++ (gS t q3 b4 iniS ++ (gE t q5 b6 iniE ++ ([(q7, .inl (t 1, 6, .inr (.inr (.inr (.inr (va_up (va_up (va_up (fun _ => none) (Int32.toNatClampNeg 0) (some q8)) (Int32.toNatClampNeg 1) (some q10)) (Int32.toNatClampNeg 2) (some q12)))))))] ++ (gS t q8 b9 iniS ++ (gS t q10 b11 iniS ++ (gS t q12 b13 iniS ++ ([(q14, .inr (1, [.null, .null, .null, .null, .null, .null, .null, .int 0, .int 0, .int 0]))]))))))))) H := hP
  have hD : va_D A ([(xa, .inr (2, [.ref q1, .ref q3, .ref q5, .ref q7, .int 0, .int 0, .null, .int 0]))] ++ (gS t q1 b2 iniS ++ (gS t q3 b4 iniS ++ (gE t q5 b6 iniE ++ ([(q7, .inl (t 1, 6, .inr (.inr (.inr (.inr (va_up (va_up (va_up (fun _ => none) (Int32.toNatClampNeg 0) (some q8)) (Int32.toNatClampNeg 1) (some q10)) (Int32.toNatClampNeg 2) (some q12)))))))] ++ (gS t q8 b9 iniS ++ (gS t q10 b11 iniS ++ (gS t q12 b13 iniS ++ ([(q14, .inr (1, [.null, .null, .null, .null, .null, .null, .null, .int 0, .int 0, .int 0]))]))))))))) := hD
  refine lv_dup hx hb dX2_init_65 rfl ?_
  have hFc := va_free (wc := [(q14, .inr (1, [.null, .null, .null, .null, .null, .null, .null, .int 0, .int 0, .int 0]))]) hD hS hA [46] rfl
  refine va_callv (va_runI (As := []) (rest := [.ref q14, .int 3, .ref q7]) ⟨hx, hb, hml, hown, hts⟩ (mtX1_init l D t q14 H.size) (cwI 0 hts (gB kw26) rfl rfl rfl (htB _ kw11) (htB _ kw24) (htB _ kw25) rfl (by decide +kernel) ⟨Nat.le_of_ble_eq_true rfl, Nat.le_of_ble_eq_true rfl⟩) (sPc_S (hP.pick0 [46] rfl) hK (hD.sub [46] rfl rfl) hE) rfl rfl hl.1 rfl (lv_room (Nat.le_of_ble_eq_true rfl)) dX2_init_66 ⟨Nat.le_of_ble_eq_true rfl, Nat.le_of_ble_eq_true rfl⟩) hS (fun q9 _ h9 => hFc q9 h9) hFc (fun b15 t9 H9 locs9 ht9 hvm9 hw9 hB9 hz9 hk9 hS => ?_)
  obtain ⟨hP9, -, hD9⟩ := hB9
  rw [ht9] at hP9
  obtain ⟨hP, hD⟩ := va_join (wr := ([(xa, .inr (2, [.ref q1, .ref q3, .ref q5, .ref q7, .int 0, .int 0, .null, .int 0]))] ++ (gS t q1 b2 iniS ++ (gS t q3 b4 iniS ++ (gE t q5 b6 iniE ++ ([(q7, .inl (t 1, 6, .inr (.inr (.inr (.inr (va_up (va_up (va_up (fun _ => none) (Int32.toNatClampNeg 0) (some q8)) (Int32.toNatClampNeg 1) (some q10)) (Int32.toNatClampNeg 2) (some q12)))))))] ++ (gS t q8 b9 iniS ++ (gS t q10 b11 iniS ++ (gS t q12 b13 iniS))))))))) (w1 := gS t q14 b15 iniS) hP hD [46] [0, 1, 2, 3, 4, 5, 6, 7, 8, 9, 10, 11, 12, 13, 14, 15, 16, 17, 18, 19, 20, 21, 22, 23, 24, 25, 26, 27, 28, 29, 30, 31, 32, 33, 34, 35, 36, 37, 38, 39, 40, 41, 42, 43, 44, 45] rfl rfl rfl (by decide) hk9 hFc hP9 hD9
  generalize H9 = H at hP hS ⊢
  have hP : va_P D vwCl ([(xa, .inr (2, [.ref q1, .ref q3, .ref q5, .ref q7, .int 0, .int 0, .null, .int 0]))] ++ (gS t q1 b2 iniS ++ (gS t q3 b4 iniS ++ (gE t q5 b6 iniE ++ ([(q7, .inl (t 1, 6, .inr (.inr (.inr (.inr (va_up (va_up (va_up (fun _ => none) (Int32.toNatClampNeg 0) (some q8)) (Int32.toNatClampNeg 1) (some q10)) (Int32.toNatClampNeg 2) (some q12)))))))] ++ (gS t q8 b9 iniS ++ (gS t q10 b11 iniS ++ (gS t q12 b13 iniS ++ (gS t q14 b15 iniS))))))))) H := hP
  have hD : va_D A ([(xa, .inr (2, [.ref q1, .ref q3, .ref q5, .ref q7, .int 0, .int 0, .null, .int 0]))] ++ (gS t q1 b2 iniS ++ (gS t q3 b4 iniS ++ (gE t q5 b6 iniE ++ ([(q7, .inl (t 1, 6, .inr (.inr (.inr (.inr (va_up (va_up (va_up (fun _ => none) (Int32.toNatClampNeg 0) (some q8)) (Int32.toNatClampNeg 1) (some q10)) (Int32.toNatClampNeg 2) (some q12)))))))] ++ (gS t q8 b9 iniS ++ (gS t q10 b11 iniS ++ (gS t q12 b13 iniS ++ (gS t q14 b15 iniS))))))))) := hD
  refine va_astq (r := (RX1, TX1, 10)) hx hb hK hP hD hS 21 1 46 1 rfl rfl rfl rfl (pin_in (by decide)) dX2_init_69 (fun H locs hP hD hS => ?_)
  have hP : va_P D vwCl ([(xa, .inr (2, [.ref q1, .ref q3, .ref q5, .ref q7, .int 0, .int 0, .null, .int 0]))] ++ (gS t q1 b2 iniS ++ (gS t q3 b4 iniS ++ (gE t q5 b6 iniE ++ ([(q7, .inl (t 1, 6, .inr (.inr (.inr (.inr (va_up (va_up (va_up (va_up (fun _ => none) (Int32.toNatClampNeg 0) (some q8)) (Int32.toNatClampNeg 1) (some q10)) (Int32.toNatClampNeg 2) (some q12)) (Int32.toNatClampNeg 3) (some q14)))))))] ++ (gS t q8 b9 iniS ++ (gS t q10 b11 iniS ++ (gS t q12 b13 iniS ++ (gS t q14 b15 iniS))))))))) H := hP
  have hD : va_D A ([(xa, .inr (2, [.ref q1, .ref q3, .ref q5, .ref q7, .int 0, .int 0, .null, .int 0]))] ++ (gS t q1 b2 iniS ++ (gS t q3 b4 iniS ++ (gE t q5 b6 iniE ++ ([(q7, .inl (t 1, 6, .inr (.inr (.inr (.inr (va_up (va_up (va_up (va_up (fun _ => none) (Int32.toNatClampNeg 0) (some q8)) (Int32.toNatClampNeg 1) (some q10)) (Int32.toNatClampNeg 2) (some q12)) (Int32.toNatClampNeg 3) (some q14)))))))] ++ (gS t q8 b9 iniS ++ (gS t q10 b11 iniS ++ (gS t q12 b13 iniS ++ (gS t q14 b15 iniS))))))))) := hD
  refine lv_iinc (v := 4) (lv' := [(1, .int 4), (0, .ref xa)]) hx hb dX2_init_70 hl (k := 0) rfl (by decide) (by decide) rfl (fun ls hl => ?_)
  refine lv_goto (tgt := 48) hx hb dX2_init_73 (by decide) ?_
  refine lv_iload_n hx hb dX2_init_48 rfl (lv_at hl 0 rfl) ?_
  refine lv_aload_n hx hb dX2_init_49 rfl (lv_at hl 1 rfl) ?_
  refine va_get (D := D) (ci := 2) (v := .ref q7) (C := RX2) (T := TX2) (N := 8) hx hb htB inlX2 hown hK hP 0 rfl rfl 3 (by decide) (htB _ kw18) (fun _ h9 => h9) rfl dX2_init_50 ?_
  refine va_alen (v := 6) hx hb hK hP 21 1 rfl rfl rfl dX2_init_53 ?_
  refine lv_icmp_ge (tgt := 76) hx hb dX2_init_54 (by decide) (fun c9 => absurd c9 (by decide)) (fun _ => ?_)
  refine lv_aload_n hx hb dX2_init_57 rfl (lv_at hl 1 rfl) ?_
  refine va_get (D := D) (ci := 2) (v := .ref q7) (C := RX2) (T := TX2) (N := 8) hx hb htB inlX2 hown hK hP 0 rfl rfl 3 (by decide) (htB _ kw18) (fun _ h9 => h9) rfl dX2_init_58 ?_
  refine lv_iload_n hx hb dX2_init_61 rfl (lv_at hl 0 rfl) ?_
  refine va_new (ci := 1) (fs := [.null, .null, .null, .null, .null, .null, .null, .int 0, .int 0, .int 0]) (C := RX1) (T := TX1) (N := 10) hx hb htB inlX1 tyX1 tyX1_ok hown (htB _ kw9) (htB _ kw10) (htB _ kw11) hK hP hD hS hA rfl (by decide +kernel) (Nat.le_of_ble_eq_true rfl) (Nat.le_of_ble_eq_true rfl) dX2_init_62 (fun q16 H hP hD hS => ?_)
  have hP : va_P D vwCl ([(xa, .inr (2, [.ref q1, .ref q3, .ref q5, .ref q7, .int 0, .int 0, .null, .int 0]))] ++ (gS t q1 b2 iniS ++ (gS t q3 b4 iniS ++ (gE t q5 b6 iniE ++ ([(q7, .inl (t 1, 6, .inr (.inr (.inr (.inr (va_up (va_up (va_up (va_up (fun _ => none) (Int32.toNatClampNeg 0) (some q8)) (Int32.toNatClampNeg 1) (some q10)) (Int32.toNatClampNeg 2) (some q12)) (Int32.toNatClampNeg 3) (some q14)))))))] ++ (gS t q8 b9 iniS ++ (gS t q10 b11 iniS ++ (gS t q12 b13 iniS ++ (gS t q14 b15 iniS ++ ([(q16, .inr (1, [.null, .null, .null, .null, .null, .null, .null, .int 0, .int 0, .int 0]))])))))))))) H := hP
  have hD : va_D A ([(xa, .inr (2, [.ref q1, .ref q3, .ref q5, .ref q7, .int 0, .int 0, .null, .int 0]))] ++ (gS t q1 b2 iniS ++ (gS t q3 b4 iniS ++ (gE t q5 b6 iniE ++ ([(q7, .inl (t 1, 6, .inr (.inr (.inr (.inr (va_up (va_up (va_up (va_up (fun _ => none) (Int32.toNatClampNeg 0) (some q8)) (Int32.toNatClampNeg 1) (some q10)) (Int32.toNatClampNeg 2) (some q12)) (Int32.toNatClampNeg 3) (some q14)))))))] ++ (gS t q8 b9 iniS ++ (gS t q10 b11 iniS ++ (gS t q12 b13 iniS ++ (gS t q14 b15 iniS ++ ([(q16, .inr (1, [.null, .null, .null, .null, .null, .null, .null, .int 0, .int 0, .int 0]))])))))))))) := hD
  refine lv_dup hx hb dX2_init_65 rfl ?_
  have hFc := va_free (wc := [(q16, .inr (1, [.null, .null, .null, .null, .null, .null, .null, .int 0, .int 0, .int 0]))]) hD hS hA [54] rfl
  refine va_callv (va_runI (As := []) (rest := [.ref q16, .int 4, .ref q7]) ⟨hx, hb, hml, hown, hts⟩ (mtX1_init l D t q16 H.size) (cwI 0 hts (gB kw26) rfl rfl rfl (htB _ kw11) (htB _ kw24) (htB _ kw25) rfl (by decide +kernel) ⟨Nat.le_of_ble_eq_true rfl, Nat.le_of_ble_eq_true rfl⟩) (sPc_S (hP.pick0 [54] rfl) hK (hD.sub [54] rfl rfl) hE) rfl rfl hl.1 rfl (lv_room (Nat.le_of_ble_eq_true rfl)) dX2_init_66 ⟨Nat.le_of_ble_eq_true rfl, Nat.le_of_ble_eq_true rfl⟩) hS (fun q9 _ h9 => hFc q9 h9) hFc (fun b17 t9 H9 locs9 ht9 hvm9 hw9 hB9 hz9 hk9 hS => ?_)
  obtain ⟨hP9, -, hD9⟩ := hB9
  rw [ht9] at hP9
  obtain ⟨hP, hD⟩ := va_join (wr := ([(xa, .inr (2, [.ref q1, .ref q3, .ref q5, .ref q7, .int 0, .int 0, .null, .int 0]))] ++ (gS t q1 b2 iniS ++ (gS t q3 b4 iniS ++ (gE t q5 b6 iniE ++ ([(q7, .inl (t 1, 6, .inr (.inr (.inr (.inr (va_up (va_up (va_up (va_up (fun _ => none) (Int32.toNatClampNeg 0) (some q8)) (Int32.toNatClampNeg 1) (some q10)) (Int32.toNatClampNeg 2) (some q12)) (Int32.toNatClampNeg 3) (some q14)))))))] ++ (gS t q8 b9 iniS ++ (gS t q10 b11 iniS ++ (gS t q12 b13 iniS ++ (gS t q14 b15 iniS)))))))))) (w1 := gS t q16 b17 iniS) hP hD [54] [0, 1, 2, 3, 4, 5, 6, 7, 8, 9, 10, 11, 12, 13, 14, 15, 16, 17, 18, 19, 20, 21, 22, 23, 24, 25, 26, 27, 28, 29, 30, 31, 32, 33, 34, 35, 36, 37, 38, 39, 40, 41, 42, 43, 44, 45, 46, 47, 48, 49, 50, 51, 52, 53] rfl rfl rfl (by decide) hk9 hFc hP9 hD9
  generalize H9 = H at hP hS ⊢
  have hP : va_P D vwCl ([(xa, .inr (2, [.ref q1, .ref q3, .ref q5, .ref q7, .int 0, .int 0, .null, .int 0]))] ++ (gS t q1 b2 iniS ++ (gS t q3 b4 iniS ++ (gE t q5 b6 iniE ++ ([(q7, .inl (t 1, 6, .inr (.inr (.inr (.inr (va_up (va_up (va_up (va_up (fun _ => none) (Int32.toNatClampNeg 0) (some q8)) (Int32.toNatClampNeg 1) (some q10)) (Int32.toNatClampNeg 2) (some q12)) (Int32.toNatClampNeg 3) (some q14)))))))] ++ (gS t q8 b9 iniS ++ (gS t q10 b11 iniS ++ (gS t q12 b13 iniS ++ (gS t q14 b15 iniS ++ (gS t q16 b17 iniS)))))))))) H := hP
  have hD : va_D A ([(xa, .inr (2, [.ref q1, .ref q3, .ref q5, .ref q7, .int 0, .int 0, .null, .int 0]))] ++ (gS t q1 b2 iniS ++ (gS t q3 b4 iniS ++ (gE t q5 b6 iniE ++ ([(q7, .inl (t 1, 6, .inr (.inr (.inr (.inr (va_up (va_up (va_up (va_up (fun _ => none) (Int32.toNatClampNeg 0) (some q8)) (Int32.toNatClampNeg 1) (some q10)) (Int32.toNatClampNeg 2) (some q12)) (Int32.toNatClampNeg 3) (some q14)))))))] ++ (gS t q8 b9 iniS ++ (gS t q10 b11 iniS ++ (gS t q12 b13 iniS ++ (gS t q14 b15 iniS ++ (gS t q16 b17 iniS)))))))))) := hD
  refine va_astq (r := (RX1, TX1, 10)) hx hb hK hP hD hS 21 1 54 1 rfl rfl rfl rfl (pin_in (by decide)) dX2_init_69 (fun H locs hP hD hS => ?_)
  have hP : va_P D vwCl ([(xa, .inr (2, [.ref q1, .ref q3, .ref q5, .ref q7, .int 0, .int 0, .null, .int 0]))] ++ (gS t q1 b2 iniS ++ (gS t q3 b4 iniS ++ (gE t q5 b6 iniE ++ ([(q7, .inl (t 1, 6, .inr (.inr (.inr (.inr (va_up (va_up (va_up (va_up (va_up (fun _ => none) (Int32.toNatClampNeg 0) (some q8)) (Int32.toNatClampNeg 1) (some q10)) (Int32.toNatClampNeg 2) (some q12)) (Int32.toNatClampNeg 3) (some q14)) (Int32.toNatClampNeg 4) (some q16)))))))] ++ (gS t q8 b9 iniS ++ (gS t q10 b11 iniS ++ (gS t q12 b13 iniS ++ (gS t q14 b15 iniS ++ (gS t q16 b17 iniS)))))))))) H := hP
  have hD : va_D A ([(xa, .inr (2, [.ref q1, .ref q3, .ref q5, .ref q7, .int 0, .int 0, .null, .int 0]))] ++ (gS t q1 b2 iniS ++ (gS t q3 b4 iniS ++ (gE t q5 b6 iniE ++ ([(q7, .inl (t 1, 6, .inr (.inr (.inr (.inr (va_up (va_up (va_up (va_up (va_up (fun _ => none) (Int32.toNatClampNeg 0) (some q8)) (Int32.toNatClampNeg 1) (some q10)) (Int32.toNatClampNeg 2) (some q12)) (Int32.toNatClampNeg 3) (some q14)) (Int32.toNatClampNeg 4) (some q16)))))))] ++ (gS t q8 b9 iniS ++ (gS t q10 b11 iniS ++ (gS t q12 b13 iniS ++ (gS t q14 b15 iniS ++ (gS t q16 b17 iniS)))))))))) := hD
  refine lv_iinc (v := 5) (lv' := [(1, .int 5), (0, .ref xa)]) hx hb dX2_init_70 hl (k := 0) rfl (by decide) (by decide) rfl (fun ls hl => ?_)
  refine lv_goto (tgt := 48) hx hb dX2_init_73 (by decide) ?_
  refine lv_iload_n hx hb dX2_init_48 rfl (lv_at hl 0 rfl) ?_
  refine lv_aload_n hx hb dX2_init_49 rfl (lv_at hl 1 rfl) ?_
  refine va_get (D := D) (ci := 2) (v := .ref q7) (C := RX2) (T := TX2) (N := 8) hx hb htB inlX2 hown hK hP 0 rfl rfl 3 (by decide) (htB _ kw18) (fun _ h9 => h9) rfl dX2_init_50 ?_
  refine va_alen (v := 6) hx hb hK hP 21 1 rfl rfl rfl dX2_init_53 ?_
  refine lv_icmp_ge (tgt := 76) hx hb dX2_init_54 (by decide) (fun c9 => absurd c9 (by decide)) (fun _ => ?_)
  refine lv_aload_n hx hb dX2_init_57 rfl (lv_at hl 1 rfl) ?_
  refine va_get (D := D) (ci := 2) (v := .ref q7) (C := RX2) (T := TX2) (N := 8) hx hb htB inlX2 hown hK hP 0 rfl rfl 3 (by decide) (htB _ kw18) (fun _ h9 => h9) rfl dX2_init_58 ?_
  refine lv_iload_n hx hb dX2_init_61 rfl (lv_at hl 0 rfl) ?_
  refine va_new (ci := 1) (fs := [.null, .null, .null, .null, .null, .null, .null, .int 0, .int 0, .int 0]) (C := RX1) (T := TX1) (N := 10) hx hb htB inlX1 tyX1 tyX1_ok hown (htB _ kw9) (htB _ kw10) (htB _ kw11) hK hP hD hS hA rfl (by decide +kernel) (Nat.le_of_ble_eq_true rfl) (Nat.le_of_ble_eq_true rfl) dX2_init_62 (fun q18 H hP hD hS => ?_)
  have hP : va_P D vwCl ([(xa, .inr (2, [.ref q1, .ref q3, .ref q5, .ref q7, .int 0, .int 0, .null, .int 0]))] ++ (gS t q1 b2 iniS ++ (gS t q3 b4 iniS ++ (gE t q5 b6 iniE ++ ([(q7, .inl (t 1, 6, .inr (.inr (.inr (.inr (va_up (va_up (va_up (va_up (va_up (fun _ => none) (Int32.toNatClampNeg 0) (some q8)) (Int32.toNatClampNeg 1) (some q10)) (Int32.toNatClampNeg 2) (some q12)) (Int32.toNatClampNeg 3) (some q14)) (Int32.toNatClampNeg 4) (some q16)))))))] ++ (gS t q8 b9 iniS ++ (gS t q10 b11 iniS ++ (gS t q12 b13 iniS ++ (gS t q14 b15 iniS ++ (gS t q16 b17 iniS ++ ([(q18, .inr (1, [.null, .null, .null, .null, .null, .null, .null, .int 0, .int 0, .int 0]))]))))))))))) H := hP
  have hD : va_D A ([(xa, .inr (2, [.ref q1, .ref q3, .ref q5, .ref q7, .int 0, .int 0, .null, .int 0]))] ++ (gS t q1 b2 iniS ++ (gS t q3 b4 iniS ++ (gE t q5 b6 iniE ++ ([(q7, .inl (t 1, 6, .inr (.inr (.inr (.inr (va_up (va_up (va_up (va_up (va_up (fun _ => none) (Int32.toNatClampNeg 0) (some q8)) (Int32.toNatClampNeg 1) (some q10)) (Int32.toNatClampNeg 2) (some q12)) (Int32.toNatClampNeg 3) (some q14)) (Int32.toNatClampNeg 4) (some q16)))))))] ++ (gS t q8 b9 iniS ++ (gS t q10 b11 iniS ++ (gS t q12 b13 iniS ++ (gS t q14 b15 iniS ++ (gS t q16 b17 iniS ++ ([(q18, .inr (1, [.null, .null, .null, .null, .null, .null, .null, .int 0, .int 0, .int 0]))]))))))))))) := hD
  refine lv_dup hx hb dX2_init_65 rfl ?_
  have hFc := va_free (wc := [(q18, .inr (1, [.null, .null, .null, .null, .null, .null, .null, .int 0, .int 0, .int 0]))]) hD hS hA [62] rfl
  refine va_callv (va_runI (As := []) (rest := [.ref q18, .int 5, .ref q7]) ⟨hx, hb, hml, hown, hts⟩ (mtX1_init l D t q18 H.size) (cwI 0 hts (gB kw26) rfl rfl rfl (htB _ kw11) (htB _ kw24) (htB _ kw25) rfl (by decide +kernel) ⟨Nat.le_of_ble_eq_true rfl, Nat.le_of_ble_eq_true rfl⟩) (sPc_S (hP.pick0 [62] rfl) hK (hD.sub [62] rfl rfl) hE) rfl rfl hl.1 rfl (lv_room (Nat.le_of_ble_eq_true rfl)) dX2_init_66 ⟨Nat.le_of_ble_eq_true rfl, Nat.le_of_ble_eq_true rfl⟩) hS (fun q9 _ h9 => hFc q9 h9) hFc (fun b19 t9 H9 locs9 ht9 hvm9 hw9 hB9 hz9 hk9 hS => ?_)
  obtain ⟨hP9, -, hD9⟩ := hB9
  rw [ht9] at hP9
  obtain ⟨hP, hD⟩ := va_join (wr := ([(xa, .inr (2, [.ref q1, .ref q3, .ref q5, .ref q7, .int 0, .int 0, .null, .int 0]))] ++ (gS t q1 b2 iniS ++ (gS t q3 b4 iniS ++ (gE t q5 b6 iniE ++ ([(q7, .inl (t 1, 6, .inr (.inr (.inr (.inr (va_up (va_up (va_up (va_up (va_up (fun _ => none) (Int32.toNatClampNeg 0) (some q8)) (Int32.toNatClampNeg 1) (some q10)) (Int32.toNatClampNeg 2) (some q12)) (Int32.toNatClampNeg 3) (some q14)) (Int32.toNatClampNeg 4) (some q16)))))))] ++ (gS t q8 b9 iniS ++ (gS t q10 b11 iniS ++ (gS t q12 b13 iniS ++ (gS t q14 b15 iniS ++ (gS t q16 b17 iniS))))))))))) (w1 := gS t q18 b19 iniS) hP hD [62] [0, 1, 2, 3, 4, 5, 6, 7, 8, 9, 10, 11, 12, 13, 14, 15, 16, 17, 18, 19, 20, 21, 22, 23, 24, 25, 26, 27, 28, 29, 30, 31, 32, 33, 34, 35, 36, 37, 38, 39, 40, 41, 42, 43, 44, 45, 46, 47, 48, 49, 50, 51, 52, 53, 54, 55, 56, 57, 58, 59, 60, 61] rfl rfl rfl (by decide) hk9 hFc hP9 hD9
  generalize H9 = H at hP hS ⊢
  have hP : va_P D vwCl ([(xa, .inr (2, [.ref q1, .ref q3, .ref q5, .ref q7, .int 0, .int 0, .null, .int 0]))] ++ (gS t q1 b2 iniS ++ (gS t q3 b4 iniS ++ (gE t q5 b6 iniE ++ ([(q7, .inl (t 1, 6, .inr (.inr (.inr (.inr (va_up (va_up (va_up (va_up (va_up (fun _ => none) (Int32.toNatClampNeg 0) (some q8)) (Int32.toNatClampNeg 1) (some q10)) (Int32.toNatClampNeg 2) (some q12)) (Int32.toNatClampNeg 3) (some q14)) (Int32.toNatClampNeg 4) (some q16)))))))] ++ (gS t q8 b9 iniS ++ (gS t q10 b11 iniS ++ (gS t q12 b13 iniS ++ (gS t q14 b15 iniS ++ (gS t q16 b17 iniS ++ (gS t q18 b19 iniS))))))))))) H := hP
  have hD : va_D A ([(xa, .inr (2, [.ref q1, .ref q3, .ref q5, .ref q7, .int 0, .int 0, .null, .int 0]))] ++ (gS t q1 b2 iniS ++ (gS t q3 b4 iniS ++ (gE t q5 b6 iniE ++ ([(q7, .inl (t 1, 6, .inr (.inr (.inr (.inr (va_up (va_up (va_up (va_up (va_up (fun _ => none) (Int32.toNatClampNeg 0) (some q8)) (Int32.toNatClampNeg 1) (some q10)) (Int32.toNatClampNeg 2) (some q12)) (Int32.toNatClampNeg 3) (some q14)) (Int32.toNatClampNeg 4) (some q16)))))))] ++ (gS t q8 b9 iniS ++ (gS t q10 b11 iniS ++ (gS t q12 b13 iniS ++ (gS t q14 b15 iniS ++ (gS t q16 b17 iniS ++ (gS t q18 b19 iniS))))))))))) := hD
  refine va_astq (r := (RX1, TX1, 10)) hx hb hK hP hD hS 21 1 62 1 rfl rfl rfl rfl (pin_in (by decide)) dX2_init_69 (fun H locs hP hD hS => ?_)
  have hP : va_P D vwCl ([(xa, .inr (2, [.ref q1, .ref q3, .ref q5, .ref q7, .int 0, .int 0, .null, .int 0]))] ++ (gS t q1 b2 iniS ++ (gS t q3 b4 iniS ++ (gE t q5 b6 iniE ++ ([(q7, .inl (t 1, 6, .inr (.inr (.inr (.inr (va_up (va_up (va_up (va_up (va_up (va_up (fun _ => none) (Int32.toNatClampNeg 0) (some q8)) (Int32.toNatClampNeg 1) (some q10)) (Int32.toNatClampNeg 2) (some q12)) (Int32.toNatClampNeg 3) (some q14)) (Int32.toNatClampNeg 4) (some q16)) (Int32.toNatClampNeg 5) (some q18)))))))] ++ (gS t q8 b9 iniS ++ (gS t q10 b11 iniS ++ (gS t q12 b13 iniS ++ (gS t q14 b15 iniS ++ (gS t q16 b17 iniS ++ (gS t q18 b19 iniS))))))))))) H := hP
  have hD : va_D A ([(xa, .inr (2, [.ref q1, .ref q3, .ref q5, .ref q7, .int 0, .int 0, .null, .int 0]))] ++ (gS t q1 b2 iniS ++ (gS t q3 b4 iniS ++ (gE t q5 b6 iniE ++ ([(q7, .inl (t 1, 6, .inr (.inr (.inr (.inr (va_up (va_up (va_up (va_up (va_up (va_up (fun _ => none) (Int32.toNatClampNeg 0) (some q8)) (Int32.toNatClampNeg 1) (some q10)) (Int32.toNatClampNeg 2) (some q12)) (Int32.toNatClampNeg 3) (some q14)) (Int32.toNatClampNeg 4) (some q16)) (Int32.toNatClampNeg 5) (some q18)))))))] ++ (gS t q8 b9 iniS ++ (gS t q10 b11 iniS ++ (gS t q12 b13 iniS ++ (gS t q14 b15 iniS ++ (gS t q16 b17 iniS ++ (gS t q18 b19 iniS))))))))))) := hD
  refine lv_iinc (v := 6) (lv' := [(1, .int 6), (0, .ref xa)]) hx hb dX2_init_70 hl (k := 0) rfl (by decide) (by decide) rfl (fun ls hl => ?_)
  refine lv_goto (tgt := 48) hx hb dX2_init_73 (by decide) ?_
  refine lv_iload_n hx hb dX2_init_48 rfl (lv_at hl 0 rfl) ?_
  refine lv_aload_n hx hb dX2_init_49 rfl (lv_at hl 1 rfl) ?_
  refine va_get (D := D) (ci := 2) (v := .ref q7) (C := RX2) (T := TX2) (N := 8) hx hb htB inlX2 hown hK hP 0 rfl rfl 3 (by decide) (htB _ kw18) (fun _ h9 => h9) rfl dX2_init_50 ?_
  refine va_alen (v := 6) hx hb hK hP 21 1 rfl rfl rfl dX2_init_53 ?_
  refine lv_icmp_ge (tgt := 76) hx hb dX2_init_54 (by decide) (fun _ => ?_) (fun c9 => absurd (by decide) c9)
  refine lv_aload_n hx hb dX2_init_76 rfl (lv_at hl 1 rfl) ?_
  refine lv_iconst (v := 0) hx hb dX2_init_77 (by decide) ?_
  refine va_put (D := D) (ci := 2) (v := .int 0) (ty := .int) (C := RX2) (T := TX2) (N := 8) hx hb htB inlX2 tyX2 tyX2_ok nmX2 hown hK hP hD hS 0 rfl rfl 4 (by decide) (htB _ kw19) (fun _ h9 => h9) rfl (by decide +kernel) rfl rfl (Nat.le_of_ble_eq_true rfl) dX2_init_78 (fun H locs hP hD hS => ?_)
  have hP : va_P D vwCl ([(xa, .inr (2, [.ref q1, .ref q3, .ref q5, .ref q7, .int 0, .int 0, .null, .int 0]))] ++ (gS t q1 b2 iniS ++ (gS t q3 b4 iniS ++ (gE t q5 b6 iniE ++ ([(q7, .inl (t 1, 6, .inr (.inr (.inr (.inr (va_up (va_up (va_up (va_up (va_up (va_up (fun _ => none) (Int32.toNatClampNeg 0) (some q8)) (Int32.toNatClampNeg 1) (some q10)) (Int32.toNatClampNeg 2) (some q12)) (Int32.toNatClampNeg 3) (some q14)) (Int32.toNatClampNeg 4) (some q16)) (Int32.toNatClampNeg 5) (some q18)))))))] ++ (gS t q8 b9 iniS ++ (gS t q10 b11 iniS ++ (gS t q12 b13 iniS ++ (gS t q14 b15 iniS ++ (gS t q16 b17 iniS ++ (gS t q18 b19 iniS))))))))))) H := hP
  have hD : va_D A ([(xa, .inr (2, [.ref q1, .ref q3, .ref q5, .ref q7, .int 0, .int 0, .null, .int 0]))] ++ (gS t q1 b2 iniS ++ (gS t q3 b4 iniS ++ (gE t q5 b6 iniE ++ ([(q7, .inl (t 1, 6, .inr (.inr (.inr (.inr (va_up (va_up (va_up (va_up (va_up (va_up (fun _ => none) (Int32.toNatClampNeg 0) (some q8)) (Int32.toNatClampNeg 1) (some q10)) (Int32.toNatClampNeg 2) (some q12)) (Int32.toNatClampNeg 3) (some q14)) (Int32.toNatClampNeg 4) (some q16)) (Int32.toNatClampNeg 5) (some q18)))))))] ++ (gS t q8 b9 iniS ++ (gS t q10 b11 iniS ++ (gS t q12 b13 iniS ++ (gS t q14 b15 iniS ++ (gS t q16 b17 iniS ++ (gS t q18 b19 iniS))))))))))) := hD
  refine lv_aload_n hx hb dX2_init_81 rfl (lv_at hl 1 rfl) ?_
  refine lv_iconst (v := 0) hx hb dX2_init_82 (by decide) ?_
  refine va_put (D := D) (ci := 2) (v := .int 0) (ty := .int) (C := RX2) (T := TX2) (N := 8) hx hb htB inlX2 tyX2 tyX2_ok nmX2 hown hK hP hD hS 0 rfl rfl 5 (by decide) (htB _ kw20) (fun _ h9 => h9) rfl (by decide +kernel) rfl rfl (Nat.le_of_ble_eq_true rfl) dX2_init_83 (fun H locs hP hD hS => ?_)
  have hP : va_P D vwCl ([(xa, .inr (2, [.ref q1, .ref q3, .ref q5, .ref q7, .int 0, .int 0, .null, .int 0]))] ++ (gS t q1 b2 iniS ++ (gS t q3 b4 iniS ++ (gE t q5 b6 iniE ++ ([(q7, .inl (t 1, 6, .inr (.inr (.inr (.inr (va_up (va_up (va_up (va_up (va_up (va_up (fun _ => none) (Int32.toNatClampNeg 0) (some q8)) (Int32.toNatClampNeg 1) (some q10)) (Int32.toNatClampNeg 2) (some q12)) (Int32.toNatClampNeg 3) (some q14)) (Int32.toNatClampNeg 4) (some q16)) (Int32.toNatClampNeg 5) (some q18)))))))] ++ (gS t q8 b9 iniS ++ (gS t q10 b11 iniS ++ (gS t q12 b13 iniS ++ (gS t q14 b15 iniS ++ (gS t q16 b17 iniS ++ (gS t q18 b19 iniS))))))))))) H := hP
  have hD : va_D A ([(xa, .inr (2, [.ref q1, .ref q3, .ref q5, .ref q7, .int 0, .int 0, .null, .int 0]))] ++ (gS t q1 b2 iniS ++ (gS t q3 b4 iniS ++ (gE t q5 b6 iniE ++ ([(q7, .inl (t 1, 6, .inr (.inr (.inr (.inr (va_up (va_up (va_up (va_up (va_up (va_up (fun _ => none) (Int32.toNatClampNeg 0) (some q8)) (Int32.toNatClampNeg 1) (some q10)) (Int32.toNatClampNeg 2) (some q12)) (Int32.toNatClampNeg 3) (some q14)) (Int32.toNatClampNeg 4) (some q16)) (Int32.toNatClampNeg 5) (some q18)))))))] ++ (gS t q8 b9 iniS ++ (gS t q10 b11 iniS ++ (gS t q12 b13 iniS ++ (gS t q14 b15 iniS ++ (gS t q16 b17 iniS ++ (gS t q18 b19 iniS))))))))))) := hD
  refine lv_aload_n hx hb dX2_init_86 rfl (lv_at hl 1 rfl) ?_
  refine lv_bipush (v := 60) hx hb dX2_init_87 (by decide) ?_
  refine va_newa (atype := .int) (ty := .int) (a0 := (60, .inl (fun _ => 0))) (N' := 60) hx hb (htB _ kw21) rfl hK hP hD hS hA (fun _ => rfl) (by decide) (by decide) (by decide) (Nat.le_of_ble_eq_true rfl) (Nat.le_of_ble_eq_true rfl) dX2_init_89 (fun q20 cA9 H hK9 hP hD hS => ?_)
  obtain rfl := k_int hK9
  have hP : va_P D vwCl ([(xa, .inr (2, [.ref q1, .ref q3, .ref q5, .ref q7, .int 0, .int 0, .null, .int 0]))] ++ (gS t q1 b2 iniS ++ (gS t q3 b4 iniS ++ (gE t q5 b6 iniE ++ ([(q7, .inl (t 1, 6, .inr (.inr (.inr (.inr (va_up (va_up (va_up (va_up (va_up (va_up (fun _ => none) (Int32.toNatClampNeg 0) (some q8)) (Int32.toNatClampNeg 1) (some q10)) (Int32.toNatClampNeg 2) (some q12)) (Int32.toNatClampNeg 3) (some q14)) (Int32.toNatClampNeg 4) (some q16)) (Int32.toNatClampNeg 5) (some q18)))))))] ++ (gS t q8 b9 iniS ++ (gS t q10 b11 iniS ++ (gS t q12 b13 iniS ++ (gS t q14 b15 iniS ++ (gS t q16 b17 iniS ++ (gS t q18 b19 iniS ++ ([(q20, .inl (t 0, 60, .inl (fun _ => 0)))])))))))))))) H := hP
  have hD : va_D A ([(xa, .inr (2, [.ref q1, .ref q3, .ref q5, .ref q7, .int 0, .int 0, .null, .int 0]))] ++ (gS t q1 b2 iniS ++ (gS t q3 b4 iniS ++ (gE t q5 b6 iniE ++ ([(q7, .inl (t 1, 6, .inr (.inr (.inr (.inr (va_up (va_up (va_up (va_up (va_up (va_up (fun _ => none) (Int32.toNatClampNeg 0) (some q8)) (Int32.toNatClampNeg 1) (some q10)) (Int32.toNatClampNeg 2) (some q12)) (Int32.toNatClampNeg 3) (some q14)) (Int32.toNatClampNeg 4) (some q16)) (Int32.toNatClampNeg 5) (some q18)))))))] ++ (gS t q8 b9 iniS ++ (gS t q10 b11 iniS ++ (gS t q12 b13 iniS ++ (gS t q14 b15 iniS ++ (gS t q16 b17 iniS ++ (gS t q18 b19 iniS ++ ([(q20, .inl (t 0, 60, .inl (fun _ => 0)))])))))))))))) := hD
  refine va_putF (D := D) (ci := 2) (v := .ref q20) (ty := (.array .int)) (C := RX2) (T := TX2) (N := 8) hx hb htB inlX2 tyX2 tyX2_ok nmX2 hown hK hP hD hS 0 rfl rfl 6 (by decide) (htB _ kw22) (fun _ h9 => h9) rfl hin rfl (by decide +kernel) rfl rfl (Nat.le_of_ble_eq_true rfl) dX2_init_91 (fun H locs hP hD hS => ?_)
  have hP : va_P D vwCl ([(xa, .inr (2, [.ref q1, .ref q3, .ref q5, .ref q7, .int 0, .int 0, .ref q20, .int 0]))] ++ (gS t q1 b2 iniS ++ (gS t q3 b4 iniS ++ (gE t q5 b6 iniE ++ ([(q7, .inl (t 1, 6, .inr (.inr (.inr (.inr (va_up (va_up (va_up (va_up (va_up (va_up (fun _ => none) (Int32.toNatClampNeg 0) (some q8)) (Int32.toNatClampNeg 1) (some q10)) (Int32.toNatClampNeg 2) (some q12)) (Int32.toNatClampNeg 3) (some q14)) (Int32.toNatClampNeg 4) (some q16)) (Int32.toNatClampNeg 5) (some q18)))))))] ++ (gS t q8 b9 iniS ++ (gS t q10 b11 iniS ++ (gS t q12 b13 iniS ++ (gS t q14 b15 iniS ++ (gS t q16 b17 iniS ++ (gS t q18 b19 iniS ++ ([(q20, .inl (t 0, 60, .inl (fun _ => 0)))])))))))))))) H := hP
  have hD : va_D A ([(xa, .inr (2, [.ref q1, .ref q3, .ref q5, .ref q7, .int 0, .int 0, .ref q20, .int 0]))] ++ (gS t q1 b2 iniS ++ (gS t q3 b4 iniS ++ (gE t q5 b6 iniE ++ ([(q7, .inl (t 1, 6, .inr (.inr (.inr (.inr (va_up (va_up (va_up (va_up (va_up (va_up (fun _ => none) (Int32.toNatClampNeg 0) (some q8)) (Int32.toNatClampNeg 1) (some q10)) (Int32.toNatClampNeg 2) (some q12)) (Int32.toNatClampNeg 3) (some q14)) (Int32.toNatClampNeg 4) (some q16)) (Int32.toNatClampNeg 5) (some q18)))))))] ++ (gS t q8 b9 iniS ++ (gS t q10 b11 iniS ++ (gS t q12 b13 iniS ++ (gS t q14 b15 iniS ++ (gS t q16 b17 iniS ++ (gS t q18 b19 iniS ++ ([(q20, .inl (t 0, 60, .inl (fun _ => 0)))])))))))))))) := hD
  refine lv_aload_n hx hb dX2_init_94 rfl (lv_at hl 1 rfl) ?_
  refine lv_iconst (v := 0) hx hb dX2_init_95 (by decide) ?_
  refine va_put (D := D) (ci := 2) (v := .int 0) (ty := .int) (C := RX2) (T := TX2) (N := 8) hx hb htB inlX2 tyX2 tyX2_ok nmX2 hown hK hP hD hS 0 rfl rfl 7 (by decide) (htB _ kw23) (fun _ h9 => h9) rfl (by decide +kernel) rfl rfl (Nat.le_of_ble_eq_true rfl) dX2_init_96 (fun H locs hP hD hS => ?_)
  have hP : va_P D vwCl ([(xa, .inr (2, [.ref q1, .ref q3, .ref q5, .ref q7, .int 0, .int 0, .ref q20, .int 0]))] ++ (gS t q1 b2 iniS ++ (gS t q3 b4 iniS ++ (gE t q5 b6 iniE ++ ([(q7, .inl (t 1, 6, .inr (.inr (.inr (.inr (va_up (va_up (va_up (va_up (va_up (va_up (fun _ => none) (Int32.toNatClampNeg 0) (some q8)) (Int32.toNatClampNeg 1) (some q10)) (Int32.toNatClampNeg 2) (some q12)) (Int32.toNatClampNeg 3) (some q14)) (Int32.toNatClampNeg 4) (some q16)) (Int32.toNatClampNeg 5) (some q18)))))))] ++ (gS t q8 b9 iniS ++ (gS t q10 b11 iniS ++ (gS t q12 b13 iniS ++ (gS t q14 b15 iniS ++ (gS t q16 b17 iniS ++ (gS t q18 b19 iniS ++ ([(q20, .inl (t 0, 60, .inl (fun _ => 0)))])))))))))))) H := hP
  have hD : va_D A ([(xa, .inr (2, [.ref q1, .ref q3, .ref q5, .ref q7, .int 0, .int 0, .ref q20, .int 0]))] ++ (gS t q1 b2 iniS ++ (gS t q3 b4 iniS ++ (gE t q5 b6 iniE ++ ([(q7, .inl (t 1, 6, .inr (.inr (.inr (.inr (va_up (va_up (va_up (va_up (va_up (va_up (fun _ => none) (Int32.toNatClampNeg 0) (some q8)) (Int32.toNatClampNeg 1) (some q10)) (Int32.toNatClampNeg 2) (some q12)) (Int32.toNatClampNeg 3) (some q14)) (Int32.toNatClampNeg 4) (some q16)) (Int32.toNatClampNeg 5) (some q18)))))))] ++ (gS t q8 b9 iniS ++ (gS t q10 b11 iniS ++ (gS t q12 b13 iniS ++ (gS t q14 b15 iniS ++ (gS t q16 b17 iniS ++ (gS t q18 b19 iniS ++ ([(q20, .inl (t 0, 60, .inl (fun _ => 0)))])))))))))))) := hD
  have hP : va_P D vwCl _ H := hP.q6 (sa := (fun i => [q8, q10, q12, q14, q16, q18].getD i 0)) 21 rfl (by decide) rfl rfl rfl rfl rfl rfl rfl
  have hD : va_D A _ := hD.q6 (sa := (fun i => [q8, q10, q12, q14, q16, q18].getD i 0)) 21 rfl rfl
  have hP : va_P D vwCl (gBo xa (fun i => [q1, q3, q5, q7, q20].getD i 0) (0, 0, 0) ++ (gS t ((fun i => [q1, q3, q5, q7, q20].getD i 0) 0) b2 iniS ++ (gS t ((fun i => [q1, q3, q5, q7, q20].getD i 0) 1) b4 iniS ++ (gE t ((fun i => [q1, q3, q5, q7, q20].getD i 0) 2) b6 iniE ++ (gQ t ((fun i => [q1, q3, q5, q7, q20].getD i 0) 3) (fun i => [q8, q10, q12, q14, q16, q18].getD i 0) ++ (g6 t (fun i => [q8, q10, q12, q14, q16, q18].getD i 0) (fun i => [b9, b11, b13, b15, b17, b19].getD i b9) (fun _ => iniS) ++ gA t ((fun i => [q1, q3, q5, q7, q20].getD i 0) 4) 60 (fun _ => 0))))))) H := hP.pick0 [0, 1, 2, 3, 4, 5, 6, 7, 8, 9, 10, 11, 12, 13, 14, 15, 16, 17, 18, 19, 20, 21, 22, 23, 24, 25, 26, 27, 28, 29, 30, 31, 32, 33, 34, 35, 36, 37, 38, 39, 40, 41, 42, 43, 44, 45, 46, 47, 48, 49, 50, 51, 52, 53, 54, 55, 56, 57, 58, 59, 60, 61, 62, 63, 64, 65, 66, 67, 68, 69, 70] rfl
  have hD : va_D A (gBo xa (fun i => [q1, q3, q5, q7, q20].getD i 0) (0, 0, 0) ++ (gS t ((fun i => [q1, q3, q5, q7, q20].getD i 0) 0) b2 iniS ++ (gS t ((fun i => [q1, q3, q5, q7, q20].getD i 0) 1) b4 iniS ++ (gE t ((fun i => [q1, q3, q5, q7, q20].getD i 0) 2) b6 iniE ++ (gQ t ((fun i => [q1, q3, q5, q7, q20].getD i 0) 3) (fun i => [q8, q10, q12, q14, q16, q18].getD i 0) ++ (g6 t (fun i => [q8, q10, q12, q14, q16, q18].getD i 0) (fun i => [b9, b11, b13, b15, b17, b19].getD i b9) (fun _ => iniS) ++ gA t ((fun i => [q1, q3, q5, q7, q20].getD i 0) 4) 60 (fun _ => 0))))))) := hD.sub [0, 1, 2, 3, 4, 5, 6, 7, 8, 9, 10, 11, 12, 13, 14, 15, 16, 17, 18, 19, 20, 21, 22, 23, 24, 25, 26, 27, 28, 29, 30, 31, 32, 33, 34, 35, 36, 37, 38, 39, 40, 41, 42, 43, 44, 45, 46, 47, 48, 49, 50, 51, 52, 53, 54, 55, 56, 57, 58, 59, 60, 61, 62, 63, 64, 65, 66, 67, 68, 69, 70] (by decide +kernel) rfl
  exact W.vret hx hb hr (fun tt ht hW => ⟨⟨((fun i => [q1, q3, q5, q7, q20].getD i 0), b2, b4, b6, (fun i => [q8, q10, q12, q14, q16, q18].getD i 0), (fun i => [b9, b11, b13, b15, b17, b19].getD i b9)), rfl, trivial, by rw [ht]; exact hP, va_K.moved hW.alike hK, hD⟩, hS.F ht⟩) hS.2.2 dX2_init_99 hlocks
