/-! the law's own methods: a contract that sees the script, which nothing may change -/
def yS (b L : Nat) (xs : Nat → Int32) (A : Nat → Prop) (U : State) : Prop := va_X b L xs U U.heap ∧ b < U.heap.size ∧ ¬ A b
def yPc (D : va_G) (t : Nat → ClassId) (ws : va_W) (sz : Nat) (b L : Nat) (xs : Nat → Int32) (av : List Value) : Array Value → State → Prop := fun v U => xPc D t ws sz av v U ∧ yS b L xs (va_A ws sz) U
theorem yPc_S {D : va_G} {t : Nat → ClassId} {ws : va_W} {av : List Value} {s : State} {H : Heap} {A A0 : Nat → Prop} {locs : List Loc} {b L : Nat} {xs : Nat → Int32} (hP : va_P D vwCl ws H) (hK : va_K D vwCl (TY t) s) (hD : va_D A ws) (hE : xE s) (hX : xS A0 s s.heap) (hS : va_S A0 s.heap H locs) (hAB : ∀ q, va_A ws H.size q → A0 q) (hXs : va_X b L xs s s.heap) (hbl : b < s.heap.size) (hbA : ¬ A0 b) : PreS s H (yPc D t ws H.size b L xs av) av :=
  ⟨fun a U g mk h => ⟨xPc_blind a U g mk h.1, va_X.moved (u := U) (U := U.calling g mk a) (Vm.Alike.refl U.vm) h.2.1, h.2.2⟩,
   fun U hU hW => ⟨(xPc_S hP hK hD hE hX hS hAB).2 U hU hW, by rw [hU]; exact va_X.moved hW.alike (hXs.kept (hS.2.1 b hbl hbA)), by rw [hU]; exact Nat.lt_of_lt_of_le hbl hS.1, fun h => hbA (hAB b h)⟩⟩
theorem met_ofY {l : Launch} {y : MethodName} {ws ws' : List Cond} {rm : Room} {D : va_G} {t : Nat → ClassId} {ww : va_W} {sz mc ms b L : Nat} {xs : Nat → Int32} {av : List Value} {Qf : (Nat → Prop) → Array Value → State → Outcome → State → Prop} {cc : ByteArray} {maxL : Nat} {ret : Option FieldType}
    (hy : plainName y.cls = true) (hw : ws = Cond.code y cc maxL ret :: ws') (hn : (lg_sl av).length ≤ maxL)
    (body : ∀ (p : Program) (e : Env) (s : State) (m : MethodId) (args : Array Value) (below : List Frame) (meth : Method) (c : Code) (A : Nat → Prop), p.tables.exec = Jvm.exec → c.code = cc → meth.sig.returnType = ret → c.maxLocals = maxL → (∀ w ∈ ws, w.before args s = true) → s.vm.findClass y.cls = some m.cls → meth.locks = false →
      (∀ q, s.heap.size ≤ q → A q) → va_P D vwCl ww s.heap → va_K D vwCl (TY t) s → va_D A ww → xE s → va_S A s.heap s.heap [] → xS A s s.heap → va_X b L xs s s.heap → b < s.heap.size → ¬ A b → ∀ ls : Array Slot, lv_has ls maxL (lv_args 0 av) →
      W p l e rm s m args below meth c s.heap [] 0 0 (MQ below (Qf A) args s mc ms A) (F0 m 0 ls [])) : Met l y ws rm (yPc D t ww sz b L xs av) (Qf (va_A ww sz)) mc ms (va_A ww sz) := by
  refine Met.ofW (cc := cc) (maxL := maxL) (ret := ret) hy hw ?_
  intro p e s m args below meth c s₁ B hml hv
  obtain ⟨⟨⟨rfl, hsz, hP, hK, hD0, hE⟩, hX⟩, hY1, hY2, hY3⟩ := hv
  subst hsz
  rw [lg_entry_eq]
  exact body p e s m _ below meth c (va_A ww s.heap.size) B.exec B.bytes B.returns hml (atoms_spec (ws := ws) B.pre) (findClass_of_methodNamed B.named) B.notSynchronized (fun q h => Or.inr h) hP hK hD0.self hE va_S.rf hX hY1 hY2 hY3 _ (lv_entry av hn)
theorem met_ofL {l : Launch} {y : MethodName} {ws ws' : List Cond} {rm : Room} {D : va_G} {t : Nat → ClassId} {ww : va_W} {sz mc ms : Nat} {av : List Value} {Qf : (Nat → Prop) → Array Value → State → Outcome → State → Prop} {cc : ByteArray} {maxL : Nat} {ret : Option FieldType} {hh : List (Nat × Nat × Nat × Nat)}
    (hy : plainName y.cls = true) (hw : ws = Cond.codeWith y cc maxL ret hh :: ws') (hn : (lg_sl av).length ≤ maxL)
    (body : ∀ (p : Program) (e : Env) (s : State) (m : MethodId) (args : Array Value) (below : List Frame) (meth : Method) (c : Code) (A : Nat → Prop), p.tables.exec = Jvm.exec → c.code = cc → meth.sig.returnType = ret → c.maxLocals = maxL → (∀ w ∈ ws, w.before args s = true) → s.vm.findClass y.cls = some m.cls → meth.locks = false →
      (∀ q, s.heap.size ≤ q → A q) → va_P D vwCl ww s.heap → va_K D vwCl (TY t) s → va_D A ww → xE s → va_S A s.heap s.heap [] → xS A s s.heap → c.exceptionTable.toList = tableOf hh → ∀ ls : Array Slot, lv_has ls maxL (lv_args 0 av) →
      W p l e rm s m args below meth c s.heap [] 0 0 (MQ below (Qf A) args s mc ms A) (F0 m 0 ls [])) : Met l y ws rm (xPc D t ww sz av) (Qf (va_A ww sz)) mc ms (va_A ww sz) := by
  refine va_MetW (cc := cc) (maxL := maxL) (ret := ret) (hh := hh) hy hw ?_
  intro p e s m args below meth c s₁ B hml hv
  obtain ⟨⟨rfl, hsz, hP, hK, hD0, hE⟩, hX⟩ := hv
  subst hsz
  rw [lg_entry_eq]
  exact body p e s m _ below meth c (va_A ww s.heap.size) B.exec B.bytes B.returns hml (atoms_spec (ws := ws) B.pre) (findClass_of_methodNamed B.named) B.notSynchronized (fun q h => Or.inr h) hP hK hD0.self hE va_S.rf hX (vx_table (x := y) B (atoms_spec (ws := ws) B.pre _ (by rw [hw]; exact List.mem_cons_self))) _ (lv_entry av hn)
section WR
variable {p : Program} {l : Launch} {e : Env} {R : Room} {s : State} {m : MethodId} {args : Array Value} {below : List Frame} {meth : Method} {c : Code} {H H0 : Heap} {locs : List Loc} {cells slots : Nat} {Q : State → Prop}
variable {D : va_G} {t : Nat → ClassId} {A : Nat → Prop} {ws wc wc' ws' : va_W} {pc : Nat} {ls : Array Slot} {st0 rest : List Value} {a : Array Value}
/-- a callee throws; the caller looks at its table -/
theorem call_c {E : Nat} (cut : Cut D A ws wc wc ws H) (hS : va_S A H0 H locs)
    (hr : va_P D vwCl wc H → va_D A wc → (∀ q, va_A wc H.size q → A q) → vx_Run p l e R s m args below meth c H locs cells slots 1 6 (F0 m pc ls st0) rest (qX (va_A wc H.size) a) (xC D t wc E (va_A wc H.size)) (va_A wc H.size))
    (kx : ∀ (ce : Cell) (q9 : Nat) (H1 : Heap) (locs1 : List Loc), va_P D vwCl ws H1 → va_D A ws → va_S A H0 H1 locs1 → H1[q9]? = some ce → ce.vm = .none → s.vm.findClass (xname E) = some ce.cls → vx_W p l e R s m args below meth c H1 locs1 (cells + 1) (slots + 6) Q (F0 m pc ls rest) q9) :
    W p l e R s m args below meth c H locs cells slots Q (F0 m pc ls st0) := by
  obtain ⟨hPc, hDc, hfr, hup⟩ := cut
  refine vx_callv (hr hPc hDc hfr) hS (fun q _ h => hfr q h) hfr (fun q _ h => hfr q h) (fun En ce q9 u tt H1 locs1 ht hvm _ hB hz hk hS1 hcell hv hcl => ?_) (fun u tt H1 locs1 ht hvm hf => hf.elim)
  obtain ⟨rfl, hP1, -, -⟩ := hB
  rw [ht] at hP1
  obtain ⟨a2, a3⟩ := hup H1 hk hP1
  exact kx ce q9 H1 locs1 a2 a3 hS1 hcell hv hcl
/-- a method is called that may make one cell of six slots -/
theorem call_w {v : Int32} (cut : Cut D A ws wc wc' ws' H) (hS : va_S A H0 H locs)
    (hr : va_P D vwCl wc H → va_D A wc → (∀ q, va_A wc H.size q → A q) → va_Run p l e R s m args below meth c H locs cells slots 1 6 (F0 m pc ls st0) rest (qI D t wc' v (va_A wc H.size) a) (va_A wc H.size))
    (kk : ∀ (H1 : Heap) (locs1 : List Loc), va_P D vwCl ws' H1 → va_D A ws' → va_S A H0 H1 locs1 → W p l e R s m args below meth c H1 locs1 (cells + 1) (slots + 6) Q (F0 m (pc + 3) ls (.int v :: rest))) : W p l e R s m args below meth c H locs cells slots Q (F0 m pc ls st0) := by
  obtain ⟨hPc, hDc, hfr, hup⟩ := cut
  refine va_calli (hr hPc hDc hfr) hS (fun q _ h => hfr q h) hfr (fun r u tt H1 locs1 ht hvm hw' hB hz hk hS1 => ?_)
  obtain ⟨hP1, -, -⟩ := hB
  rw [ht] at hP1
  obtain ⟨a2, a3⟩ := hup H1 hk hP1
  rw [hw']
  exact kk H1 locs1 a2 a3 hS1
/-- a method that sees the script is called; it makes nothing -/
theorem call_y {v : Int32} (cut : Cut D A ws wc wc' ws' H) (hS : va_S A H0 H locs)
    (hr : va_P D vwCl wc H → va_D A wc → (∀ q, va_A wc H.size q → A q) → va_Run p l e R s m args below meth c H locs cells slots 0 0 (F0 m pc ls st0) rest (qI D t wc' v (va_A wc H.size) a) (va_A wc H.size))
    (kk : ∀ (H1 : Heap) (locs1 : List Loc), va_P D vwCl ws' H1 → va_D A ws' → va_S A H0 H1 locs1 → W p l e R s m args below meth c H1 locs1 cells slots Q (F0 m (pc + 3) ls (.int v :: rest))) : W p l e R s m args below meth c H locs cells slots Q (F0 m pc ls st0) := by
  obtain ⟨hPc, hDc, hfr, hup⟩ := cut
  refine va_calli (hr hPc hDc hfr) hS (fun q _ h => hfr q h) hfr (fun r u tt H1 locs1 ht hvm hw' hB hz hk hS1 => ?_)
  obtain ⟨hP1, -, -⟩ := hB
  rw [ht] at hP1
  obtain ⟨a2, a3⟩ := hup H1 hk hP1
  rw [hw']
  exact kk H1 locs1 a2 a3 hS1
end WR

theorem dL_low_0 : decode cL_low 0 = .ok (.iload_n 0, 1) := by decide +kernel
theorem dL_low_1 : decode cL_low 1 = .ok (.ldc 7, 2) := by decide +kernel
theorem dL_low_3 : decode cL_low 3 = .ok (.iand, 1) := by decide +kernel
theorem dL_low_4 : decode cL_low 4 = .ok (.iload_n 1, 1) := by decide +kernel
theorem dL_low_5 : decode cL_low 5 = .ok (.irem, 1) := by decide +kernel
theorem dL_low_6 : decode cL_low 6 = .ok (.ireturn, 1) := by decide +kernel
abbrev zL_low : List Cond := .code yL_low cL_low 2 (some .int) :: BIG
def fL_low (v : Int32) (n : Int32) : Option (Int32) := gd (nz n) (some ((v &&& 2147483647) - (v &&& 2147483647) / n * n))
set_option maxHeartbeats 4000000 in
set_option maxRecDepth 100000 in
theorem mtL_low (l : Launch) (D : va_G) (t : Nat → ClassId) (v : Int32) (n : Int32) (out : Int32) (h : fL_low v n = some out)  (sz : Nat) : Met l yL_low zL_low ({ frames := 0, cells := 0, slots := 0, locals := 0 }) (sPc D t ([] : va_W) sz [.int v, .int n]) (qI D t ([] : va_W) out (va_A ([] : va_W) sz)) 0 0 (va_A ([] : va_W) sz) := by
  refine met_of (Qf := fun A => qI D t ([] : va_W) out A) (cc := cL_low) (maxL := 2) (ret := some .int) (by decide) rfl (Nat.le_of_ble_eq_true rfl) ?_
  intro p e s m args below meth c A hx hb hr hml hts hown hlocks hA hP hK hD hE hS ls hl
  have htB : ∀ w ∈ BIG, w.before args s = true := fun w h => hts w (List.mem_cons_of_mem _ h)
  have hown : s.vm.findClass RL = some m.cls := hown
  have hl : lv_has ls 2 [(0, .int v), (1, .int n)] := hl
  unfold fL_low at h
  refine lv_iload_n hx hb dL_low_0 rfl (lv_at hl 0 rfl) ?_
  refine lv_ldc (v := 2147483647) hx hb hown (htB _ kw75) dL_low_1 ?_
  refine lv_iand hx hb dL_low_3 ?_
  refine lv_iload_n hx hb dL_low_4 rfl (lv_at hl 1 rfl) ?_
  obtain ⟨g1, h⟩ := og h
  refine lv_irem hx hb dL_low_5 (nz_ne g1) ?_
  obtain rfl := os h
  exact ret_i hx hb hr hlocks hP hK hD hS dL_low_6

theorem dL_size_0 : decode cL_size 0 = .ok (.iload_n 0, 1) := by decide +kernel
theorem dL_size_1 : decode cL_size 1 = .ok (.ifCond .ge 8, 3) := by decide +kernel
theorem dL_size_4 : decode cL_size 4 = .ok (.iload_n 0, 1) := by decide +kernel
theorem dL_size_5 : decode cL_size 5 = .ok (.ineg, 1) := by decide +kernel
theorem dL_size_6 : decode cL_size 6 = .ok (.goto 4, 3) := by decide +kernel
theorem dL_size_9 : decode cL_size 9 = .ok (.iload_n 0, 1) := by decide +kernel
theorem dL_size_10 : decode cL_size 10 = .ok (.ireturn, 1) := by decide +kernel
abbrev zL_size : List Cond := .code yL_size cL_size 1 (some .int) :: BIG
def fL_size (v : Int32) : Option (Int32) := (if 0 ≤ v then some v else some (-v))
set_option maxHeartbeats 4000000 in
set_option maxRecDepth 100000 in
theorem mtL_size (l : Launch) (D : va_G) (t : Nat → ClassId) (v : Int32) (out : Int32) (h : fL_size v = some out)  (sz : Nat) : Met l yL_size zL_size ({ frames := 0, cells := 0, slots := 0, locals := 0 }) (sPc D t ([] : va_W) sz [.int v]) (qI D t ([] : va_W) out (va_A ([] : va_W) sz)) 0 0 (va_A ([] : va_W) sz) := by
  refine met_of (Qf := fun A => qI D t ([] : va_W) out A) (cc := cL_size) (maxL := 1) (ret := some .int) (by decide) rfl (Nat.le_of_ble_eq_true rfl) ?_
  intro p e s m args below meth c A hx hb hr hml hts hown hlocks hA hP hK hD hE hS ls hl
  have htB : ∀ w ∈ BIG, w.before args s = true := fun w h => hts w (List.mem_cons_of_mem _ h)
  have hown : s.vm.findClass RL = some m.cls := hown
  have hl : lv_has ls 1 [(0, .int v)] := hl
  unfold fL_size at h
  refine lv_iload_n hx hb dL_size_0 rfl (lv_at hl 0 rfl) ?_
  refine lv_if_ge (tgt := 9) hx hb dL_size_1 (by decide) (fun c1 => ?_) (fun c1 => ?_)
  · have h := it_p c1 h
    refine lv_iload_n hx hb dL_size_9 rfl (lv_at hl 0 rfl) ?_
    obtain rfl := os h
    exact ret_i hx hb hr hlocks hP hK hD hS dL_size_10
  · have h := it_n c1 h
    refine lv_iload_n hx hb dL_size_4 rfl (lv_at hl 0 rfl) ?_
    refine lv_ineg hx hb dL_size_5 ?_
    refine lv_goto (tgt := 10) hx hb dL_size_6 (by decide) ?_
    obtain rfl := os h
    exact ret_i hx hb hr hlocks hP hK hD hS dL_size_10

theorem dL_cell_0 : decode cL_cell 0 = .ok (.iload_n 1, 1) := by decide +kernel
theorem dL_cell_1 : decode cL_cell 1 = .ok (.aload_n 0, 1) := by decide +kernel
theorem dL_cell_2 : decode cL_cell 2 = .ok (.arraylength, 1) := by decide +kernel
theorem dL_cell_3 : decode cL_cell 3 = .ok (.if_icmp .ge 9, 3) := by decide +kernel
theorem dL_cell_6 : decode cL_cell 6 = .ok (.aload_n 0, 1) := by decide +kernel
theorem dL_cell_7 : decode cL_cell 7 = .ok (.iload_n 1, 1) := by decide +kernel
theorem dL_cell_8 : decode cL_cell 8 = .ok (.iaload, 1) := by decide +kernel
theorem dL_cell_9 : decode cL_cell 9 = .ok (.goto 11, 3) := by decide +kernel
theorem dL_cell_12 : decode cL_cell 12 = .ok (.ldc 8, 2) := by decide +kernel
theorem dL_cell_14 : decode cL_cell 14 = .ok (.iload_n 1, 1) := by decide +kernel
theorem dL_cell_15 : decode cL_cell 15 = .ok (.imul, 1) := by decide +kernel
theorem dL_cell_16 : decode cL_cell 16 = .ok (.sipush 977, 3) := by decide +kernel
theorem dL_cell_19 : decode cL_cell 19 = .ok (.iadd, 1) := by decide +kernel
theorem dL_cell_20 : decode cL_cell 20 = .ok (.ireturn, 1) := by decide +kernel
abbrev zL_cell : List Cond := .code yL_cell cL_cell 2 (some .int) :: BIG
def fL_cell (L : Nat) (xs : Nat → Int32) (k : Int32) : Option (Int32) := (if (Int32.ofNat L) ≤ k then some ((40503 * k) + 977) else gd (pin k L) (some (xs (Int32.toNatClampNeg k))))
set_option maxHeartbeats 8000000 in
set_option maxRecDepth 100000 in
theorem mtL_cell (l : Launch) (D : va_G) (t : Nat → ClassId) (k : Int32) (b L : Nat) (xs : Nat → Int32) (out : Int32) (h : fL_cell L xs k = some out) (sz : Nat) : Met l yL_cell zL_cell ({ frames := 0, cells := 0, slots := 0, locals := 0 }) (yPc D t ([] : va_W) sz b L xs [.ref b, .int k]) (qI D t ([] : va_W) out (va_A ([] : va_W) sz)) 0 0 (va_A ([] : va_W) sz) := by
  refine met_ofY (Qf := fun A => qI D t ([] : va_W) out A) (cc := cL_cell) (maxL := 2) (ret := some .int) (by decide) rfl (Nat.le_of_ble_eq_true rfl) ?_
  intro p e s m args below meth c A hx hb hr hml hts hown hlocks hA hP hK hD hE hS hX hXs hbl hbA ls hl
  have htB : ∀ w ∈ BIG, w.before args s = true := fun w h => hts w (List.mem_cons_of_mem _ h)
  have hown : s.vm.findClass RL = some m.cls := hown
  have hl : lv_has ls 2 [(0, .ref b), (1, .int k)] := hl
  unfold fL_cell at h
  refine lv_iload_n hx hb dL_cell_0 rfl (lv_at hl 1 rfl) ?_
  refine lv_aload_n hx hb dL_cell_1 rfl (lv_at hl 0 rfl) ?_
  refine va_slen hx hb hXs hbl hbA hS dL_cell_2 ?_
  refine lv_icmp_ge (tgt := 12) hx hb dL_cell_3 (by decide) (fun c1 => ?_) (fun c1 => ?_)
  · have h := it_p c1 h
    refine lv_ldc (v := 40503) hx hb hown (htB _ kw71) dL_cell_12 ?_
    refine lv_iload_n hx hb dL_cell_14 rfl (lv_at hl 1 rfl) ?_
    refine lv_imul hx hb dL_cell_15 ?_
    refine lv_sipush (v := 977) hx hb dL_cell_16 (by decide) ?_
    refine lv_iadd hx hb dL_cell_19 ?_
    obtain rfl := os h
    exact ret_i hx hb hr hlocks hP hK hD hS dL_cell_20
  · have h := it_n c1 h
    refine lv_aload_n hx hb dL_cell_6 rfl (lv_at hl 0 rfl) ?_
    refine lv_iload_n hx hb dL_cell_7 rfl (lv_at hl 1 rfl) ?_
    obtain ⟨g2, h⟩ := og h
    refine va_sld hx hb hXs hbl hbA hS (pin_in g2) dL_cell_8 ?_
    refine lv_goto (tgt := 20) hx hb dL_cell_9 (by decide) ?_
    obtain rfl := os h
    exact ret_i hx hb hr hlocks hP hK hD hS dL_cell_20

theorem dL_undo_0 : decode cL_undo 0 = .ok (.aload_n 0, 1) := by decide +kernel
theorem dL_undo_1 : decode cL_undo 1 = .ok (.invokevirtual 9, 3) := by decide +kernel
theorem dL_undo_4 : decode cL_undo 4 = .ok (.ireturn, 1) := by decide +kernel
theorem dL_undo_5 : decode cL_undo 5 = .ok (.astore_n 1, 1) := by decide +kernel
theorem dL_undo_6 : decode cL_undo 6 = .ok (.bipush (-3), 2) := by decide +kernel
theorem dL_undo_8 : decode cL_undo 8 = .ok (.ireturn, 1) := by decide +kernel
abbrev zL_undo : List Cond := .codeWith yL_undo cL_undo 2 (some .int) [(0, 4, 5, 15)] :: BIG
def fL_undo (bo : BoT) (now : ShT) (sv : Nat → ShT) : Option (Int32 × BoT × ShT) := (fX2_undo bo now sv).bind (fun z => match z with | .inr r => some r | .inl E => if E = 2 then some ((-3), bo, now) else none)
set_option maxHeartbeats 4000000 in
set_option maxRecDepth 100000 in
theorem mtL_undo (l : Launch) (hfl : l.stackTraces = false) (D : va_G) (t : Nat → ClassId) (bh : Nat) (bk : Nat → Nat) (bo : BoT) (nb : Nat → Nat) (now : ShT) (sa : Nat → Nat) (sb : Nat → Nat → Nat) (sv : (Nat → ShT)) (out : Int32 × BoT × ShT) (h : fL_undo bo now sv = some out) (sz : Nat) : Met l yL_undo zL_undo ({ frames := 7, cells := 1, slots := 6, locals := 103 }) (xPc D t (gBo bh bk bo ++ (gS t (bk 0) nb now ++ (gQ t (bk 3) sa ++ (g6 t sa sb sv)))) sz [.ref bh]) (qI D t (gBo bh bk out.2.1 ++ (gS t (bk 0) nb out.2.2 ++ (gQ t (bk 3) sa ++ (g6 t sa sb sv)))) out.1 (va_A (gBo bh bk bo ++ (gS t (bk 0) nb now ++ (gQ t (bk 3) sa ++ (g6 t sa sb sv)))) sz)) 1 6 (va_A (gBo bh bk bo ++ (gS t (bk 0) nb now ++ (gQ t (bk 3) sa ++ (g6 t sa sb sv)))) sz) := by
  refine met_ofL (Qf := fun A => qI D t (gBo bh bk out.2.1 ++ (gS t (bk 0) nb out.2.2 ++ (gQ t (bk 3) sa ++ (g6 t sa sb sv)))) out.1 A) (cc := cL_undo) (maxL := 2) (ret := some .int) (hh := [(0, 4, 5, 15)]) (by decide) rfl (Nat.le_of_ble_eq_true rfl) ?_
  intro p e s m args below meth c A hx hb hr hml hts hown hlocks hA hP hK hD hE hS hX hTab ls hl
  have htB : ∀ w ∈ BIG, w.before args s = true := fun w h => hts w (List.mem_cons_of_mem _ h)
  have hown : s.vm.findClass RL = some m.cls := hown
  have hl : lv_has ls 2 [(0, .ref bh)] := hl
  unfold fL_undo at h
  obtain ⟨z, hz, h⟩ := ob h
  refine lv_aload_n hx hb dL_undo_0 rfl (lv_at hl 0 rfl) ?_
  cases z with
  | inr r =>
    dsimp only at h
    refine call_i (v := r.1) (wc := (gBo bh bk bo ++ (gS t (bk 0) nb now ++ (gQ t (bk 3) sa ++ (g6 t sa sb sv))))) (wc' := (gBo bh bk r.2.1 ++ (gS t (bk 0) nb r.2.2 ++ (gQ t (bk 3) sa ++ (g6 t sa sb sv))))) (ws' := (gBo bh bk r.2.1 ++ (gS t (bk 0) nb r.2.2 ++ (gQ t (bk 3) sa ++ (g6 t sa sb sv))))) (cutB (bs := [gBo bh bk bo, gS t (bk 0) nb now, gQ t (bk 3) sa, g6 t sa sb sv]) (cs := [gBo bh bk bo, gS t (bk 0) nb now, gQ t (bk 3) sa, g6 t sa sb sv]) (cs' := [gBo bh bk r.2.1, gS t (bk 0) nb r.2.2, gQ t (bk 3) sa, g6 t sa sb sv]) (bs' := [gBo bh bk r.2.1, gS t (bk 0) nb r.2.2, gQ t (bk 3) sa, g6 t sa sb sv]) [0, 1, 2, 3] hP hD hS hA rfl rfl rfl rfl) hS (fun hPc hDc => va_runV (As := []) (rest := []) ⟨hx, hb, hml, hown, hts⟩ (mtX2_undo l D t bh bk bo nb now sa sb sv r hz _) (cwV 0 hts (gBV kw246 kw247 kw248 kw2 kw249) rfl rfl rfl (by decide +kernel) ⟨Nat.le_of_ble_eq_true rfl, Nat.le_of_ble_eq_true rfl⟩) (sPc_V hPc hK hDc hE (va_recv hK hP (ci := 2) (q0 := 0) rfl rfl)) rfl rfl hl.1 rfl (lv_room (Nat.le_of_ble_eq_true rfl)) dL_undo_1 ⟨Nat.zero_le _, Nat.zero_le _⟩) (fun H locs hP hD hS => ?_)
    obtain rfl := os h
    refine W.widen (k := 1) (n := 6) (by omega) (by omega) ?_
    exact ret_i hx hb hr hlocks hP hK hD hS dL_undo_4
  | inl E =>
    dsimp only at h
    by_cases e0 : E = 2
    · have h := it_p e0 h
      subst e0
      refine call_c (E := 2) (wc := (gBo bh bk bo ++ (gS t (bk 0) nb now ++ (gQ t (bk 3) sa ++ (g6 t sa sb sv))))) (ws := (gBo bh bk bo ++ (gS t (bk 0) nb now ++ (gQ t (bk 3) sa ++ (g6 t sa sb sv))))) (cutB (bs := [gBo bh bk bo, gS t (bk 0) nb now, gQ t (bk 3) sa, g6 t sa sb sv]) (cs := [gBo bh bk bo, gS t (bk 0) nb now, gQ t (bk 3) sa, g6 t sa sb sv]) (cs' := [gBo bh bk bo, gS t (bk 0) nb now, gQ t (bk 3) sa, g6 t sa sb sv]) (bs' := [gBo bh bk bo, gS t (bk 0) nb now, gQ t (bk 3) sa, g6 t sa sb sv]) [0, 1, 2, 3] hP hD hS hA rfl rfl rfl rfl) hS (fun hPc hDc hAB => vx_runV (As := []) (rest := []) ⟨hx, hb, hml, hown, hts⟩ (xmX2_undo l hfl D t bh bk bo nb now sa sb sv 2 hz _) (cwV 0 hts (gBV kw246 kw247 kw248 kw2 kw249) rfl rfl rfl (by decide +kernel) ⟨Nat.le_of_ble_eq_true rfl, Nat.le_of_ble_eq_true rfl⟩) (xPc_V hPc hK hDc hE (va_recv hK hP (ci := 2) (q0 := 0) rfl rfl) hX hS hAB) rfl rfl hl.1 rfl (lv_room (Nat.le_of_ble_eq_true rfl)) dL_undo_1 ⟨Nat.le_of_ble_eq_true rfl, Nat.le_of_ble_eq_true rfl⟩) (fun ce q9 H locs hP hD hS hcell hv hcl => ?_)
      refine vx_catch (name := xname 2) hown [] ⟨0, 4, 5, 15⟩ [] hTab (fun z hz => nomatch hz) (by decide) (by decide) (htB _ kw245) (va_Nw.use rfl hX.2.2.2.2.2) hcell hv hcl ?_
      refine lv_astore_n (lv' := [(1, .ref q9), (0, .ref bh)]) hx hb dL_undo_5 rfl hl (by decide) rfl (fun ls hl => ?_)
      refine lv_bipush (v := -3) hx hb dL_undo_6 (by decide) ?_
      obtain rfl := os h
      exact ret_i hx hb hr hlocks hP hK hD hS dL_undo_8
    · have h := it_n e0 h
      cases h
