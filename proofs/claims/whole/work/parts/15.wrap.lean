/-! the law's wrappers -/
def xW (U : State) : Prop := va_Nc (xname 1) (xname 0) U ∧ va_Nc (xname 2) (xname 1) U
def wPc (D : va_G) (t : Nat → ClassId) (ws : va_W) (sz : Nat) (av : List Value) : Array Value → State → Prop := fun v U => xPc D t ws sz av v U ∧ xW U
theorem wPc_S {D : va_G} {t : Nat → ClassId} {ws : va_W} {av : List Value} {s : State} {H : Heap} {A A0 : Nat → Prop} {locs : List Loc} (hP : va_P D vwCl ws H) (hK : va_K D vwCl (TY t) s) (hD : va_D A ws) (hE : xE s) (hX : xS A0 s s.heap) (hS : va_S A0 s.heap H locs) (hAB : ∀ q, va_A ws H.size q → A0 q) (hW : xW s) : PreS s H (wPc D t ws H.size av) av :=
  ⟨fun a U g mk h => ⟨xPc_blind a U g mk h.1, va_Nc.moved (u := U) (U := U.calling g mk a) (Vm.Alike.refl U.vm) h.2.1, va_Nc.moved (u := U) (U := U.calling g mk a) (Vm.Alike.refl U.vm) h.2.2⟩,
   fun U hU hWm => ⟨(xPc_S hP hK hD hE hX hS hAB).2 U hU hWm, va_Nc.moved hWm.alike hW.1, va_Nc.moved hWm.alike hW.2⟩⟩
theorem met_ofL {l : Launch} {y : MethodName} {ws ws' : List Cond} {rm : Room} {D : va_G} {t : Nat → ClassId} {ww : va_W} {sz mc ms : Nat} {av : List Value} {Qf : (Nat → Prop) → Array Value → State → Outcome → State → Prop} {cc : ByteArray} {maxL : Nat} {ret : Option FieldType} {hh : List (Nat × Nat × Nat × Nat)}
    (hy : plainName y.cls = true) (hw : ws = Cond.codeWith y cc maxL ret hh :: ws') (hn : (lg_sl av).length ≤ maxL)
    (body : ∀ (p : Program) (e : Env) (s : State) (m : MethodId) (args : Array Value) (below : List Frame) (meth : Method) (c : Code) (A : Nat → Prop), p.tables.exec = Jvm.exec → c.code = cc → meth.sig.returnType = ret → c.maxLocals = maxL → (∀ w ∈ ws, w.before args s = true) → s.vm.findClass y.cls = some m.cls → meth.locks = false →
      (∀ q, s.heap.size ≤ q → A q) → va_P D vwCl ww s.heap → va_K D vwCl (TY t) s → va_D A ww → xE s → va_S A s.heap s.heap [] → xS A s s.heap → xW s → c.exceptionTable.toList = tableOf hh → ∀ ls : Array Slot, lv_has ls maxL (lv_args 0 av) →
      W p l e rm s m args below meth c s.heap [] 0 0 (MQ below (Qf A) args s mc ms A) (F0 m 0 ls [])) : Met l y ws rm (wPc D t ww sz av) (Qf (va_A ww sz)) mc ms (va_A ww sz) := by
  refine va_MetW (cc := cc) (maxL := maxL) (ret := ret) (hh := hh) hy hw ?_
  intro p e s m args below meth c s₁ B hml hv
  obtain ⟨⟨⟨rfl, hsz, hP, hK, hD0, hE⟩, hX⟩, hXW⟩ := hv
  subst hsz
  rw [lg_entry_eq]
  exact body p e s m _ below meth c (va_A ww s.heap.size) B.exec B.bytes B.returns hml (atoms_spec (ws := ws) B.pre) (findClass_of_methodNamed B.named) B.notSynchronized (fun q h => Or.inr h) hP hK hD0.self hE va_S.rf hX hXW (vx_table (x := y) B (atoms_spec (ws := ws) B.pre _ (by rw [hw]; exact List.mem_cons_self))) _ (lv_entry av hn)
section WR
variable {p : Program} {l : Launch} {e : Env} {R : Room} {s : State} {m : MethodId} {args : Array Value} {below : List Frame} {meth : Method} {c : Code} {H H0 : Heap} {locs : List Loc} {cells slots : Nat} {Q : State → Prop}
variable {D : va_G} {t : Nat → ClassId} {A : Nat → Prop} {ws wc wc' ws' : va_W} {pc : Nat} {ls : Array Slot} {st0 rest : List Value} {a : Array Value}
/-- a callee throws; the caller looks at its table -/
theorem call_c {E : Nat} (cut : Cut D A ws wc wc ws H) (hS : va_S A H0 H locs)
    (hr : va_P D vwCl wc H → va_D A wc → (∀ q, va_A wc H.size q → A q) → vx_Run p l e R s m args below meth c H locs cells slots 1 6 (F0 m pc ls st0) rest (qX (va_A wc H.size) a) (xC D t wc E (va_A wc H.size)) (va_A wc H.size))
    (kx : ∀ (ce : Cell) (q9 : Nat) (H1 : Heap) (locs1 : List Loc), va_P D vwCl ws H1 → va_D A ws → va_S A H0 H1 locs1 → H1[q9]? = some ce → ce.vm = .none → s.vm.findClass (xname E) = some ce.cls → vx_W p l e R s m args below meth c H1 locs1 (cells + 1) (slots + 6) Q (F0 m pc ls rest) q9) :
    W p l e R s m args below meth c H locs cells slots Q (F0 m pc ls st0) := by
  obtain ⟨hPc, hDc, hfr, hup⟩ := cut
  refine vx_callv (hr hPc hDc hfr) hS (fun q _ h => hfr q h) hfr (fun q _ h => hfr q h) (fun En ce q9 u tt H1 locs1 ht hvm _ hB hz hk hS1 hcell hv hcl => ?_) (fun u tt H1 locs1 ht hvm hf => hf.elim)
  obtain ⟨rfl, hP1, -, -⟩ := hB
  rw [ht] at hP1
  obtain ⟨a2, a3⟩ := hup H1 hk hP1
  exact kx ce q9 H1 locs1 a2 a3 hS1 hcell hv hcl
/-- a wrapper is called: one cell of six slots may come -/
theorem call_w {v : Int32} (cut : Cut D A ws wc wc' ws' H) (hS : va_S A H0 H locs)
    (hr : va_P D vwCl wc H → va_D A wc → (∀ q, va_A wc H.size q → A q) → va_Run p l e R s m args below meth c H locs cells slots 1 6 (F0 m pc ls st0) rest (qI D t wc' v (va_A wc H.size) a) (va_A wc H.size))
    (kk : ∀ (H1 : Heap) (locs1 : List Loc), va_P D vwCl ws' H1 → va_D A ws' → va_S A H0 H1 locs1 → W p l e R s m args below meth c H1 locs1 (cells + 1) (slots + 6) Q (F0 m (pc + 3) ls (.int v :: rest))) : W p l e R s m args below meth c H locs cells slots Q (F0 m pc ls st0) := by
  obtain ⟨hPc, hDc, hfr, hup⟩ := cut
  refine va_calli (hr hPc hDc hfr) hS (fun q _ h => hfr q h) hfr (fun r u tt H1 locs1 ht hvm hw' hB hz hk hS1 => ?_)
  obtain ⟨hP1, -, -⟩ := hB
  rw [ht] at hP1
  obtain ⟨a2, a3⟩ := hup H1 hk hP1
  rw [hw']
  exact kk H1 locs1 a2 a3 hS1
end WR
theorem dL_wind_0 : decode cL_wind 0 = .ok (.aload_n 3, 1) := by decide +kernel
theorem dL_wind_1 : decode cL_wind 1 = .ok (.iconst 0, 1) := by decide +kernel
theorem dL_wind_2 : decode cL_wind 2 = .ok (.aload_n 0, 1) := by decide +kernel
theorem dL_wind_3 : decode cL_wind 3 = .ok (.iload_n 1, 1) := by decide +kernel
theorem dL_wind_4 : decode cL_wind 4 = .ok (.iload_n 2, 1) := by decide +kernel
theorem dL_wind_5 : decode cL_wind 5 = .ok (.invokevirtual 7, 3) := by decide +kernel
theorem dL_wind_8 : decode cL_wind 8 = .ok (.i2l, 1) := by decide +kernel
theorem dL_wind_9 : decode cL_wind 9 = .ok (.lastore, 1) := by decide +kernel
theorem dL_wind_10 : decode cL_wind 10 = .ok (.goto 11, 3) := by decide +kernel
theorem dL_wind_13 : decode cL_wind 13 = .ok (.astore 4, 2) := by decide +kernel
theorem dL_wind_15 : decode cL_wind 15 = .ok (.iconst 1, 1) := by decide +kernel
theorem dL_wind_16 : decode cL_wind 16 = .ok (.ireturn, 1) := by decide +kernel
theorem dL_wind_17 : decode cL_wind 17 = .ok (.astore 4, 2) := by decide +kernel
theorem dL_wind_19 : decode cL_wind 19 = .ok (.iconst 2, 1) := by decide +kernel
theorem dL_wind_20 : decode cL_wind 20 = .ok (.ireturn, 1) := by decide +kernel
theorem dL_wind_21 : decode cL_wind 21 = .ok (.iconst 0, 1) := by decide +kernel
theorem dL_wind_22 : decode cL_wind 22 = .ok (.ireturn, 1) := by decide +kernel
abbrev zL_wind : List Cond := .codeWith yL_wind cL_wind 5 (some .int) [(0, 10, 13, 13), (0, 10, 17, 15)] :: BIG
def fL_wind (bo : BoT) (now : ShT) (sv : (Nat → ShT)) (cu : Int32) (sp : Int32) (o9 : (Nat → Int64)) : Option (Int32 × BoT × ShT × (Nat → ShT) × (Nat → Int64)) := (fX2_wind bo now sv cu sp).bind (fun z => match z with | .inr r => some (0, r.2.1, r.2.2.1, r.2.2.2, vp_updL o9 (Int32.toNatClampNeg 0) (Int32.toInt64 r.1)) | .inl E => if E = 0 then some (1, bo, now, sv, o9) else if E = 1 then some (2, bo, now, sv, o9) else none)
set_option maxHeartbeats 4000000 in
set_option maxRecDepth 100000 in
theorem mtL_wind (l : Launch) (hfl : l.stackTraces = false) (D : va_G) (t : Nat → ClassId) (bh : Nat) (bk : Nat → Nat) (bo : BoT) (nb : Nat → Nat) (now : ShT) (sa : Nat → Nat) (sb : Nat → Nat → Nat) (sv : (Nat → ShT)) (cu : Int32) (sp : Int32) (oa : Nat) (o9 : (Nat → Int64)) (out : Int32 × BoT × ShT × (Nat → ShT) × (Nat → Int64)) (h : fL_wind bo now sv cu sp o9 = some out) (sz : Nat) : Met l yL_wind zL_wind ({ frames := 9, cells := 1, slots := 6, locals := 146 }) (wPc D t (gBo bh bk bo ++ (gS t (bk 0) nb now ++ (gQ t (bk 3) sa ++ (g6 t sa sb sv ++ (gJ t oa o9))))) sz [.ref bh, .int cu, .int sp, .ref oa]) (qI D t (gBo bh bk out.2.1 ++ (gS t (bk 0) nb out.2.2.1 ++ (gQ t (bk 3) sa ++ (g6 t sa sb out.2.2.2.1 ++ (gJ t oa out.2.2.2.2))))) out.1 (va_A (gBo bh bk bo ++ (gS t (bk 0) nb now ++ (gQ t (bk 3) sa ++ (g6 t sa sb sv ++ (gJ t oa o9))))) sz)) 1 6 (va_A (gBo bh bk bo ++ (gS t (bk 0) nb now ++ (gQ t (bk 3) sa ++ (g6 t sa sb sv ++ (gJ t oa o9))))) sz) := by
  refine met_ofL (Qf := fun A => qI D t (gBo bh bk out.2.1 ++ (gS t (bk 0) nb out.2.2.1 ++ (gQ t (bk 3) sa ++ (g6 t sa sb out.2.2.2.1 ++ (gJ t oa out.2.2.2.2))))) out.1 A) (cc := cL_wind) (maxL := 5) (ret := some .int) (hh := [(0, 10, 13, 13), (0, 10, 17, 15)]) (by decide) rfl (Nat.le_of_ble_eq_true rfl) ?_
  intro p e s m args below meth c A hx hb hr hml hts hown hlocks hA hP hK hD hE hS hX hXW hTab ls hl
  have htB : ∀ w ∈ BIG, w.before args s = true := fun w h => hts w (List.mem_cons_of_mem _ h)
  have hown : s.vm.findClass RL = some m.cls := hown
  have hl : lv_has ls 5 [(0, .ref bh), (1, .int cu), (2, .int sp), (3, .ref oa)] := hl
  unfold fL_wind at h
  obtain ⟨z, hz, h⟩ := ob h
  refine lv_aload_n hx hb dL_wind_0 rfl (lv_at hl 3 rfl) ?_
  refine lv_iconst (v := 0) hx hb dL_wind_1 (by decide) ?_
  refine lv_aload_n hx hb dL_wind_2 rfl (lv_at hl 0 rfl) ?_
  refine lv_iload_n hx hb dL_wind_3 rfl (lv_at hl 1 rfl) ?_
  refine lv_iload_n hx hb dL_wind_4 rfl (lv_at hl 2 rfl) ?_
  cases z with
  | inr r =>
    dsimp only at h
    refine call_i (v := r.1) (wc := (gBo bh bk bo ++ (gS t (bk 0) nb now ++ (gQ t (bk 3) sa ++ (g6 t sa sb sv))))) (wc' := (gBo bh bk r.2.1 ++ (gS t (bk 0) nb r.2.2.1 ++ (gQ t (bk 3) sa ++ (g6 t sa sb r.2.2.2))))) (ws' := (gBo bh bk r.2.1 ++ (gS t (bk 0) nb r.2.2.1 ++ (gQ t (bk 3) sa ++ (g6 t sa sb r.2.2.2 ++ (gJ t oa o9)))))) (cutB (bs := [gBo bh bk bo, gS t (bk 0) nb now, gQ t (bk 3) sa, g6 t sa sb sv, gJ t oa o9]) (cs := [gBo bh bk bo, gS t (bk 0) nb now, gQ t (bk 3) sa, g6 t sa sb sv]) (cs' := [gBo bh bk r.2.1, gS t (bk 0) nb r.2.2.1, gQ t (bk 3) sa, g6 t sa sb r.2.2.2]) (bs' := [gBo bh bk r.2.1, gS t (bk 0) nb r.2.2.1, gQ t (bk 3) sa, g6 t sa sb r.2.2.2, gJ t oa o9]) [0, 1, 2, 3] hP hD hS hA rfl rfl rfl rfl) hS (fun hPc hDc => va_runV (As := [.int cu, .int sp]) (rest := [.int 0, .ref oa]) ⟨hx, hb, hml, hown, hts⟩ (mtX2_wind l D t bh bk bo nb now sa sb sv cu sp r hz _) (cwV 2 hts (gBV kw68 kw69 kw70 kw2 kw71) rfl rfl rfl (by decide +kernel) ⟨Nat.le_of_ble_eq_true rfl, Nat.le_of_ble_eq_true rfl⟩) (sPc_V hPc hK hDc hE (va_recv hK hP (ci := 2) (q0 := 0) rfl rfl)) rfl rfl hl.1 rfl (lv_room (Nat.le_of_ble_eq_true rfl)) dL_wind_5 ⟨Nat.zero_le _, Nat.zero_le _⟩) (fun H locs hP hD hS => ?_)
    refine lv_i2l (v := Int32.toInt64 r.1) hx hb dL_wind_8 rfl ?_
    refine va_last hx hb hK hP hD hS 58 2 rfl rfl (pin_in (by decide)) dL_wind_9 (fun H locs hP hD hS => ?_)
    have hP : va_P D vwCl (gBo bh bk r.2.1 ++ (gS t (bk 0) nb r.2.2.1 ++ (gQ t (bk 3) sa ++ (g6 t sa sb r.2.2.2 ++ (gJ t oa (vp_updL o9 (Int32.toNatClampNeg 0) (Int32.toInt64 r.1))))))) H := hP
    have hD : va_D A (gBo bh bk r.2.1 ++ (gS t (bk 0) nb r.2.2.1 ++ (gQ t (bk 3) sa ++ (g6 t sa sb r.2.2.2 ++ (gJ t oa (vp_updL o9 (Int32.toNatClampNeg 0) (Int32.toInt64 r.1))))))) := hD
    refine lv_goto (tgt := 21) hx hb dL_wind_10 (by decide) ?_
    refine lv_iconst (v := 0) hx hb dL_wind_21 (by decide) ?_
    obtain rfl := os h
    refine W.widen (k := 1) (n := 6) (by omega) (by omega) ?_
    exact ret_i hx hb hr hlocks hP hK hD hS dL_wind_22
  | inl E =>
    dsimp only at h
    by_cases e0 : E = 0
    · have h := it_p e0 h
      subst e0
      refine call_c (E := 0) (wc := (gBo bh bk bo ++ (gS t (bk 0) nb now ++ (gQ t (bk 3) sa ++ (g6 t sa sb sv))))) (ws := (gBo bh bk bo ++ (gS t (bk 0) nb now ++ (gQ t (bk 3) sa ++ (g6 t sa sb sv ++ (gJ t oa o9)))))) (cutB (bs := [gBo bh bk bo, gS t (bk 0) nb now, gQ t (bk 3) sa, g6 t sa sb sv, gJ t oa o9]) (cs := [gBo bh bk bo, gS t (bk 0) nb now, gQ t (bk 3) sa, g6 t sa sb sv]) (cs' := [gBo bh bk bo, gS t (bk 0) nb now, gQ t (bk 3) sa, g6 t sa sb sv]) (bs' := [gBo bh bk bo, gS t (bk 0) nb now, gQ t (bk 3) sa, g6 t sa sb sv, gJ t oa o9]) [0, 1, 2, 3] hP hD hS hA rfl rfl rfl rfl) hS (fun hPc hDc hAB => vx_runV (As := [.int cu, .int sp]) (rest := [.int 0, .ref oa]) ⟨hx, hb, hml, hown, hts⟩ (xmX2_wind l hfl D t bh bk bo nb now sa sb sv cu sp 0 hz _) (cwV 2 hts (gBV kw68 kw69 kw70 kw2 kw71) rfl rfl rfl (by decide +kernel) ⟨Nat.le_of_ble_eq_true rfl, Nat.le_of_ble_eq_true rfl⟩) (xPc_V hPc hK hDc hE (va_recv hK hP (ci := 2) (q0 := 0) rfl rfl) hX hS hAB) rfl rfl hl.1 rfl (lv_room (Nat.le_of_ble_eq_true rfl)) dL_wind_5 ⟨Nat.le_of_ble_eq_true rfl, Nat.le_of_ble_eq_true rfl⟩) (fun ce q9 H locs hP hD hS hcell hv hcl => ?_)
      refine vx_catch (name := xname 0) hown [] ⟨0, 10, 13, 13⟩ [⟨0, 10, 17, 15⟩] hTab (fun z hz => nomatch hz) (by decide) (by decide) (htB _ kw66) (va_Nw.use rfl hX.2.2.1.2.2.2) hcell hv hcl ?_
      refine lv_astore (lv' := [(4, .ref q9), (0, .ref bh), (1, .int cu), (2, .int sp), (3, .ref oa)]) hx hb dL_wind_13 hl (by decide) rfl (fun ls hl => ?_)
      refine lv_iconst (v := 1) hx hb dL_wind_15 (by decide) ?_
      obtain rfl := os h
      exact ret_i hx hb hr hlocks hP hK hD hS dL_wind_16
    · have h := it_n e0 h
      by_cases e1 : E = 1
      · have h := it_p e1 h
        subst e1
        refine call_c (E := 1) (wc := (gBo bh bk bo ++ (gS t (bk 0) nb now ++ (gQ t (bk 3) sa ++ (g6 t sa sb sv))))) (ws := (gBo bh bk bo ++ (gS t (bk 0) nb now ++ (gQ t (bk 3) sa ++ (g6 t sa sb sv ++ (gJ t oa o9)))))) (cutB (bs := [gBo bh bk bo, gS t (bk 0) nb now, gQ t (bk 3) sa, g6 t sa sb sv, gJ t oa o9]) (cs := [gBo bh bk bo, gS t (bk 0) nb now, gQ t (bk 3) sa, g6 t sa sb sv]) (cs' := [gBo bh bk bo, gS t (bk 0) nb now, gQ t (bk 3) sa, g6 t sa sb sv]) (bs' := [gBo bh bk bo, gS t (bk 0) nb now, gQ t (bk 3) sa, g6 t sa sb sv, gJ t oa o9]) [0, 1, 2, 3] hP hD hS hA rfl rfl rfl rfl) hS (fun hPc hDc hAB => vx_runV (As := [.int cu, .int sp]) (rest := [.int 0, .ref oa]) ⟨hx, hb, hml, hown, hts⟩ (xmX2_wind l hfl D t bh bk bo nb now sa sb sv cu sp 1 hz _) (cwV 2 hts (gBV kw68 kw69 kw70 kw2 kw71) rfl rfl rfl (by decide +kernel) ⟨Nat.le_of_ble_eq_true rfl, Nat.le_of_ble_eq_true rfl⟩) (xPc_V hPc hK hDc hE (va_recv hK hP (ci := 2) (q0 := 0) rfl rfl) hX hS hAB) rfl rfl hl.1 rfl (lv_room (Nat.le_of_ble_eq_true rfl)) dL_wind_5 ⟨Nat.le_of_ble_eq_true rfl, Nat.le_of_ble_eq_true rfl⟩) (fun ce q9 H locs hP hD hS hcell hv hcl => ?_)
        refine vx_catch (name := xname 1) hown [⟨0, 10, 13, 13⟩] ⟨0, 10, 17, 15⟩ [] hTab (fun z hz => by rcases List.mem_cons.mp hz with rfl | hz; exact Or.inr ⟨by decide, _, (htB _ kw66), hXW.1⟩; cases hz) (by decide) (by decide) (htB _ kw67) (va_Nw.use rfl hX.2.2.2.1.2.2.2) hcell hv hcl ?_
        refine lv_astore (lv' := [(4, .ref q9), (0, .ref bh), (1, .int cu), (2, .int sp), (3, .ref oa)]) hx hb dL_wind_17 hl (by decide) rfl (fun ls hl => ?_)
        refine lv_iconst (v := 2) hx hb dL_wind_19 (by decide) ?_
        obtain rfl := os h
        exact ret_i hx hb hr hlocks hP hK hD hS dL_wind_20
      · have h := it_n e1 h
        cases h

theorem dL_drag_0 : decode cL_drag 0 = .ok (.aload 5, 2) := by decide +kernel
theorem dL_drag_2 : decode cL_drag 2 = .ok (.iconst 0, 1) := by decide +kernel
theorem dL_drag_3 : decode cL_drag 3 = .ok (.aload_n 0, 1) := by decide +kernel
theorem dL_drag_4 : decode cL_drag 4 = .ok (.iload_n 1, 1) := by decide +kernel
theorem dL_drag_5 : decode cL_drag 5 = .ok (.iload_n 2, 1) := by decide +kernel
theorem dL_drag_6 : decode cL_drag 6 = .ok (.iload_n 3, 1) := by decide +kernel
theorem dL_drag_7 : decode cL_drag 7 = .ok (.iload 4, 2) := by decide +kernel
theorem dL_drag_9 : decode cL_drag 9 = .ok (.invokevirtual 17, 3) := by decide +kernel
theorem dL_drag_12 : decode cL_drag 12 = .ok (.i2l, 1) := by decide +kernel
theorem dL_drag_13 : decode cL_drag 13 = .ok (.lastore, 1) := by decide +kernel
theorem dL_drag_14 : decode cL_drag 14 = .ok (.goto 11, 3) := by decide +kernel
theorem dL_drag_17 : decode cL_drag 17 = .ok (.astore 6, 2) := by decide +kernel
theorem dL_drag_19 : decode cL_drag 19 = .ok (.iconst 1, 1) := by decide +kernel
theorem dL_drag_20 : decode cL_drag 20 = .ok (.ireturn, 1) := by decide +kernel
theorem dL_drag_21 : decode cL_drag 21 = .ok (.astore 6, 2) := by decide +kernel
theorem dL_drag_23 : decode cL_drag 23 = .ok (.iconst 2, 1) := by decide +kernel
theorem dL_drag_24 : decode cL_drag 24 = .ok (.ireturn, 1) := by decide +kernel
theorem dL_drag_25 : decode cL_drag 25 = .ok (.iconst 0, 1) := by decide +kernel
theorem dL_drag_26 : decode cL_drag 26 = .ok (.ireturn, 1) := by decide +kernel
abbrev zL_drag : List Cond := .codeWith yL_drag cL_drag 7 (some .int) [(0, 14, 17, 13), (0, 14, 21, 15)] :: BIG
def fL_drag (bo : BoT) (now : ShT) (sv : (Nat → ShT)) (cu : Int32) (k1 : Int32) (k2 : Int32) (dr : Int32) (o9 : (Nat → Int64)) : Option (Int32 × BoT × ShT × (Nat → ShT) × (Nat → Int64)) := (fX2_drag bo now sv cu k1 k2 dr).bind (fun z => match z with | .inr r => some (0, r.2.1, r.2.2.1, r.2.2.2, vp_updL o9 (Int32.toNatClampNeg 0) (Int32.toInt64 r.1)) | .inl E => if E = 0 then some (1, bo, now, sv, o9) else if E = 1 then some (2, bo, now, sv, o9) else none)
set_option maxHeartbeats 4000000 in
set_option maxRecDepth 100000 in
theorem mtL_drag (l : Launch) (hfl : l.stackTraces = false) (D : va_G) (t : Nat → ClassId) (bh : Nat) (bk : Nat → Nat) (bo : BoT) (nb : Nat → Nat) (now : ShT) (sa : Nat → Nat) (sb : Nat → Nat → Nat) (sv : (Nat → ShT)) (cu : Int32) (k1 : Int32) (k2 : Int32) (dr : Int32) (oa : Nat) (o9 : (Nat → Int64)) (out : Int32 × BoT × ShT × (Nat → ShT) × (Nat → Int64)) (h : fL_drag bo now sv cu k1 k2 dr o9 = some out) (sz : Nat) : Met l yL_drag zL_drag ({ frames := 9, cells := 1, slots := 6, locals := 150 }) (wPc D t (gBo bh bk bo ++ (gS t (bk 0) nb now ++ (gQ t (bk 3) sa ++ (g6 t sa sb sv ++ (gJ t oa o9))))) sz [.ref bh, .int cu, .int k1, .int k2, .int dr, .ref oa]) (qI D t (gBo bh bk out.2.1 ++ (gS t (bk 0) nb out.2.2.1 ++ (gQ t (bk 3) sa ++ (g6 t sa sb out.2.2.2.1 ++ (gJ t oa out.2.2.2.2))))) out.1 (va_A (gBo bh bk bo ++ (gS t (bk 0) nb now ++ (gQ t (bk 3) sa ++ (g6 t sa sb sv ++ (gJ t oa o9))))) sz)) 1 6 (va_A (gBo bh bk bo ++ (gS t (bk 0) nb now ++ (gQ t (bk 3) sa ++ (g6 t sa sb sv ++ (gJ t oa o9))))) sz) := by
  refine met_ofL (Qf := fun A => qI D t (gBo bh bk out.2.1 ++ (gS t (bk 0) nb out.2.2.1 ++ (gQ t (bk 3) sa ++ (g6 t sa sb out.2.2.2.1 ++ (gJ t oa out.2.2.2.2))))) out.1 A) (cc := cL_drag) (maxL := 7) (ret := some .int) (hh := [(0, 14, 17, 13), (0, 14, 21, 15)]) (by decide) rfl (Nat.le_of_ble_eq_true rfl) ?_
  intro p e s m args below meth c A hx hb hr hml hts hown hlocks hA hP hK hD hE hS hX hXW hTab ls hl
  have htB : ∀ w ∈ BIG, w.before args s = true := fun w h => hts w (List.mem_cons_of_mem _ h)
  have hown : s.vm.findClass RL = some m.cls := hown
  have hl : lv_has ls 7 [(0, .ref bh), (1, .int cu), (2, .int k1), (3, .int k2), (4, .int dr), (5, .ref oa)] := hl
  unfold fL_drag at h
  obtain ⟨z, hz, h⟩ := ob h
  refine lv_aload hx hb dL_drag_0 (lv_at hl 5 rfl) ?_
  refine lv_iconst (v := 0) hx hb dL_drag_2 (by decide) ?_
  refine lv_aload_n hx hb dL_drag_3 rfl (lv_at hl 0 rfl) ?_
  refine lv_iload_n hx hb dL_drag_4 rfl (lv_at hl 1 rfl) ?_
  refine lv_iload_n hx hb dL_drag_5 rfl (lv_at hl 2 rfl) ?_
  refine lv_iload_n hx hb dL_drag_6 rfl (lv_at hl 3 rfl) ?_
  refine lv_iload hx hb dL_drag_7 (lv_at hl 4 rfl) ?_
  cases z with
  | inr r =>
    dsimp only at h
    refine call_i (v := r.1) (wc := (gBo bh bk bo ++ (gS t (bk 0) nb now ++ (gQ t (bk 3) sa ++ (g6 t sa sb sv))))) (wc' := (gBo bh bk r.2.1 ++ (gS t (bk 0) nb r.2.2.1 ++ (gQ t (bk 3) sa ++ (g6 t sa sb r.2.2.2))))) (ws' := (gBo bh bk r.2.1 ++ (gS t (bk 0) nb r.2.2.1 ++ (gQ t (bk 3) sa ++ (g6 t sa sb r.2.2.2 ++ (gJ t oa o9)))))) (cutB (bs := [gBo bh bk bo, gS t (bk 0) nb now, gQ t (bk 3) sa, g6 t sa sb sv, gJ t oa o9]) (cs := [gBo bh bk bo, gS t (bk 0) nb now, gQ t (bk 3) sa, g6 t sa sb sv]) (cs' := [gBo bh bk r.2.1, gS t (bk 0) nb r.2.2.1, gQ t (bk 3) sa, g6 t sa sb r.2.2.2]) (bs' := [gBo bh bk r.2.1, gS t (bk 0) nb r.2.2.1, gQ t (bk 3) sa, g6 t sa sb r.2.2.2, gJ t oa o9]) [0, 1, 2, 3] hP hD hS hA rfl rfl rfl rfl) hS (fun hPc hDc => va_runV (As := [.int cu, .int k1, .int k2, .int dr]) (rest := [.int 0, .ref oa]) ⟨hx, hb, hml, hown, hts⟩ (mtX2_drag l D t bh bk bo nb now sa sb sv cu k1 k2 dr r hz _) (cwV 4 hts (gBV kw144 kw145 kw146 kw2 kw147) rfl rfl rfl (by decide +kernel) ⟨Nat.le_of_ble_eq_true rfl, Nat.le_of_ble_eq_true rfl⟩) (sPc_V hPc hK hDc hE (va_recv hK hP (ci := 2) (q0 := 0) rfl rfl)) rfl rfl hl.1 rfl (lv_room (Nat.le_of_ble_eq_true rfl)) dL_drag_9 ⟨Nat.zero_le _, Nat.zero_le _⟩) (fun H locs hP hD hS => ?_)
    refine lv_i2l (v := Int32.toInt64 r.1) hx hb dL_drag_12 rfl ?_
    refine va_last hx hb hK hP hD hS 58 2 rfl rfl (pin_in (by decide)) dL_drag_13 (fun H locs hP hD hS => ?_)
    have hP : va_P D vwCl (gBo bh bk r.2.1 ++ (gS t (bk 0) nb r.2.2.1 ++ (gQ t (bk 3) sa ++ (g6 t sa sb r.2.2.2 ++ (gJ t oa (vp_updL o9 (Int32.toNatClampNeg 0) (Int32.toInt64 r.1))))))) H := hP
    have hD : va_D A (gBo bh bk r.2.1 ++ (gS t (bk 0) nb r.2.2.1 ++ (gQ t (bk 3) sa ++ (g6 t sa sb r.2.2.2 ++ (gJ t oa (vp_updL o9 (Int32.toNatClampNeg 0) (Int32.toInt64 r.1))))))) := hD
    refine lv_goto (tgt := 25) hx hb dL_drag_14 (by decide) ?_
    refine lv_iconst (v := 0) hx hb dL_drag_25 (by decide) ?_
    obtain rfl := os h
    refine W.widen (k := 1) (n := 6) (by omega) (by omega) ?_
    exact ret_i hx hb hr hlocks hP hK hD hS dL_drag_26
  | inl E =>
    dsimp only at h
    by_cases e0 : E = 0
    · have h := it_p e0 h
      subst e0
      refine call_c (E := 0) (wc := (gBo bh bk bo ++ (gS t (bk 0) nb now ++ (gQ t (bk 3) sa ++ (g6 t sa sb sv))))) (ws := (gBo bh bk bo ++ (gS t (bk 0) nb now ++ (gQ t (bk 3) sa ++ (g6 t sa sb sv ++ (gJ t oa o9)))))) (cutB (bs := [gBo bh bk bo, gS t (bk 0) nb now, gQ t (bk 3) sa, g6 t sa sb sv, gJ t oa o9]) (cs := [gBo bh bk bo, gS t (bk 0) nb now, gQ t (bk 3) sa, g6 t sa sb sv]) (cs' := [gBo bh bk bo, gS t (bk 0) nb now, gQ t (bk 3) sa, g6 t sa sb sv]) (bs' := [gBo bh bk bo, gS t (bk 0) nb now, gQ t (bk 3) sa, g6 t sa sb sv, gJ t oa o9]) [0, 1, 2, 3] hP hD hS hA rfl rfl rfl rfl) hS (fun hPc hDc hAB => vx_runV (As := [.int cu, .int k1, .int k2, .int dr]) (rest := [.int 0, .ref oa]) ⟨hx, hb, hml, hown, hts⟩ (xmX2_drag l hfl D t bh bk bo nb now sa sb sv cu k1 k2 dr 0 hz _) (cwV 4 hts (gBV kw144 kw145 kw146 kw2 kw147) rfl rfl rfl (by decide +kernel) ⟨Nat.le_of_ble_eq_true rfl, Nat.le_of_ble_eq_true rfl⟩) (xPc_V hPc hK hDc hE (va_recv hK hP (ci := 2) (q0 := 0) rfl rfl) hX hS hAB) rfl rfl hl.1 rfl (lv_room (Nat.le_of_ble_eq_true rfl)) dL_drag_9 ⟨Nat.le_of_ble_eq_true rfl, Nat.le_of_ble_eq_true rfl⟩) (fun ce q9 H locs hP hD hS hcell hv hcl => ?_)
      refine vx_catch (name := xname 0) hown [] ⟨0, 14, 17, 13⟩ [⟨0, 14, 21, 15⟩] hTab (fun z hz => nomatch hz) (by decide) (by decide) (htB _ kw66) (va_Nw.use rfl hX.2.2.1.2.2.2) hcell hv hcl ?_
      refine lv_astore (lv' := [(6, .ref q9), (0, .ref bh), (1, .int cu), (2, .int k1), (3, .int k2), (4, .int dr), (5, .ref oa)]) hx hb dL_drag_17 hl (by decide) rfl (fun ls hl => ?_)
      refine lv_iconst (v := 1) hx hb dL_drag_19 (by decide) ?_
      obtain rfl := os h
      exact ret_i hx hb hr hlocks hP hK hD hS dL_drag_20
    · have h := it_n e0 h
      by_cases e1 : E = 1
      · have h := it_p e1 h
        subst e1
        refine call_c (E := 1) (wc := (gBo bh bk bo ++ (gS t (bk 0) nb now ++ (gQ t (bk 3) sa ++ (g6 t sa sb sv))))) (ws := (gBo bh bk bo ++ (gS t (bk 0) nb now ++ (gQ t (bk 3) sa ++ (g6 t sa sb sv ++ (gJ t oa o9)))))) (cutB (bs := [gBo bh bk bo, gS t (bk 0) nb now, gQ t (bk 3) sa, g6 t sa sb sv, gJ t oa o9]) (cs := [gBo bh bk bo, gS t (bk 0) nb now, gQ t (bk 3) sa, g6 t sa sb sv]) (cs' := [gBo bh bk bo, gS t (bk 0) nb now, gQ t (bk 3) sa, g6 t sa sb sv]) (bs' := [gBo bh bk bo, gS t (bk 0) nb now, gQ t (bk 3) sa, g6 t sa sb sv, gJ t oa o9]) [0, 1, 2, 3] hP hD hS hA rfl rfl rfl rfl) hS (fun hPc hDc hAB => vx_runV (As := [.int cu, .int k1, .int k2, .int dr]) (rest := [.int 0, .ref oa]) ⟨hx, hb, hml, hown, hts⟩ (xmX2_drag l hfl D t bh bk bo nb now sa sb sv cu k1 k2 dr 1 hz _) (cwV 4 hts (gBV kw144 kw145 kw146 kw2 kw147) rfl rfl rfl (by decide +kernel) ⟨Nat.le_of_ble_eq_true rfl, Nat.le_of_ble_eq_true rfl⟩) (xPc_V hPc hK hDc hE (va_recv hK hP (ci := 2) (q0 := 0) rfl rfl) hX hS hAB) rfl rfl hl.1 rfl (lv_room (Nat.le_of_ble_eq_true rfl)) dL_drag_9 ⟨Nat.le_of_ble_eq_true rfl, Nat.le_of_ble_eq_true rfl⟩) (fun ce q9 H locs hP hD hS hcell hv hcl => ?_)
        refine vx_catch (name := xname 1) hown [⟨0, 14, 17, 13⟩] ⟨0, 14, 21, 15⟩ [] hTab (fun z hz => by rcases List.mem_cons.mp hz with rfl | hz; exact Or.inr ⟨by decide, _, (htB _ kw66), hXW.1⟩; cases hz) (by decide) (by decide) (htB _ kw67) (va_Nw.use rfl hX.2.2.2.1.2.2.2) hcell hv hcl ?_
        refine lv_astore (lv' := [(6, .ref q9), (0, .ref bh), (1, .int cu), (2, .int k1), (3, .int k2), (4, .int dr), (5, .ref oa)]) hx hb dL_drag_21 hl (by decide) rfl (fun ls hl => ?_)
        refine lv_iconst (v := 2) hx hb dL_drag_23 (by decide) ?_
        obtain rfl := os h
        exact ret_i hx hb hr hlocks hP hK hD hS dL_drag_24
      · have h := it_n e1 h
        cases h

theorem dL_clean_0 : decode cL_clean 0 = .ok (.aload_n 2, 1) := by decide +kernel
theorem dL_clean_1 : decode cL_clean 1 = .ok (.iconst 0, 1) := by decide +kernel
theorem dL_clean_2 : decode cL_clean 2 = .ok (.aload_n 0, 1) := by decide +kernel
theorem dL_clean_3 : decode cL_clean 3 = .ok (.iload_n 1, 1) := by decide +kernel
theorem dL_clean_4 : decode cL_clean 4 = .ok (.invokevirtual 21, 3) := by decide +kernel
theorem dL_clean_7 : decode cL_clean 7 = .ok (.i2l, 1) := by decide +kernel
theorem dL_clean_8 : decode cL_clean 8 = .ok (.lastore, 1) := by decide +kernel
theorem dL_clean_9 : decode cL_clean 9 = .ok (.goto 6, 3) := by decide +kernel
theorem dL_clean_12 : decode cL_clean 12 = .ok (.astore_n 3, 1) := by decide +kernel
theorem dL_clean_13 : decode cL_clean 13 = .ok (.iconst 1, 1) := by decide +kernel
theorem dL_clean_14 : decode cL_clean 14 = .ok (.ireturn, 1) := by decide +kernel
theorem dL_clean_15 : decode cL_clean 15 = .ok (.iconst 0, 1) := by decide +kernel
theorem dL_clean_16 : decode cL_clean 16 = .ok (.ireturn, 1) := by decide +kernel
abbrev zL_clean : List Cond := .codeWith yL_clean cL_clean 4 (some .int) [(0, 9, 12, 13)] :: BIG
def fL_clean (bo : BoT) (now : ShT) (sv : (Nat → ShT)) (cu : Int32) (o9 : (Nat → Int64)) : Option (Int32 × BoT × ShT × (Nat → ShT) × (Nat → Int64)) := (fX2_clean bo now sv cu).bind (fun z => match z with | .inr r => some (0, r.2.1, r.2.2.1, r.2.2.2, vp_updL o9 (Int32.toNatClampNeg 0) (Int32.toInt64 r.1)) | .inl E => if E = 0 then some (1, bo, now, sv, o9) else none)
set_option maxHeartbeats 4000000 in
set_option maxRecDepth 100000 in
theorem mtL_clean (l : Launch) (hfl : l.stackTraces = false) (D : va_G) (t : Nat → ClassId) (bh : Nat) (bk : Nat → Nat) (bo : BoT) (nb : Nat → Nat) (now : ShT) (sa : Nat → Nat) (sb : Nat → Nat → Nat) (sv : (Nat → ShT)) (cu : Int32) (oa : Nat) (o9 : (Nat → Int64)) (out : Int32 × BoT × ShT × (Nat → ShT) × (Nat → Int64)) (h : fL_clean bo now sv cu o9 = some out) (sz : Nat) : Met l yL_clean zL_clean ({ frames := 9, cells := 1, slots := 6, locals := 145 }) (wPc D t (gBo bh bk bo ++ (gS t (bk 0) nb now ++ (gQ t (bk 3) sa ++ (g6 t sa sb sv ++ (gJ t oa o9))))) sz [.ref bh, .int cu, .ref oa]) (qI D t (gBo bh bk out.2.1 ++ (gS t (bk 0) nb out.2.2.1 ++ (gQ t (bk 3) sa ++ (g6 t sa sb out.2.2.2.1 ++ (gJ t oa out.2.2.2.2))))) out.1 (va_A (gBo bh bk bo ++ (gS t (bk 0) nb now ++ (gQ t (bk 3) sa ++ (g6 t sa sb sv ++ (gJ t oa o9))))) sz)) 1 6 (va_A (gBo bh bk bo ++ (gS t (bk 0) nb now ++ (gQ t (bk 3) sa ++ (g6 t sa sb sv ++ (gJ t oa o9))))) sz) := by
  refine met_ofL (Qf := fun A => qI D t (gBo bh bk out.2.1 ++ (gS t (bk 0) nb out.2.2.1 ++ (gQ t (bk 3) sa ++ (g6 t sa sb out.2.2.2.1 ++ (gJ t oa out.2.2.2.2))))) out.1 A) (cc := cL_clean) (maxL := 4) (ret := some .int) (hh := [(0, 9, 12, 13)]) (by decide) rfl (Nat.le_of_ble_eq_true rfl) ?_
  intro p e s m args below meth c A hx hb hr hml hts hown hlocks hA hP hK hD hE hS hX hXW hTab ls hl
  have htB : ∀ w ∈ BIG, w.before args s = true := fun w h => hts w (List.mem_cons_of_mem _ h)
  have hown : s.vm.findClass RL = some m.cls := hown
  have hl : lv_has ls 4 [(0, .ref bh), (1, .int cu), (2, .ref oa)] := hl
  unfold fL_clean at h
  obtain ⟨z, hz, h⟩ := ob h
  refine lv_aload_n hx hb dL_clean_0 rfl (lv_at hl 2 rfl) ?_
  refine lv_iconst (v := 0) hx hb dL_clean_1 (by decide) ?_
  refine lv_aload_n hx hb dL_clean_2 rfl (lv_at hl 0 rfl) ?_
  refine lv_iload_n hx hb dL_clean_3 rfl (lv_at hl 1 rfl) ?_
  cases z with
  | inr r =>
    dsimp only at h
    refine call_i (v := r.1) (wc := (gBo bh bk bo ++ (gS t (bk 0) nb now ++ (gQ t (bk 3) sa ++ (g6 t sa sb sv))))) (wc' := (gBo bh bk r.2.1 ++ (gS t (bk 0) nb r.2.2.1 ++ (gQ t (bk 3) sa ++ (g6 t sa sb r.2.2.2))))) (ws' := (gBo bh bk r.2.1 ++ (gS t (bk 0) nb r.2.2.1 ++ (gQ t (bk 3) sa ++ (g6 t sa sb r.2.2.2 ++ (gJ t oa o9)))))) (cutB (bs := [gBo bh bk bo, gS t (bk 0) nb now, gQ t (bk 3) sa, g6 t sa sb sv, gJ t oa o9]) (cs := [gBo bh bk bo, gS t (bk 0) nb now, gQ t (bk 3) sa, g6 t sa sb sv]) (cs' := [gBo bh bk r.2.1, gS t (bk 0) nb r.2.2.1, gQ t (bk 3) sa, g6 t sa sb r.2.2.2]) (bs' := [gBo bh bk r.2.1, gS t (bk 0) nb r.2.2.1, gQ t (bk 3) sa, g6 t sa sb r.2.2.2, gJ t oa o9]) [0, 1, 2, 3] hP hD hS hA rfl rfl rfl rfl) hS (fun hPc hDc => va_runV (As := [.int cu]) (rest := [.int 0, .ref oa]) ⟨hx, hb, hml, hown, hts⟩ (mtX2_clean l D t bh bk bo nb now sa sb sv cu r hz _) (cwV 1 hts (gBV kw162 kw163 kw164 kw2 kw165) rfl rfl rfl (by decide +kernel) ⟨Nat.le_of_ble_eq_true rfl, Nat.le_of_ble_eq_true rfl⟩) (sPc_V hPc hK hDc hE (va_recv hK hP (ci := 2) (q0 := 0) rfl rfl)) rfl rfl hl.1 rfl (lv_room (Nat.le_of_ble_eq_true rfl)) dL_clean_4 ⟨Nat.zero_le _, Nat.zero_le _⟩) (fun H locs hP hD hS => ?_)
    refine lv_i2l (v := Int32.toInt64 r.1) hx hb dL_clean_7 rfl ?_
    refine va_last hx hb hK hP hD hS 58 2 rfl rfl (pin_in (by decide)) dL_clean_8 (fun H locs hP hD hS => ?_)
    have hP : va_P D vwCl (gBo bh bk r.2.1 ++ (gS t (bk 0) nb r.2.2.1 ++ (gQ t (bk 3) sa ++ (g6 t sa sb r.2.2.2 ++ (gJ t oa (vp_updL o9 (Int32.toNatClampNeg 0) (Int32.toInt64 r.1))))))) H := hP
    have hD : va_D A (gBo bh bk r.2.1 ++ (gS t (bk 0) nb r.2.2.1 ++ (gQ t (bk 3) sa ++ (g6 t sa sb r.2.2.2 ++ (gJ t oa (vp_updL o9 (Int32.toNatClampNeg 0) (Int32.toInt64 r.1))))))) := hD
    refine lv_goto (tgt := 15) hx hb dL_clean_9 (by decide) ?_
    refine lv_iconst (v := 0) hx hb dL_clean_15 (by decide) ?_
    obtain rfl := os h
    refine W.widen (k := 1) (n := 6) (by omega) (by omega) ?_
    exact ret_i hx hb hr hlocks hP hK hD hS dL_clean_16
  | inl E =>
    dsimp only at h
    by_cases e0 : E = 0
    · have h := it_p e0 h
      subst e0
      refine call_c (E := 0) (wc := (gBo bh bk bo ++ (gS t (bk 0) nb now ++ (gQ t (bk 3) sa ++ (g6 t sa sb sv))))) (ws := (gBo bh bk bo ++ (gS t (bk 0) nb now ++ (gQ t (bk 3) sa ++ (g6 t sa sb sv ++ (gJ t oa o9)))))) (cutB (bs := [gBo bh bk bo, gS t (bk 0) nb now, gQ t (bk 3) sa, g6 t sa sb sv, gJ t oa o9]) (cs := [gBo bh bk bo, gS t (bk 0) nb now, gQ t (bk 3) sa, g6 t sa sb sv]) (cs' := [gBo bh bk bo, gS t (bk 0) nb now, gQ t (bk 3) sa, g6 t sa sb sv]) (bs' := [gBo bh bk bo, gS t (bk 0) nb now, gQ t (bk 3) sa, g6 t sa sb sv, gJ t oa o9]) [0, 1, 2, 3] hP hD hS hA rfl rfl rfl rfl) hS (fun hPc hDc hAB => vx_runV (As := [.int cu]) (rest := [.int 0, .ref oa]) ⟨hx, hb, hml, hown, hts⟩ (xmX2_clean l hfl D t bh bk bo nb now sa sb sv cu 0 hz _) (cwV 1 hts (gBV kw162 kw163 kw164 kw2 kw165) rfl rfl rfl (by decide +kernel) ⟨Nat.le_of_ble_eq_true rfl, Nat.le_of_ble_eq_true rfl⟩) (xPc_V hPc hK hDc hE (va_recv hK hP (ci := 2) (q0 := 0) rfl rfl) hX hS hAB) rfl rfl hl.1 rfl (lv_room (Nat.le_of_ble_eq_true rfl)) dL_clean_4 ⟨Nat.le_of_ble_eq_true rfl, Nat.le_of_ble_eq_true rfl⟩) (fun ce q9 H locs hP hD hS hcell hv hcl => ?_)
      refine vx_catch (name := xname 0) hown [] ⟨0, 9, 12, 13⟩ [] hTab (fun z hz => nomatch hz) (by decide) (by decide) (htB _ kw66) (va_Nw.use rfl hX.2.2.1.2.2.2) hcell hv hcl ?_
      refine lv_astore_n (lv' := [(3, .ref q9), (0, .ref bh), (1, .int cu), (2, .ref oa)]) hx hb dL_clean_12 rfl hl (by decide) rfl (fun ls hl => ?_)
      refine lv_iconst (v := 1) hx hb dL_clean_13 (by decide) ?_
      obtain rfl := os h
      exact ret_i hx hb hr hlocks hP hK hD hS dL_clean_14
    · have h := it_n e0 h
      cases h

theorem dL_correct_0 : decode cL_correct 0 = .ok (.aload_n 3, 1) := by decide +kernel
theorem dL_correct_1 : decode cL_correct 1 = .ok (.iconst 0, 1) := by decide +kernel
theorem dL_correct_2 : decode cL_correct 2 = .ok (.aload_n 0, 1) := by decide +kernel
theorem dL_correct_3 : decode cL_correct 3 = .ok (.iload_n 1, 1) := by decide +kernel
theorem dL_correct_4 : decode cL_correct 4 = .ok (.iload_n 2, 1) := by decide +kernel
theorem dL_correct_5 : decode cL_correct 5 = .ok (.invokevirtual 25, 3) := by decide +kernel
theorem dL_correct_8 : decode cL_correct 8 = .ok (.i2l, 1) := by decide +kernel
theorem dL_correct_9 : decode cL_correct 9 = .ok (.lastore, 1) := by decide +kernel
theorem dL_correct_10 : decode cL_correct 10 = .ok (.goto 11, 3) := by decide +kernel
theorem dL_correct_13 : decode cL_correct 13 = .ok (.astore 4, 2) := by decide +kernel
theorem dL_correct_15 : decode cL_correct 15 = .ok (.iconst 1, 1) := by decide +kernel
theorem dL_correct_16 : decode cL_correct 16 = .ok (.ireturn, 1) := by decide +kernel
theorem dL_correct_17 : decode cL_correct 17 = .ok (.astore 4, 2) := by decide +kernel
theorem dL_correct_19 : decode cL_correct 19 = .ok (.iconst 2, 1) := by decide +kernel
theorem dL_correct_20 : decode cL_correct 20 = .ok (.ireturn, 1) := by decide +kernel
theorem dL_correct_21 : decode cL_correct 21 = .ok (.iconst 0, 1) := by decide +kernel
theorem dL_correct_22 : decode cL_correct 22 = .ok (.ireturn, 1) := by decide +kernel
abbrev zL_correct : List Cond := .codeWith yL_correct cL_correct 5 (some .int) [(0, 10, 13, 13), (0, 10, 17, 15)] :: BIG
def fL_correct (bo : BoT) (now : ShT) (sv : (Nat → ShT)) (v : Int32) (w : Int32) (o9 : (Nat → Int64)) : Option (Int32 × BoT × ShT × (Nat → ShT) × (Nat → Int64)) := (fX2_correct bo now sv v w).bind (fun z => match z with | .inr r => some (0, r.2.1, r.2.2.1, r.2.2.2, vp_updL o9 (Int32.toNatClampNeg 0) (Int32.toInt64 r.1)) | .inl E => if E = 0 then some (1, bo, now, sv, o9) else if E = 1 then some (2, bo, now, sv, o9) else none)
set_option maxHeartbeats 4000000 in
set_option maxRecDepth 100000 in
theorem mtL_correct (l : Launch) (hfl : l.stackTraces = false) (D : va_G) (t : Nat → ClassId) (bh : Nat) (bk : Nat → Nat) (bo : BoT) (nb : Nat → Nat) (now : ShT) (sa : Nat → Nat) (sb : Nat → Nat → Nat) (sv : (Nat → ShT)) (v : Int32) (w : Int32) (oa : Nat) (o9 : (Nat → Int64)) (out : Int32 × BoT × ShT × (Nat → ShT) × (Nat → Int64)) (h : fL_correct bo now sv v w o9 = some out) (sz : Nat) : Met l yL_correct zL_correct ({ frames := 9, cells := 1, slots := 6, locals := 146 }) (wPc D t (gBo bh bk bo ++ (gS t (bk 0) nb now ++ (gQ t (bk 3) sa ++ (g6 t sa sb sv ++ (gJ t oa o9))))) sz [.ref bh, .int v, .int w, .ref oa]) (qI D t (gBo bh bk out.2.1 ++ (gS t (bk 0) nb out.2.2.1 ++ (gQ t (bk 3) sa ++ (g6 t sa sb out.2.2.2.1 ++ (gJ t oa out.2.2.2.2))))) out.1 (va_A (gBo bh bk bo ++ (gS t (bk 0) nb now ++ (gQ t (bk 3) sa ++ (g6 t sa sb sv ++ (gJ t oa o9))))) sz)) 1 6 (va_A (gBo bh bk bo ++ (gS t (bk 0) nb now ++ (gQ t (bk 3) sa ++ (g6 t sa sb sv ++ (gJ t oa o9))))) sz) := by
  refine met_ofL (Qf := fun A => qI D t (gBo bh bk out.2.1 ++ (gS t (bk 0) nb out.2.2.1 ++ (gQ t (bk 3) sa ++ (g6 t sa sb out.2.2.2.1 ++ (gJ t oa out.2.2.2.2))))) out.1 A) (cc := cL_correct) (maxL := 5) (ret := some .int) (hh := [(0, 10, 13, 13), (0, 10, 17, 15)]) (by decide) rfl (Nat.le_of_ble_eq_true rfl) ?_
  intro p e s m args below meth c A hx hb hr hml hts hown hlocks hA hP hK hD hE hS hX hXW hTab ls hl
  have htB : ∀ w ∈ BIG, w.before args s = true := fun w h => hts w (List.mem_cons_of_mem _ h)
  have hown : s.vm.findClass RL = some m.cls := hown
  have hl : lv_has ls 5 [(0, .ref bh), (1, .int v), (2, .int w), (3, .ref oa)] := hl
  unfold fL_correct at h
  obtain ⟨z, hz, h⟩ := ob h
  refine lv_aload_n hx hb dL_correct_0 rfl (lv_at hl 3 rfl) ?_
  refine lv_iconst (v := 0) hx hb dL_correct_1 (by decide) ?_
  refine lv_aload_n hx hb dL_correct_2 rfl (lv_at hl 0 rfl) ?_
  refine lv_iload_n hx hb dL_correct_3 rfl (lv_at hl 1 rfl) ?_
  refine lv_iload_n hx hb dL_correct_4 rfl (lv_at hl 2 rfl) ?_
  cases z with
  | inr r =>
    dsimp only at h
    refine call_i (v := r.1) (wc := (gBo bh bk bo ++ (gS t (bk 0) nb now ++ (gQ t (bk 3) sa ++ (g6 t sa sb sv))))) (wc' := (gBo bh bk r.2.1 ++ (gS t (bk 0) nb r.2.2.1 ++ (gQ t (bk 3) sa ++ (g6 t sa sb r.2.2.2))))) (ws' := (gBo bh bk r.2.1 ++ (gS t (bk 0) nb r.2.2.1 ++ (gQ t (bk 3) sa ++ (g6 t sa sb r.2.2.2 ++ (gJ t oa o9)))))) (cutB (bs := [gBo bh bk bo, gS t (bk 0) nb now, gQ t (bk 3) sa, g6 t sa sb sv, gJ t oa o9]) (cs := [gBo bh bk bo, gS t (bk 0) nb now, gQ t (bk 3) sa, g6 t sa sb sv]) (cs' := [gBo bh bk r.2.1, gS t (bk 0) nb r.2.2.1, gQ t (bk 3) sa, g6 t sa sb r.2.2.2]) (bs' := [gBo bh bk r.2.1, gS t (bk 0) nb r.2.2.1, gQ t (bk 3) sa, g6 t sa sb r.2.2.2, gJ t oa o9]) [0, 1, 2, 3] hP hD hS hA rfl rfl rfl rfl) hS (fun hPc hDc => va_runV (As := [.int v, .int w]) (rest := [.int 0, .ref oa]) ⟨hx, hb, hml, hown, hts⟩ (mtX2_correct l D t bh bk bo nb now sa sb sv v w r hz _) (cwV 2 hts (gBV kw174 kw175 kw176 kw2 kw177) rfl rfl rfl (by decide +kernel) ⟨Nat.le_of_ble_eq_true rfl, Nat.le_of_ble_eq_true rfl⟩) (sPc_V hPc hK hDc hE (va_recv hK hP (ci := 2) (q0 := 0) rfl rfl)) rfl rfl hl.1 rfl (lv_room (Nat.le_of_ble_eq_true rfl)) dL_correct_5 ⟨Nat.zero_le _, Nat.zero_le _⟩) (fun H locs hP hD hS => ?_)
    refine lv_i2l (v := Int32.toInt64 r.1) hx hb dL_correct_8 rfl ?_
    refine va_last hx hb hK hP hD hS 58 2 rfl rfl (pin_in (by decide)) dL_correct_9 (fun H locs hP hD hS => ?_)
    have hP : va_P D vwCl (gBo bh bk r.2.1 ++ (gS t (bk 0) nb r.2.2.1 ++ (gQ t (bk 3) sa ++ (g6 t sa sb r.2.2.2 ++ (gJ t oa (vp_updL o9 (Int32.toNatClampNeg 0) (Int32.toInt64 r.1))))))) H := hP
    have hD : va_D A (gBo bh bk r.2.1 ++ (gS t (bk 0) nb r.2.2.1 ++ (gQ t (bk 3) sa ++ (g6 t sa sb r.2.2.2 ++ (gJ t oa (vp_updL o9 (Int32.toNatClampNeg 0) (Int32.toInt64 r.1))))))) := hD
    refine lv_goto (tgt := 21) hx hb dL_correct_10 (by decide) ?_
    refine lv_iconst (v := 0) hx hb dL_correct_21 (by decide) ?_
    obtain rfl := os h
    refine W.widen (k := 1) (n := 6) (by omega) (by omega) ?_
    exact ret_i hx hb hr hlocks hP hK hD hS dL_correct_22
  | inl E =>
    dsimp only at h
    by_cases e0 : E = 0
    · have h := it_p e0 h
      subst e0
      refine call_c (E := 0) (wc := (gBo bh bk bo ++ (gS t (bk 0) nb now ++ (gQ t (bk 3) sa ++ (g6 t sa sb sv))))) (ws := (gBo bh bk bo ++ (gS t (bk 0) nb now ++ (gQ t (bk 3) sa ++ (g6 t sa sb sv ++ (gJ t oa o9)))))) (cutB (bs := [gBo bh bk bo, gS t (bk 0) nb now, gQ t (bk 3) sa, g6 t sa sb sv, gJ t oa o9]) (cs := [gBo bh bk bo, gS t (bk 0) nb now, gQ t (bk 3) sa, g6 t sa sb sv]) (cs' := [gBo bh bk bo, gS t (bk 0) nb now, gQ t (bk 3) sa, g6 t sa sb sv]) (bs' := [gBo bh bk bo, gS t (bk 0) nb now, gQ t (bk 3) sa, g6 t sa sb sv, gJ t oa o9]) [0, 1, 2, 3] hP hD hS hA rfl rfl rfl rfl) hS (fun hPc hDc hAB => vx_runV (As := [.int v, .int w]) (rest := [.int 0, .ref oa]) ⟨hx, hb, hml, hown, hts⟩ (xmX2_correct l hfl D t bh bk bo nb now sa sb sv v w 0 hz _) (cwV 2 hts (gBV kw174 kw175 kw176 kw2 kw177) rfl rfl rfl (by decide +kernel) ⟨Nat.le_of_ble_eq_true rfl, Nat.le_of_ble_eq_true rfl⟩) (xPc_V hPc hK hDc hE (va_recv hK hP (ci := 2) (q0 := 0) rfl rfl) hX hS hAB) rfl rfl hl.1 rfl (lv_room (Nat.le_of_ble_eq_true rfl)) dL_correct_5 ⟨Nat.le_of_ble_eq_true rfl, Nat.le_of_ble_eq_true rfl⟩) (fun ce q9 H locs hP hD hS hcell hv hcl => ?_)
      refine vx_catch (name := xname 0) hown [] ⟨0, 10, 13, 13⟩ [⟨0, 10, 17, 15⟩] hTab (fun z hz => nomatch hz) (by decide) (by decide) (htB _ kw66) (va_Nw.use rfl hX.2.2.1.2.2.2) hcell hv hcl ?_
      refine lv_astore (lv' := [(4, .ref q9), (0, .ref bh), (1, .int v), (2, .int w), (3, .ref oa)]) hx hb dL_correct_13 hl (by decide) rfl (fun ls hl => ?_)
      refine lv_iconst (v := 1) hx hb dL_correct_15 (by decide) ?_
      obtain rfl := os h
      exact ret_i hx hb hr hlocks hP hK hD hS dL_correct_16
    · have h := it_n e0 h
      by_cases e1 : E = 1
      · have h := it_p e1 h
        subst e1
        refine call_c (E := 1) (wc := (gBo bh bk bo ++ (gS t (bk 0) nb now ++ (gQ t (bk 3) sa ++ (g6 t sa sb sv))))) (ws := (gBo bh bk bo ++ (gS t (bk 0) nb now ++ (gQ t (bk 3) sa ++ (g6 t sa sb sv ++ (gJ t oa o9)))))) (cutB (bs := [gBo bh bk bo, gS t (bk 0) nb now, gQ t (bk 3) sa, g6 t sa sb sv, gJ t oa o9]) (cs := [gBo bh bk bo, gS t (bk 0) nb now, gQ t (bk 3) sa, g6 t sa sb sv]) (cs' := [gBo bh bk bo, gS t (bk 0) nb now, gQ t (bk 3) sa, g6 t sa sb sv]) (bs' := [gBo bh bk bo, gS t (bk 0) nb now, gQ t (bk 3) sa, g6 t sa sb sv, gJ t oa o9]) [0, 1, 2, 3] hP hD hS hA rfl rfl rfl rfl) hS (fun hPc hDc hAB => vx_runV (As := [.int v, .int w]) (rest := [.int 0, .ref oa]) ⟨hx, hb, hml, hown, hts⟩ (xmX2_correct l hfl D t bh bk bo nb now sa sb sv v w 1 hz _) (cwV 2 hts (gBV kw174 kw175 kw176 kw2 kw177) rfl rfl rfl (by decide +kernel) ⟨Nat.le_of_ble_eq_true rfl, Nat.le_of_ble_eq_true rfl⟩) (xPc_V hPc hK hDc hE (va_recv hK hP (ci := 2) (q0 := 0) rfl rfl) hX hS hAB) rfl rfl hl.1 rfl (lv_room (Nat.le_of_ble_eq_true rfl)) dL_correct_5 ⟨Nat.le_of_ble_eq_true rfl, Nat.le_of_ble_eq_true rfl⟩) (fun ce q9 H locs hP hD hS hcell hv hcl => ?_)
        refine vx_catch (name := xname 1) hown [⟨0, 10, 13, 13⟩] ⟨0, 10, 17, 15⟩ [] hTab (fun z hz => by rcases List.mem_cons.mp hz with rfl | hz; exact Or.inr ⟨by decide, _, (htB _ kw66), hXW.1⟩; cases hz) (by decide) (by decide) (htB _ kw67) (va_Nw.use rfl hX.2.2.2.1.2.2.2) hcell hv hcl ?_
        refine lv_astore (lv' := [(4, .ref q9), (0, .ref bh), (1, .int v), (2, .int w), (3, .ref oa)]) hx hb dL_correct_17 hl (by decide) rfl (fun ls hl => ?_)
        refine lv_iconst (v := 2) hx hb dL_correct_19 (by decide) ?_
        obtain rfl := os h
        exact ret_i hx hb hr hlocks hP hK hD hS dL_correct_20
      · have h := it_n e1 h
        cases h

theorem dL_set_0 : decode cL_set 0 = .ok (.aload_n 3, 1) := by decide +kernel
theorem dL_set_1 : decode cL_set 1 = .ok (.iconst 0, 1) := by decide +kernel
theorem dL_set_2 : decode cL_set 2 = .ok (.aload_n 0, 1) := by decide +kernel
theorem dL_set_3 : decode cL_set 3 = .ok (.iload_n 1, 1) := by decide +kernel
theorem dL_set_4 : decode cL_set 4 = .ok (.iload_n 2, 1) := by decide +kernel
theorem dL_set_5 : decode cL_set 5 = .ok (.invokevirtual 28, 3) := by decide +kernel
theorem dL_set_8 : decode cL_set 8 = .ok (.i2l, 1) := by decide +kernel
theorem dL_set_9 : decode cL_set 9 = .ok (.lastore, 1) := by decide +kernel
theorem dL_set_10 : decode cL_set 10 = .ok (.goto 11, 3) := by decide +kernel
theorem dL_set_13 : decode cL_set 13 = .ok (.astore 4, 2) := by decide +kernel
theorem dL_set_15 : decode cL_set 15 = .ok (.iconst 1, 1) := by decide +kernel
theorem dL_set_16 : decode cL_set 16 = .ok (.ireturn, 1) := by decide +kernel
theorem dL_set_17 : decode cL_set 17 = .ok (.astore 4, 2) := by decide +kernel
theorem dL_set_19 : decode cL_set 19 = .ok (.iconst 2, 1) := by decide +kernel
theorem dL_set_20 : decode cL_set 20 = .ok (.ireturn, 1) := by decide +kernel
theorem dL_set_21 : decode cL_set 21 = .ok (.iconst 0, 1) := by decide +kernel
theorem dL_set_22 : decode cL_set 22 = .ok (.ireturn, 1) := by decide +kernel
abbrev zL_set : List Cond := .codeWith yL_set cL_set 5 (some .int) [(0, 10, 13, 13), (0, 10, 17, 15)] :: BIG
def fL_set (bo : BoT) (now : ShT) (sv : (Nat → ShT)) (v : Int32) (w : Int32) (o9 : (Nat → Int64)) : Option (Int32 × BoT × ShT × (Nat → ShT) × (Nat → Int64)) := (fX2_set bo now sv v w).bind (fun z => match z with | .inr r => some (0, r.2.1, r.2.2.1, r.2.2.2, vp_updL o9 (Int32.toNatClampNeg 0) (Int32.toInt64 r.1)) | .inl E => if E = 0 then some (1, bo, now, sv, o9) else if E = 1 then some (2, bo, now, sv, o9) else none)
set_option maxHeartbeats 4000000 in
set_option maxRecDepth 100000 in
theorem mtL_set (l : Launch) (hfl : l.stackTraces = false) (D : va_G) (t : Nat → ClassId) (bh : Nat) (bk : Nat → Nat) (bo : BoT) (nb : Nat → Nat) (now : ShT) (sa : Nat → Nat) (sb : Nat → Nat → Nat) (sv : (Nat → ShT)) (v : Int32) (w : Int32) (oa : Nat) (o9 : (Nat → Int64)) (out : Int32 × BoT × ShT × (Nat → ShT) × (Nat → Int64)) (h : fL_set bo now sv v w o9 = some out) (sz : Nat) : Met l yL_set zL_set ({ frames := 9, cells := 1, slots := 6, locals := 146 }) (wPc D t (gBo bh bk bo ++ (gS t (bk 0) nb now ++ (gQ t (bk 3) sa ++ (g6 t sa sb sv ++ (gJ t oa o9))))) sz [.ref bh, .int v, .int w, .ref oa]) (qI D t (gBo bh bk out.2.1 ++ (gS t (bk 0) nb out.2.2.1 ++ (gQ t (bk 3) sa ++ (g6 t sa sb out.2.2.2.1 ++ (gJ t oa out.2.2.2.2))))) out.1 (va_A (gBo bh bk bo ++ (gS t (bk 0) nb now ++ (gQ t (bk 3) sa ++ (g6 t sa sb sv ++ (gJ t oa o9))))) sz)) 1 6 (va_A (gBo bh bk bo ++ (gS t (bk 0) nb now ++ (gQ t (bk 3) sa ++ (g6 t sa sb sv ++ (gJ t oa o9))))) sz) := by
  refine met_ofL (Qf := fun A => qI D t (gBo bh bk out.2.1 ++ (gS t (bk 0) nb out.2.2.1 ++ (gQ t (bk 3) sa ++ (g6 t sa sb out.2.2.2.1 ++ (gJ t oa out.2.2.2.2))))) out.1 A) (cc := cL_set) (maxL := 5) (ret := some .int) (hh := [(0, 10, 13, 13), (0, 10, 17, 15)]) (by decide) rfl (Nat.le_of_ble_eq_true rfl) ?_
  intro p e s m args below meth c A hx hb hr hml hts hown hlocks hA hP hK hD hE hS hX hXW hTab ls hl
  have htB : ∀ w ∈ BIG, w.before args s = true := fun w h => hts w (List.mem_cons_of_mem _ h)
  have hown : s.vm.findClass RL = some m.cls := hown
  have hl : lv_has ls 5 [(0, .ref bh), (1, .int v), (2, .int w), (3, .ref oa)] := hl
  unfold fL_set at h
  obtain ⟨z, hz, h⟩ := ob h
  refine lv_aload_n hx hb dL_set_0 rfl (lv_at hl 3 rfl) ?_
  refine lv_iconst (v := 0) hx hb dL_set_1 (by decide) ?_
  refine lv_aload_n hx hb dL_set_2 rfl (lv_at hl 0 rfl) ?_
  refine lv_iload_n hx hb dL_set_3 rfl (lv_at hl 1 rfl) ?_
  refine lv_iload_n hx hb dL_set_4 rfl (lv_at hl 2 rfl) ?_
  cases z with
  | inr r =>
    dsimp only at h
    refine call_i (v := r.1) (wc := (gBo bh bk bo ++ (gS t (bk 0) nb now ++ (gQ t (bk 3) sa ++ (g6 t sa sb sv))))) (wc' := (gBo bh bk r.2.1 ++ (gS t (bk 0) nb r.2.2.1 ++ (gQ t (bk 3) sa ++ (g6 t sa sb r.2.2.2))))) (ws' := (gBo bh bk r.2.1 ++ (gS t (bk 0) nb r.2.2.1 ++ (gQ t (bk 3) sa ++ (g6 t sa sb r.2.2.2 ++ (gJ t oa o9)))))) (cutB (bs := [gBo bh bk bo, gS t (bk 0) nb now, gQ t (bk 3) sa, g6 t sa sb sv, gJ t oa o9]) (cs := [gBo bh bk bo, gS t (bk 0) nb now, gQ t (bk 3) sa, g6 t sa sb sv]) (cs' := [gBo bh bk r.2.1, gS t (bk 0) nb r.2.2.1, gQ t (bk 3) sa, g6 t sa sb r.2.2.2]) (bs' := [gBo bh bk r.2.1, gS t (bk 0) nb r.2.2.1, gQ t (bk 3) sa, g6 t sa sb r.2.2.2, gJ t oa o9]) [0, 1, 2, 3] hP hD hS hA rfl rfl rfl rfl) hS (fun hPc hDc => va_runV (As := [.int v, .int w]) (rest := [.int 0, .ref oa]) ⟨hx, hb, hml, hown, hts⟩ (mtX2_set l D t bh bk bo nb now sa sb sv v w r hz _) (cwV 2 hts (gBV kw192 kw193 kw194 kw2 kw195) rfl rfl rfl (by decide +kernel) ⟨Nat.le_of_ble_eq_true rfl, Nat.le_of_ble_eq_true rfl⟩) (sPc_V hPc hK hDc hE (va_recv hK hP (ci := 2) (q0 := 0) rfl rfl)) rfl rfl hl.1 rfl (lv_room (Nat.le_of_ble_eq_true rfl)) dL_set_5 ⟨Nat.zero_le _, Nat.zero_le _⟩) (fun H locs hP hD hS => ?_)
    refine lv_i2l (v := Int32.toInt64 r.1) hx hb dL_set_8 rfl ?_
    refine va_last hx hb hK hP hD hS 58 2 rfl rfl (pin_in (by decide)) dL_set_9 (fun H locs hP hD hS => ?_)
    have hP : va_P D vwCl (gBo bh bk r.2.1 ++ (gS t (bk 0) nb r.2.2.1 ++ (gQ t (bk 3) sa ++ (g6 t sa sb r.2.2.2 ++ (gJ t oa (vp_updL o9 (Int32.toNatClampNeg 0) (Int32.toInt64 r.1))))))) H := hP
    have hD : va_D A (gBo bh bk r.2.1 ++ (gS t (bk 0) nb r.2.2.1 ++ (gQ t (bk 3) sa ++ (g6 t sa sb r.2.2.2 ++ (gJ t oa (vp_updL o9 (Int32.toNatClampNeg 0) (Int32.toInt64 r.1))))))) := hD
    refine lv_goto (tgt := 21) hx hb dL_set_10 (by decide) ?_
    refine lv_iconst (v := 0) hx hb dL_set_21 (by decide) ?_
    obtain rfl := os h
    refine W.widen (k := 1) (n := 6) (by omega) (by omega) ?_
    exact ret_i hx hb hr hlocks hP hK hD hS dL_set_22
  | inl E =>
    dsimp only at h
    by_cases e0 : E = 0
    · have h := it_p e0 h
      subst e0
      refine call_c (E := 0) (wc := (gBo bh bk bo ++ (gS t (bk 0) nb now ++ (gQ t (bk 3) sa ++ (g6 t sa sb sv))))) (ws := (gBo bh bk bo ++ (gS t (bk 0) nb now ++ (gQ t (bk 3) sa ++ (g6 t sa sb sv ++ (gJ t oa o9)))))) (cutB (bs := [gBo bh bk bo, gS t (bk 0) nb now, gQ t (bk 3) sa, g6 t sa sb sv, gJ t oa o9]) (cs := [gBo bh bk bo, gS t (bk 0) nb now, gQ t (bk 3) sa, g6 t sa sb sv]) (cs' := [gBo bh bk bo, gS t (bk 0) nb now, gQ t (bk 3) sa, g6 t sa sb sv]) (bs' := [gBo bh bk bo, gS t (bk 0) nb now, gQ t (bk 3) sa, g6 t sa sb sv, gJ t oa o9]) [0, 1, 2, 3] hP hD hS hA rfl rfl rfl rfl) hS (fun hPc hDc hAB => vx_runV (As := [.int v, .int w]) (rest := [.int 0, .ref oa]) ⟨hx, hb, hml, hown, hts⟩ (xmX2_set l hfl D t bh bk bo nb now sa sb sv v w 0 hz _) (cwV 2 hts (gBV kw192 kw193 kw194 kw2 kw195) rfl rfl rfl (by decide +kernel) ⟨Nat.le_of_ble_eq_true rfl, Nat.le_of_ble_eq_true rfl⟩) (xPc_V hPc hK hDc hE (va_recv hK hP (ci := 2) (q0 := 0) rfl rfl) hX hS hAB) rfl rfl hl.1 rfl (lv_room (Nat.le_of_ble_eq_true rfl)) dL_set_5 ⟨Nat.le_of_ble_eq_true rfl, Nat.le_of_ble_eq_true rfl⟩) (fun ce q9 H locs hP hD hS hcell hv hcl => ?_)
      refine vx_catch (name := xname 0) hown [] ⟨0, 10, 13, 13⟩ [⟨0, 10, 17, 15⟩] hTab (fun z hz => nomatch hz) (by decide) (by decide) (htB _ kw66) (va_Nw.use rfl hX.2.2.1.2.2.2) hcell hv hcl ?_
      refine lv_astore (lv' := [(4, .ref q9), (0, .ref bh), (1, .int v), (2, .int w), (3, .ref oa)]) hx hb dL_set_13 hl (by decide) rfl (fun ls hl => ?_)
      refine lv_iconst (v := 1) hx hb dL_set_15 (by decide) ?_
      obtain rfl := os h
      exact ret_i hx hb hr hlocks hP hK hD hS dL_set_16
    · have h := it_n e0 h
      by_cases e1 : E = 1
      · have h := it_p e1 h
        subst e1
        refine call_c (E := 1) (wc := (gBo bh bk bo ++ (gS t (bk 0) nb now ++ (gQ t (bk 3) sa ++ (g6 t sa sb sv))))) (ws := (gBo bh bk bo ++ (gS t (bk 0) nb now ++ (gQ t (bk 3) sa ++ (g6 t sa sb sv ++ (gJ t oa o9)))))) (cutB (bs := [gBo bh bk bo, gS t (bk 0) nb now, gQ t (bk 3) sa, g6 t sa sb sv, gJ t oa o9]) (cs := [gBo bh bk bo, gS t (bk 0) nb now, gQ t (bk 3) sa, g6 t sa sb sv]) (cs' := [gBo bh bk bo, gS t (bk 0) nb now, gQ t (bk 3) sa, g6 t sa sb sv]) (bs' := [gBo bh bk bo, gS t (bk 0) nb now, gQ t (bk 3) sa, g6 t sa sb sv, gJ t oa o9]) [0, 1, 2, 3] hP hD hS hA rfl rfl rfl rfl) hS (fun hPc hDc hAB => vx_runV (As := [.int v, .int w]) (rest := [.int 0, .ref oa]) ⟨hx, hb, hml, hown, hts⟩ (xmX2_set l hfl D t bh bk bo nb now sa sb sv v w 1 hz _) (cwV 2 hts (gBV kw192 kw193 kw194 kw2 kw195) rfl rfl rfl (by decide +kernel) ⟨Nat.le_of_ble_eq_true rfl, Nat.le_of_ble_eq_true rfl⟩) (xPc_V hPc hK hDc hE (va_recv hK hP (ci := 2) (q0 := 0) rfl rfl) hX hS hAB) rfl rfl hl.1 rfl (lv_room (Nat.le_of_ble_eq_true rfl)) dL_set_5 ⟨Nat.le_of_ble_eq_true rfl, Nat.le_of_ble_eq_true rfl⟩) (fun ce q9 H locs hP hD hS hcell hv hcl => ?_)
        refine vx_catch (name := xname 1) hown [⟨0, 10, 13, 13⟩] ⟨0, 10, 17, 15⟩ [] hTab (fun z hz => by rcases List.mem_cons.mp hz with rfl | hz; exact Or.inr ⟨by decide, _, (htB _ kw66), hXW.1⟩; cases hz) (by decide) (by decide) (htB _ kw67) (va_Nw.use rfl hX.2.2.2.1.2.2.2) hcell hv hcl ?_
        refine lv_astore (lv' := [(4, .ref q9), (0, .ref bh), (1, .int v), (2, .int w), (3, .ref oa)]) hx hb dL_set_17 hl (by decide) rfl (fun ls hl => ?_)
        refine lv_iconst (v := 2) hx hb dL_set_19 (by decide) ?_
        obtain rfl := os h
        exact ret_i hx hb hr hlocks hP hK hD hS dL_set_20
      · have h := it_n e1 h
        cases h

theorem dL_shoot_0 : decode cL_shoot 0 = .ok (.aload_n 3, 1) := by decide +kernel
theorem dL_shoot_1 : decode cL_shoot 1 = .ok (.iconst 0, 1) := by decide +kernel
theorem dL_shoot_2 : decode cL_shoot 2 = .ok (.aload_n 0, 1) := by decide +kernel
theorem dL_shoot_3 : decode cL_shoot 3 = .ok (.iload_n 1, 1) := by decide +kernel
theorem dL_shoot_4 : decode cL_shoot 4 = .ok (.iload_n 2, 1) := by decide +kernel
theorem dL_shoot_5 : decode cL_shoot 5 = .ok (.invokevirtual 31, 3) := by decide +kernel
theorem dL_shoot_8 : decode cL_shoot 8 = .ok (.i2l, 1) := by decide +kernel
theorem dL_shoot_9 : decode cL_shoot 9 = .ok (.lastore, 1) := by decide +kernel
theorem dL_shoot_10 : decode cL_shoot 10 = .ok (.goto 11, 3) := by decide +kernel
theorem dL_shoot_13 : decode cL_shoot 13 = .ok (.astore 4, 2) := by decide +kernel
theorem dL_shoot_15 : decode cL_shoot 15 = .ok (.iconst 1, 1) := by decide +kernel
theorem dL_shoot_16 : decode cL_shoot 16 = .ok (.ireturn, 1) := by decide +kernel
theorem dL_shoot_17 : decode cL_shoot 17 = .ok (.astore 4, 2) := by decide +kernel
theorem dL_shoot_19 : decode cL_shoot 19 = .ok (.iconst 2, 1) := by decide +kernel
theorem dL_shoot_20 : decode cL_shoot 20 = .ok (.ireturn, 1) := by decide +kernel
theorem dL_shoot_21 : decode cL_shoot 21 = .ok (.iconst 0, 1) := by decide +kernel
theorem dL_shoot_22 : decode cL_shoot 22 = .ok (.ireturn, 1) := by decide +kernel
abbrev zL_shoot : List Cond := .codeWith yL_shoot cL_shoot 5 (some .int) [(0, 10, 13, 13), (0, 10, 17, 15)] :: BIG
def fL_shoot (bo : BoT) (now : ShT) (ex : ExT) (sv : (Nat → ShT)) (v : Int32) (w : Int32) (o9 : (Nat → Int64)) : Option (Int32 × BoT × ShT × ExT × (Nat → ShT) × (Nat → Int64)) := (fX2_shoot bo now ex sv v w).bind (fun z => match z with | .inr r => some (0, r.2.1, r.2.2.1, r.2.2.2.1, r.2.2.2.2, vp_updL o9 (Int32.toNatClampNeg 0) (Int32.toInt64 r.1)) | .inl E => if E = 0 then some (1, bo, now, ex, sv, o9) else if E = 1 then some (2, bo, now, ex, sv, o9) else none)
set_option maxHeartbeats 4000000 in
set_option maxRecDepth 100000 in
theorem mtL_shoot (l : Launch) (hfl : l.stackTraces = false) (D : va_G) (t : Nat → ClassId) (bh : Nat) (bk : Nat → Nat) (bo : BoT) (nb : Nat → Nat) (now : ShT) (eb : Nat → Nat) (ex : ExT) (sa : Nat → Nat) (sb : Nat → Nat → Nat) (sv : (Nat → ShT)) (v : Int32) (w : Int32) (oa : Nat) (o9 : (Nat → Int64)) (out : Int32 × BoT × ShT × ExT × (Nat → ShT) × (Nat → Int64)) (h : fL_shoot bo now ex sv v w o9 = some out) (sz : Nat) : Met l yL_shoot zL_shoot ({ frames := 9, cells := 1, slots := 6, locals := 145 }) (wPc D t (gBo bh bk bo ++ (gS t (bk 0) nb now ++ (gE t (bk 2) eb ex ++ (gQ t (bk 3) sa ++ (g6 t sa sb sv ++ (gJ t oa o9)))))) sz [.ref bh, .int v, .int w, .ref oa]) (qI D t (gBo bh bk out.2.1 ++ (gS t (bk 0) nb out.2.2.1 ++ (gE t (bk 2) eb out.2.2.2.1 ++ (gQ t (bk 3) sa ++ (g6 t sa sb out.2.2.2.2.1 ++ (gJ t oa out.2.2.2.2.2)))))) out.1 (va_A (gBo bh bk bo ++ (gS t (bk 0) nb now ++ (gE t (bk 2) eb ex ++ (gQ t (bk 3) sa ++ (g6 t sa sb sv ++ (gJ t oa o9)))))) sz)) 1 6 (va_A (gBo bh bk bo ++ (gS t (bk 0) nb now ++ (gE t (bk 2) eb ex ++ (gQ t (bk 3) sa ++ (g6 t sa sb sv ++ (gJ t oa o9)))))) sz) := by
  refine met_ofL (Qf := fun A => qI D t (gBo bh bk out.2.1 ++ (gS t (bk 0) nb out.2.2.1 ++ (gE t (bk 2) eb out.2.2.2.1 ++ (gQ t (bk 3) sa ++ (g6 t sa sb out.2.2.2.2.1 ++ (gJ t oa out.2.2.2.2.2)))))) out.1 A) (cc := cL_shoot) (maxL := 5) (ret := some .int) (hh := [(0, 10, 13, 13), (0, 10, 17, 15)]) (by decide) rfl (Nat.le_of_ble_eq_true rfl) ?_
  intro p e s m args below meth c A hx hb hr hml hts hown hlocks hA hP hK hD hE hS hX hXW hTab ls hl
  have htB : ∀ w ∈ BIG, w.before args s = true := fun w h => hts w (List.mem_cons_of_mem _ h)
  have hown : s.vm.findClass RL = some m.cls := hown
  have hl : lv_has ls 5 [(0, .ref bh), (1, .int v), (2, .int w), (3, .ref oa)] := hl
  unfold fL_shoot at h
  obtain ⟨z, hz, h⟩ := ob h
  refine lv_aload_n hx hb dL_shoot_0 rfl (lv_at hl 3 rfl) ?_
  refine lv_iconst (v := 0) hx hb dL_shoot_1 (by decide) ?_
  refine lv_aload_n hx hb dL_shoot_2 rfl (lv_at hl 0 rfl) ?_
  refine lv_iload_n hx hb dL_shoot_3 rfl (lv_at hl 1 rfl) ?_
  refine lv_iload_n hx hb dL_shoot_4 rfl (lv_at hl 2 rfl) ?_
  cases z with
  | inr r =>
    dsimp only at h
    refine call_i (v := r.1) (wc := (gBo bh bk bo ++ (gS t (bk 0) nb now ++ (gE t (bk 2) eb ex ++ (gQ t (bk 3) sa ++ (g6 t sa sb sv)))))) (wc' := (gBo bh bk r.2.1 ++ (gS t (bk 0) nb r.2.2.1 ++ (gE t (bk 2) eb r.2.2.2.1 ++ (gQ t (bk 3) sa ++ (g6 t sa sb r.2.2.2.2)))))) (ws' := (gBo bh bk r.2.1 ++ (gS t (bk 0) nb r.2.2.1 ++ (gE t (bk 2) eb r.2.2.2.1 ++ (gQ t (bk 3) sa ++ (g6 t sa sb r.2.2.2.2 ++ (gJ t oa o9))))))) (cutB (bs := [gBo bh bk bo, gS t (bk 0) nb now, gE t (bk 2) eb ex, gQ t (bk 3) sa, g6 t sa sb sv, gJ t oa o9]) (cs := [gBo bh bk bo, gS t (bk 0) nb now, gE t (bk 2) eb ex, gQ t (bk 3) sa, g6 t sa sb sv]) (cs' := [gBo bh bk r.2.1, gS t (bk 0) nb r.2.2.1, gE t (bk 2) eb r.2.2.2.1, gQ t (bk 3) sa, g6 t sa sb r.2.2.2.2]) (bs' := [gBo bh bk r.2.1, gS t (bk 0) nb r.2.2.1, gE t (bk 2) eb r.2.2.2.1, gQ t (bk 3) sa, g6 t sa sb r.2.2.2.2, gJ t oa o9]) [0, 1, 2, 3, 4] hP hD hS hA rfl rfl rfl rfl) hS (fun hPc hDc => va_runV (As := [.int v, .int w]) (rest := [.int 0, .ref oa]) ⟨hx, hb, hml, hown, hts⟩ (mtX2_shoot l D t bh bk bo nb now eb ex sa sb sv v w r hz _) (cwV 2 hts (gBV kw216 kw217 kw218 kw2 kw219) rfl rfl rfl (by decide +kernel) ⟨Nat.le_of_ble_eq_true rfl, Nat.le_of_ble_eq_true rfl⟩) (sPc_V hPc hK hDc hE (va_recv hK hP (ci := 2) (q0 := 0) rfl rfl)) rfl rfl hl.1 rfl (lv_room (Nat.le_of_ble_eq_true rfl)) dL_shoot_5 ⟨Nat.zero_le _, Nat.zero_le _⟩) (fun H locs hP hD hS => ?_)
    refine lv_i2l (v := Int32.toInt64 r.1) hx hb dL_shoot_8 rfl ?_
    refine va_last hx hb hK hP hD hS 62 2 rfl rfl (pin_in (by decide)) dL_shoot_9 (fun H locs hP hD hS => ?_)
    have hP : va_P D vwCl (gBo bh bk r.2.1 ++ (gS t (bk 0) nb r.2.2.1 ++ (gE t (bk 2) eb r.2.2.2.1 ++ (gQ t (bk 3) sa ++ (g6 t sa sb r.2.2.2.2 ++ (gJ t oa (vp_updL o9 (Int32.toNatClampNeg 0) (Int32.toInt64 r.1)))))))) H := hP
    have hD : va_D A (gBo bh bk r.2.1 ++ (gS t (bk 0) nb r.2.2.1 ++ (gE t (bk 2) eb r.2.2.2.1 ++ (gQ t (bk 3) sa ++ (g6 t sa sb r.2.2.2.2 ++ (gJ t oa (vp_updL o9 (Int32.toNatClampNeg 0) (Int32.toInt64 r.1)))))))) := hD
    refine lv_goto (tgt := 21) hx hb dL_shoot_10 (by decide) ?_
    refine lv_iconst (v := 0) hx hb dL_shoot_21 (by decide) ?_
    obtain rfl := os h
    refine W.widen (k := 1) (n := 6) (by omega) (by omega) ?_
    exact ret_i hx hb hr hlocks hP hK hD hS dL_shoot_22
  | inl E =>
    dsimp only at h
    by_cases e0 : E = 0
    · have h := it_p e0 h
      subst e0
      refine call_c (E := 0) (wc := (gBo bh bk bo ++ (gS t (bk 0) nb now ++ (gE t (bk 2) eb ex ++ (gQ t (bk 3) sa ++ (g6 t sa sb sv)))))) (ws := (gBo bh bk bo ++ (gS t (bk 0) nb now ++ (gE t (bk 2) eb ex ++ (gQ t (bk 3) sa ++ (g6 t sa sb sv ++ (gJ t oa o9))))))) (cutB (bs := [gBo bh bk bo, gS t (bk 0) nb now, gE t (bk 2) eb ex, gQ t (bk 3) sa, g6 t sa sb sv, gJ t oa o9]) (cs := [gBo bh bk bo, gS t (bk 0) nb now, gE t (bk 2) eb ex, gQ t (bk 3) sa, g6 t sa sb sv]) (cs' := [gBo bh bk bo, gS t (bk 0) nb now, gE t (bk 2) eb ex, gQ t (bk 3) sa, g6 t sa sb sv]) (bs' := [gBo bh bk bo, gS t (bk 0) nb now, gE t (bk 2) eb ex, gQ t (bk 3) sa, g6 t sa sb sv, gJ t oa o9]) [0, 1, 2, 3, 4] hP hD hS hA rfl rfl rfl rfl) hS (fun hPc hDc hAB => vx_runV (As := [.int v, .int w]) (rest := [.int 0, .ref oa]) ⟨hx, hb, hml, hown, hts⟩ (xmX2_shoot l hfl D t bh bk bo nb now eb ex sa sb sv v w 0 hz _) (cwV 2 hts (gBV kw216 kw217 kw218 kw2 kw219) rfl rfl rfl (by decide +kernel) ⟨Nat.le_of_ble_eq_true rfl, Nat.le_of_ble_eq_true rfl⟩) (xPc_V hPc hK hDc hE (va_recv hK hP (ci := 2) (q0 := 0) rfl rfl) hX hS hAB) rfl rfl hl.1 rfl (lv_room (Nat.le_of_ble_eq_true rfl)) dL_shoot_5 ⟨Nat.le_of_ble_eq_true rfl, Nat.le_of_ble_eq_true rfl⟩) (fun ce q9 H locs hP hD hS hcell hv hcl => ?_)
      refine vx_catch (name := xname 0) hown [] ⟨0, 10, 13, 13⟩ [⟨0, 10, 17, 15⟩] hTab (fun z hz => nomatch hz) (by decide) (by decide) (htB _ kw66) (va_Nw.use rfl hX.2.2.1.2.2.2) hcell hv hcl ?_
      refine lv_astore (lv' := [(4, .ref q9), (0, .ref bh), (1, .int v), (2, .int w), (3, .ref oa)]) hx hb dL_shoot_13 hl (by decide) rfl (fun ls hl => ?_)
      refine lv_iconst (v := 1) hx hb dL_shoot_15 (by decide) ?_
      obtain rfl := os h
      exact ret_i hx hb hr hlocks hP hK hD hS dL_shoot_16
    · have h := it_n e0 h
      by_cases e1 : E = 1
      · have h := it_p e1 h
        subst e1
        refine call_c (E := 1) (wc := (gBo bh bk bo ++ (gS t (bk 0) nb now ++ (gE t (bk 2) eb ex ++ (gQ t (bk 3) sa ++ (g6 t sa sb sv)))))) (ws := (gBo bh bk bo ++ (gS t (bk 0) nb now ++ (gE t (bk 2) eb ex ++ (gQ t (bk 3) sa ++ (g6 t sa sb sv ++ (gJ t oa o9))))))) (cutB (bs := [gBo bh bk bo, gS t (bk 0) nb now, gE t (bk 2) eb ex, gQ t (bk 3) sa, g6 t sa sb sv, gJ t oa o9]) (cs := [gBo bh bk bo, gS t (bk 0) nb now, gE t (bk 2) eb ex, gQ t (bk 3) sa, g6 t sa sb sv]) (cs' := [gBo bh bk bo, gS t (bk 0) nb now, gE t (bk 2) eb ex, gQ t (bk 3) sa, g6 t sa sb sv]) (bs' := [gBo bh bk bo, gS t (bk 0) nb now, gE t (bk 2) eb ex, gQ t (bk 3) sa, g6 t sa sb sv, gJ t oa o9]) [0, 1, 2, 3, 4] hP hD hS hA rfl rfl rfl rfl) hS (fun hPc hDc hAB => vx_runV (As := [.int v, .int w]) (rest := [.int 0, .ref oa]) ⟨hx, hb, hml, hown, hts⟩ (xmX2_shoot l hfl D t bh bk bo nb now eb ex sa sb sv v w 1 hz _) (cwV 2 hts (gBV kw216 kw217 kw218 kw2 kw219) rfl rfl rfl (by decide +kernel) ⟨Nat.le_of_ble_eq_true rfl, Nat.le_of_ble_eq_true rfl⟩) (xPc_V hPc hK hDc hE (va_recv hK hP (ci := 2) (q0 := 0) rfl rfl) hX hS hAB) rfl rfl hl.1 rfl (lv_room (Nat.le_of_ble_eq_true rfl)) dL_shoot_5 ⟨Nat.le_of_ble_eq_true rfl, Nat.le_of_ble_eq_true rfl⟩) (fun ce q9 H locs hP hD hS hcell hv hcl => ?_)
        refine vx_catch (name := xname 1) hown [⟨0, 10, 13, 13⟩] ⟨0, 10, 17, 15⟩ [] hTab (fun z hz => by rcases List.mem_cons.mp hz with rfl | hz; exact Or.inr ⟨by decide, _, (htB _ kw66), hXW.1⟩; cases hz) (by decide) (by decide) (htB _ kw67) (va_Nw.use rfl hX.2.2.2.1.2.2.2) hcell hv hcl ?_
        refine lv_astore (lv' := [(4, .ref q9), (0, .ref bh), (1, .int v), (2, .int w), (3, .ref oa)]) hx hb dL_shoot_17 hl (by decide) rfl (fun ls hl => ?_)
        refine lv_iconst (v := 2) hx hb dL_shoot_19 (by decide) ?_
        obtain rfl := os h
        exact ret_i hx hb hr hlocks hP hK hD hS dL_shoot_20
      · have h := it_n e1 h
        cases h

theorem dL_append_0 : decode cL_append 0 = .ok (.aload_n 2, 1) := by decide +kernel
theorem dL_append_1 : decode cL_append 1 = .ok (.iconst 0, 1) := by decide +kernel
theorem dL_append_2 : decode cL_append 2 = .ok (.aload_n 0, 1) := by decide +kernel
theorem dL_append_3 : decode cL_append 3 = .ok (.iload_n 1, 1) := by decide +kernel
theorem dL_append_4 : decode cL_append 4 = .ok (.invokevirtual 34, 3) := by decide +kernel
theorem dL_append_7 : decode cL_append 7 = .ok (.i2l, 1) := by decide +kernel
theorem dL_append_8 : decode cL_append 8 = .ok (.lastore, 1) := by decide +kernel
theorem dL_append_9 : decode cL_append 9 = .ok (.goto 9, 3) := by decide +kernel
theorem dL_append_12 : decode cL_append 12 = .ok (.astore_n 3, 1) := by decide +kernel
theorem dL_append_13 : decode cL_append 13 = .ok (.iconst 1, 1) := by decide +kernel
theorem dL_append_14 : decode cL_append 14 = .ok (.ireturn, 1) := by decide +kernel
theorem dL_append_15 : decode cL_append 15 = .ok (.astore_n 3, 1) := by decide +kernel
theorem dL_append_16 : decode cL_append 16 = .ok (.iconst 2, 1) := by decide +kernel
theorem dL_append_17 : decode cL_append 17 = .ok (.ireturn, 1) := by decide +kernel
theorem dL_append_18 : decode cL_append 18 = .ok (.iconst 0, 1) := by decide +kernel
theorem dL_append_19 : decode cL_append 19 = .ok (.ireturn, 1) := by decide +kernel
abbrev zL_append : List Cond := .codeWith yL_append cL_append 4 (some .int) [(0, 9, 12, 15), (0, 9, 15, 37)] :: BIG
def fL_append (bo : BoT) (buf : (Nat → Int32)) (v : Int32) (o9 : (Nat → Int64)) : Option (Int32 × BoT × (Nat → Int32) × (Nat → Int64)) := (fX2_append bo buf v).bind (fun z => match z with | .inr r => some (0, r.2.1, r.2.2, vp_updL o9 (Int32.toNatClampNeg 0) (Int32.toInt64 r.1)) | .inl E => if E = 1 then some (1, bo, buf, o9) else if E = 2 then some (2, bo, buf, o9) else none)
set_option maxHeartbeats 4000000 in
set_option maxRecDepth 100000 in
theorem mtL_append (l : Launch) (hfl : l.stackTraces = false) (D : va_G) (t : Nat → ClassId) (bh : Nat) (bk : Nat → Nat) (bo : BoT) (buf : (Nat → Int32)) (v : Int32) (oa : Nat) (o9 : (Nat → Int64)) (out : Int32 × BoT × (Nat → Int32) × (Nat → Int64)) (h : fL_append bo buf v o9 = some out) (sz : Nat) : Met l yL_append zL_append ({ frames := 8, cells := 1, slots := 6, locals := 125 }) (wPc D t (gBo bh bk bo ++ (gA t (bk 4) 60 buf ++ (gJ t oa o9))) sz [.ref bh, .int v, .ref oa]) (qI D t (gBo bh bk out.2.1 ++ (gA t (bk 4) 60 out.2.2.1 ++ (gJ t oa out.2.2.2))) out.1 (va_A (gBo bh bk bo ++ (gA t (bk 4) 60 buf ++ (gJ t oa o9))) sz)) 1 6 (va_A (gBo bh bk bo ++ (gA t (bk 4) 60 buf ++ (gJ t oa o9))) sz) := by
  refine met_ofL (Qf := fun A => qI D t (gBo bh bk out.2.1 ++ (gA t (bk 4) 60 out.2.2.1 ++ (gJ t oa out.2.2.2))) out.1 A) (cc := cL_append) (maxL := 4) (ret := some .int) (hh := [(0, 9, 12, 15), (0, 9, 15, 37)]) (by decide) rfl (Nat.le_of_ble_eq_true rfl) ?_
  intro p e s m args below meth c A hx hb hr hml hts hown hlocks hA hP hK hD hE hS hX hXW hTab ls hl
  have htB : ∀ w ∈ BIG, w.before args s = true := fun w h => hts w (List.mem_cons_of_mem _ h)
  have hown : s.vm.findClass RL = some m.cls := hown
  have hl : lv_has ls 4 [(0, .ref bh), (1, .int v), (2, .ref oa)] := hl
  unfold fL_append at h
  obtain ⟨z, hz, h⟩ := ob h
  refine lv_aload_n hx hb dL_append_0 rfl (lv_at hl 2 rfl) ?_
  refine lv_iconst (v := 0) hx hb dL_append_1 (by decide) ?_
  refine lv_aload_n hx hb dL_append_2 rfl (lv_at hl 0 rfl) ?_
  refine lv_iload_n hx hb dL_append_3 rfl (lv_at hl 1 rfl) ?_
  cases z with
  | inr r =>
    dsimp only at h
    refine call_i (v := r.1) (wc := (gBo bh bk bo ++ (gA t (bk 4) 60 buf))) (wc' := (gBo bh bk r.2.1 ++ (gA t (bk 4) 60 r.2.2))) (ws' := (gBo bh bk r.2.1 ++ (gA t (bk 4) 60 r.2.2 ++ (gJ t oa o9)))) (cutB (bs := [gBo bh bk bo, gA t (bk 4) 60 buf, gJ t oa o9]) (cs := [gBo bh bk bo, gA t (bk 4) 60 buf]) (cs' := [gBo bh bk r.2.1, gA t (bk 4) 60 r.2.2]) (bs' := [gBo bh bk r.2.1, gA t (bk 4) 60 r.2.2, gJ t oa o9]) [0, 1] hP hD hS hA rfl rfl rfl rfl) hS (fun hPc hDc => va_runV (As := [.int v]) (rest := [.int 0, .ref oa]) ⟨hx, hb, hml, hown, hts⟩ (mtX2_append l D t bh bk bo buf v r hz _) (cwV 1 hts (gBV kw322 kw323 kw324 kw2 kw325) rfl rfl rfl (by decide +kernel) ⟨Nat.le_of_ble_eq_true rfl, Nat.le_of_ble_eq_true rfl⟩) (sPc_V hPc hK hDc hE (va_recv hK hP (ci := 2) (q0 := 0) rfl rfl)) rfl rfl hl.1 rfl (lv_room (Nat.le_of_ble_eq_true rfl)) dL_append_4 ⟨Nat.zero_le _, Nat.zero_le _⟩) (fun H locs hP hD hS => ?_)
    refine lv_i2l (v := Int32.toInt64 r.1) hx hb dL_append_7 rfl ?_
    refine va_last hx hb hK hP hD hS 2 2 rfl rfl (pin_in (by decide)) dL_append_8 (fun H locs hP hD hS => ?_)
    have hP : va_P D vwCl (gBo bh bk r.2.1 ++ (gA t (bk 4) 60 r.2.2 ++ (gJ t oa (vp_updL o9 (Int32.toNatClampNeg 0) (Int32.toInt64 r.1))))) H := hP
    have hD : va_D A (gBo bh bk r.2.1 ++ (gA t (bk 4) 60 r.2.2 ++ (gJ t oa (vp_updL o9 (Int32.toNatClampNeg 0) (Int32.toInt64 r.1))))) := hD
    refine lv_goto (tgt := 18) hx hb dL_append_9 (by decide) ?_
    refine lv_iconst (v := 0) hx hb dL_append_18 (by decide) ?_
    obtain rfl := os h
    refine W.widen (k := 1) (n := 6) (by omega) (by omega) ?_
    exact ret_i hx hb hr hlocks hP hK hD hS dL_append_19
  | inl E =>
    dsimp only at h
    by_cases e0 : E = 1
    · have h := it_p e0 h
      subst e0
      refine call_c (E := 1) (wc := (gBo bh bk bo ++ (gA t (bk 4) 60 buf))) (ws := (gBo bh bk bo ++ (gA t (bk 4) 60 buf ++ (gJ t oa o9)))) (cutB (bs := [gBo bh bk bo, gA t (bk 4) 60 buf, gJ t oa o9]) (cs := [gBo bh bk bo, gA t (bk 4) 60 buf]) (cs' := [gBo bh bk bo, gA t (bk 4) 60 buf]) (bs' := [gBo bh bk bo, gA t (bk 4) 60 buf, gJ t oa o9]) [0, 1] hP hD hS hA rfl rfl rfl rfl) hS (fun hPc hDc hAB => vx_runV (As := [.int v]) (rest := [.int 0, .ref oa]) ⟨hx, hb, hml, hown, hts⟩ (xmX2_append l hfl D t bh bk bo buf v 1 hz _) (cwV 1 hts (gBV kw322 kw323 kw324 kw2 kw325) rfl rfl rfl (by decide +kernel) ⟨Nat.le_of_ble_eq_true rfl, Nat.le_of_ble_eq_true rfl⟩) (xPc_V hPc hK hDc hE (va_recv hK hP (ci := 2) (q0 := 0) rfl rfl) hX hS hAB) rfl rfl hl.1 rfl (lv_room (Nat.le_of_ble_eq_true rfl)) dL_append_4 ⟨Nat.le_of_ble_eq_true rfl, Nat.le_of_ble_eq_true rfl⟩) (fun ce q9 H locs hP hD hS hcell hv hcl => ?_)
      refine vx_catch (name := xname 1) hown [] ⟨0, 9, 12, 15⟩ [⟨0, 9, 15, 37⟩] hTab (fun z hz => nomatch hz) (by decide) (by decide) (htB _ kw67) (va_Nw.use rfl hX.2.2.2.1.2.2.2) hcell hv hcl ?_
      refine lv_astore_n (lv' := [(3, .ref q9), (0, .ref bh), (1, .int v), (2, .ref oa)]) hx hb dL_append_12 rfl hl (by decide) rfl (fun ls hl => ?_)
      refine lv_iconst (v := 1) hx hb dL_append_13 (by decide) ?_
      obtain rfl := os h
      exact ret_i hx hb hr hlocks hP hK hD hS dL_append_14
    · have h := it_n e0 h
      by_cases e1 : E = 2
      · have h := it_p e1 h
        subst e1
        refine call_c (E := 2) (wc := (gBo bh bk bo ++ (gA t (bk 4) 60 buf))) (ws := (gBo bh bk bo ++ (gA t (bk 4) 60 buf ++ (gJ t oa o9)))) (cutB (bs := [gBo bh bk bo, gA t (bk 4) 60 buf, gJ t oa o9]) (cs := [gBo bh bk bo, gA t (bk 4) 60 buf]) (cs' := [gBo bh bk bo, gA t (bk 4) 60 buf]) (bs' := [gBo bh bk bo, gA t (bk 4) 60 buf, gJ t oa o9]) [0, 1] hP hD hS hA rfl rfl rfl rfl) hS (fun hPc hDc hAB => vx_runV (As := [.int v]) (rest := [.int 0, .ref oa]) ⟨hx, hb, hml, hown, hts⟩ (xmX2_append l hfl D t bh bk bo buf v 2 hz _) (cwV 1 hts (gBV kw322 kw323 kw324 kw2 kw325) rfl rfl rfl (by decide +kernel) ⟨Nat.le_of_ble_eq_true rfl, Nat.le_of_ble_eq_true rfl⟩) (xPc_V hPc hK hDc hE (va_recv hK hP (ci := 2) (q0 := 0) rfl rfl) hX hS hAB) rfl rfl hl.1 rfl (lv_room (Nat.le_of_ble_eq_true rfl)) dL_append_4 ⟨Nat.le_of_ble_eq_true rfl, Nat.le_of_ble_eq_true rfl⟩) (fun ce q9 H locs hP hD hS hcell hv hcl => ?_)
        refine vx_catch (name := xname 2) hown [⟨0, 9, 12, 15⟩] ⟨0, 9, 15, 37⟩ [] hTab (fun z hz => by rcases List.mem_cons.mp hz with rfl | hz; exact Or.inr ⟨by decide, _, (htB _ kw67), hXW.2⟩; cases hz) (by decide) (by decide) (htB _ kw321) (va_Nw.use rfl hX.2.2.2.2.2.2.2) hcell hv hcl ?_
        refine lv_astore_n (lv' := [(3, .ref q9), (0, .ref bh), (1, .int v), (2, .ref oa)]) hx hb dL_append_15 rfl hl (by decide) rfl (fun ls hl => ?_)
        refine lv_iconst (v := 2) hx hb dL_append_16 (by decide) ?_
        obtain rfl := os h
        exact ret_i hx hb hr hlocks hP hK hD hS dL_append_17
      · have h := it_n e1 h
        cases h

theorem dL_play_0 : decode cL_play 0 = .ok (.aload_n 1, 1) := by decide +kernel
theorem dL_play_1 : decode cL_play 1 = .ok (.iconst 0, 1) := by decide +kernel
theorem dL_play_2 : decode cL_play 2 = .ok (.aload_n 0, 1) := by decide +kernel
theorem dL_play_3 : decode cL_play 3 = .ok (.invokevirtual 39, 3) := by decide +kernel
theorem dL_play_6 : decode cL_play 6 = .ok (.i2l, 1) := by decide +kernel
theorem dL_play_7 : decode cL_play 7 = .ok (.lastore, 1) := by decide +kernel
theorem dL_play_8 : decode cL_play 8 = .ok (.goto 6, 3) := by decide +kernel
theorem dL_play_11 : decode cL_play 11 = .ok (.astore_n 2, 1) := by decide +kernel
theorem dL_play_12 : decode cL_play 12 = .ok (.iconst 1, 1) := by decide +kernel
theorem dL_play_13 : decode cL_play 13 = .ok (.ireturn, 1) := by decide +kernel
theorem dL_play_14 : decode cL_play 14 = .ok (.iconst 0, 1) := by decide +kernel
theorem dL_play_15 : decode cL_play 15 = .ok (.ireturn, 1) := by decide +kernel
abbrev zL_play : List Cond := .codeWith yL_play cL_play 3 (some .int) [(0, 8, 11, 15)] :: BIG
def fL_play (bo : BoT) (now : ShT) (ex : ExT) (sv : (Nat → ShT)) (buf : (Nat → Int32)) (o9 : (Nat → Int64)) : Option (Int32 × BoT × ShT × ExT × (Nat → ShT) × (Nat → Int64)) := (fX2_play bo now ex sv buf).bind (fun z => match z with | .inr r => some (0, r.2.1, r.2.2.1, r.2.2.2.1, r.2.2.2.2, vp_updL o9 (Int32.toNatClampNeg 0) (Int32.toInt64 r.1)) | .inl E => if E = 1 then some (1, bo, now, ex, sv, o9) else none)
set_option maxHeartbeats 4000000 in
set_option maxRecDepth 100000 in
theorem mtL_play (l : Launch) (hfl : l.stackTraces = false) (D : va_G) (t : Nat → ClassId) (bh : Nat) (bk : Nat → Nat) (bo : BoT) (nb : Nat → Nat) (now : ShT) (eb : Nat → Nat) (ex : ExT) (sa : Nat → Nat) (sb : Nat → Nat → Nat) (sv : (Nat → ShT)) (buf : (Nat → Int32)) (oa : Nat) (o9 : (Nat → Int64)) (out : Int32 × BoT × ShT × ExT × (Nat → ShT) × (Nat → Int64)) (h : fL_play bo now ex sv buf o9 = some out) (sz : Nat) : Met l yL_play zL_play ({ frames := 7, cells := 1, slots := 6, locals := 164 }) (wPc D t (gBo bh bk bo ++ (gS t (bk 0) nb now ++ (gE t (bk 2) eb ex ++ (gQ t (bk 3) sa ++ (g6 t sa sb sv ++ (gA t (bk 4) 60 buf ++ (gJ t oa o9))))))) sz [.ref bh, .ref oa]) (qI D t (gBo bh bk out.2.1 ++ (gS t (bk 0) nb out.2.2.1 ++ (gE t (bk 2) eb out.2.2.2.1 ++ (gQ t (bk 3) sa ++ (g6 t sa sb out.2.2.2.2.1 ++ (gA t (bk 4) 60 buf ++ (gJ t oa out.2.2.2.2.2))))))) out.1 (va_A (gBo bh bk bo ++ (gS t (bk 0) nb now ++ (gE t (bk 2) eb ex ++ (gQ t (bk 3) sa ++ (g6 t sa sb sv ++ (gA t (bk 4) 60 buf ++ (gJ t oa o9))))))) sz)) 1 6 (va_A (gBo bh bk bo ++ (gS t (bk 0) nb now ++ (gE t (bk 2) eb ex ++ (gQ t (bk 3) sa ++ (g6 t sa sb sv ++ (gA t (bk 4) 60 buf ++ (gJ t oa o9))))))) sz) := by
  refine met_ofL (Qf := fun A => qI D t (gBo bh bk out.2.1 ++ (gS t (bk 0) nb out.2.2.1 ++ (gE t (bk 2) eb out.2.2.2.1 ++ (gQ t (bk 3) sa ++ (g6 t sa sb out.2.2.2.2.1 ++ (gA t (bk 4) 60 buf ++ (gJ t oa out.2.2.2.2.2))))))) out.1 A) (cc := cL_play) (maxL := 3) (ret := some .int) (hh := [(0, 8, 11, 15)]) (by decide) rfl (Nat.le_of_ble_eq_true rfl) ?_
  intro p e s m args below meth c A hx hb hr hml hts hown hlocks hA hP hK hD hE hS hX hXW hTab ls hl
  have htB : ∀ w ∈ BIG, w.before args s = true := fun w h => hts w (List.mem_cons_of_mem _ h)
  have hown : s.vm.findClass RL = some m.cls := hown
  have hl : lv_has ls 3 [(0, .ref bh), (1, .ref oa)] := hl
  unfold fL_play at h
  obtain ⟨z, hz, h⟩ := ob h
  refine lv_aload_n hx hb dL_play_0 rfl (lv_at hl 1 rfl) ?_
  refine lv_iconst (v := 0) hx hb dL_play_1 (by decide) ?_
  refine lv_aload_n hx hb dL_play_2 rfl (lv_at hl 0 rfl) ?_
  cases z with
  | inr r =>
    dsimp only at h
    refine call_i (v := r.1) (wc := (gBo bh bk bo ++ (gS t (bk 0) nb now ++ (gE t (bk 2) eb ex ++ (gQ t (bk 3) sa ++ (g6 t sa sb sv ++ (gA t (bk 4) 60 buf))))))) (wc' := (gBo bh bk r.2.1 ++ (gS t (bk 0) nb r.2.2.1 ++ (gE t (bk 2) eb r.2.2.2.1 ++ (gQ t (bk 3) sa ++ (g6 t sa sb r.2.2.2.2 ++ (gA t (bk 4) 60 buf))))))) (ws' := (gBo bh bk r.2.1 ++ (gS t (bk 0) nb r.2.2.1 ++ (gE t (bk 2) eb r.2.2.2.1 ++ (gQ t (bk 3) sa ++ (g6 t sa sb r.2.2.2.2 ++ (gA t (bk 4) 60 buf ++ (gJ t oa o9)))))))) (cutB (bs := [gBo bh bk bo, gS t (bk 0) nb now, gE t (bk 2) eb ex, gQ t (bk 3) sa, g6 t sa sb sv, gA t (bk 4) 60 buf, gJ t oa o9]) (cs := [gBo bh bk bo, gS t (bk 0) nb now, gE t (bk 2) eb ex, gQ t (bk 3) sa, g6 t sa sb sv, gA t (bk 4) 60 buf]) (cs' := [gBo bh bk r.2.1, gS t (bk 0) nb r.2.2.1, gE t (bk 2) eb r.2.2.2.1, gQ t (bk 3) sa, g6 t sa sb r.2.2.2.2, gA t (bk 4) 60 buf]) (bs' := [gBo bh bk r.2.1, gS t (bk 0) nb r.2.2.1, gE t (bk 2) eb r.2.2.2.1, gQ t (bk 3) sa, g6 t sa sb r.2.2.2.2, gA t (bk 4) 60 buf, gJ t oa o9]) [0, 1, 2, 3, 4, 5] hP hD hS hA rfl rfl rfl rfl) hS (fun hPc hDc => va_runV (As := []) (rest := [.int 0, .ref oa]) ⟨hx, hb, hml, hown, hts⟩ (mtX2_play l D t bh bk bo nb now eb ex sa sb sv buf r hz _) (cwV 0 hts (gBV kw391 kw392 kw393 kw2 kw394) rfl rfl rfl (by decide +kernel) ⟨Nat.le_of_ble_eq_true rfl, Nat.le_of_ble_eq_true rfl⟩) (sPc_V hPc hK hDc hE (va_recv hK hP (ci := 2) (q0 := 0) rfl rfl)) rfl rfl hl.1 rfl (lv_room (Nat.le_of_ble_eq_true rfl)) dL_play_3 ⟨Nat.zero_le _, Nat.zero_le _⟩) (fun H locs hP hD hS => ?_)
    refine lv_i2l (v := Int32.toInt64 r.1) hx hb dL_play_6 rfl ?_
    refine va_last hx hb hK hP hD hS 63 2 rfl rfl (pin_in (by decide)) dL_play_7 (fun H locs hP hD hS => ?_)
    have hP : va_P D vwCl (gBo bh bk r.2.1 ++ (gS t (bk 0) nb r.2.2.1 ++ (gE t (bk 2) eb r.2.2.2.1 ++ (gQ t (bk 3) sa ++ (g6 t sa sb r.2.2.2.2 ++ (gA t (bk 4) 60 buf ++ (gJ t oa (vp_updL o9 (Int32.toNatClampNeg 0) (Int32.toInt64 r.1))))))))) H := hP
    have hD : va_D A (gBo bh bk r.2.1 ++ (gS t (bk 0) nb r.2.2.1 ++ (gE t (bk 2) eb r.2.2.2.1 ++ (gQ t (bk 3) sa ++ (g6 t sa sb r.2.2.2.2 ++ (gA t (bk 4) 60 buf ++ (gJ t oa (vp_updL o9 (Int32.toNatClampNeg 0) (Int32.toInt64 r.1))))))))) := hD
    refine lv_goto (tgt := 14) hx hb dL_play_8 (by decide) ?_
    refine lv_iconst (v := 0) hx hb dL_play_14 (by decide) ?_
    obtain rfl := os h
    refine W.widen (k := 1) (n := 6) (by omega) (by omega) ?_
    exact ret_i hx hb hr hlocks hP hK hD hS dL_play_15
  | inl E =>
    dsimp only at h
    by_cases e0 : E = 1
    · have h := it_p e0 h
      subst e0
      refine call_c (E := 1) (wc := (gBo bh bk bo ++ (gS t (bk 0) nb now ++ (gE t (bk 2) eb ex ++ (gQ t (bk 3) sa ++ (g6 t sa sb sv ++ (gA t (bk 4) 60 buf))))))) (ws := (gBo bh bk bo ++ (gS t (bk 0) nb now ++ (gE t (bk 2) eb ex ++ (gQ t (bk 3) sa ++ (g6 t sa sb sv ++ (gA t (bk 4) 60 buf ++ (gJ t oa o9)))))))) (cutB (bs := [gBo bh bk bo, gS t (bk 0) nb now, gE t (bk 2) eb ex, gQ t (bk 3) sa, g6 t sa sb sv, gA t (bk 4) 60 buf, gJ t oa o9]) (cs := [gBo bh bk bo, gS t (bk 0) nb now, gE t (bk 2) eb ex, gQ t (bk 3) sa, g6 t sa sb sv, gA t (bk 4) 60 buf]) (cs' := [gBo bh bk bo, gS t (bk 0) nb now, gE t (bk 2) eb ex, gQ t (bk 3) sa, g6 t sa sb sv, gA t (bk 4) 60 buf]) (bs' := [gBo bh bk bo, gS t (bk 0) nb now, gE t (bk 2) eb ex, gQ t (bk 3) sa, g6 t sa sb sv, gA t (bk 4) 60 buf, gJ t oa o9]) [0, 1, 2, 3, 4, 5] hP hD hS hA rfl rfl rfl rfl) hS (fun hPc hDc hAB => vx_runV (As := []) (rest := [.int 0, .ref oa]) ⟨hx, hb, hml, hown, hts⟩ (xmX2_play l hfl D t bh bk bo nb now eb ex sa sb sv buf 1 hz _) (cwV 0 hts (gBV kw391 kw392 kw393 kw2 kw394) rfl rfl rfl (by decide +kernel) ⟨Nat.le_of_ble_eq_true rfl, Nat.le_of_ble_eq_true rfl⟩) (xPc_V hPc hK hDc hE (va_recv hK hP (ci := 2) (q0 := 0) rfl rfl) hX hS hAB) rfl rfl hl.1 rfl (lv_room (Nat.le_of_ble_eq_true rfl)) dL_play_3 ⟨Nat.le_of_ble_eq_true rfl, Nat.le_of_ble_eq_true rfl⟩) (fun ce q9 H locs hP hD hS hcell hv hcl => ?_)
      refine vx_catch (name := xname 1) hown [] ⟨0, 8, 11, 15⟩ [] hTab (fun z hz => nomatch hz) (by decide) (by decide) (htB _ kw67) (va_Nw.use rfl hX.2.2.2.1.2.2.2) hcell hv hcl ?_
      refine lv_astore_n (lv' := [(2, .ref q9), (0, .ref bh), (1, .ref oa)]) hx hb dL_play_11 rfl hl (by decide) rfl (fun ls hl => ?_)
      refine lv_iconst (v := 1) hx hb dL_play_12 (by decide) ?_
      obtain rfl := os h
      exact ret_i hx hb hr hlocks hP hK hD hS dL_play_13
    · have h := it_n e0 h
      cases h

theorem dL_undo_0 : decode cL_undo 0 = .ok (.aload_n 1, 1) := by decide +kernel
theorem dL_undo_1 : decode cL_undo 1 = .ok (.iconst 0, 1) := by decide +kernel
theorem dL_undo_2 : decode cL_undo 2 = .ok (.aload_n 0, 1) := by decide +kernel
theorem dL_undo_3 : decode cL_undo 3 = .ok (.invokevirtual 43, 3) := by decide +kernel
theorem dL_undo_6 : decode cL_undo 6 = .ok (.i2l, 1) := by decide +kernel
theorem dL_undo_7 : decode cL_undo 7 = .ok (.lastore, 1) := by decide +kernel
theorem dL_undo_8 : decode cL_undo 8 = .ok (.goto 6, 3) := by decide +kernel
theorem dL_undo_11 : decode cL_undo 11 = .ok (.astore_n 2, 1) := by decide +kernel
theorem dL_undo_12 : decode cL_undo 12 = .ok (.iconst 1, 1) := by decide +kernel
theorem dL_undo_13 : decode cL_undo 13 = .ok (.ireturn, 1) := by decide +kernel
theorem dL_undo_14 : decode cL_undo 14 = .ok (.iconst 0, 1) := by decide +kernel
theorem dL_undo_15 : decode cL_undo 15 = .ok (.ireturn, 1) := by decide +kernel
abbrev zL_undo : List Cond := .codeWith yL_undo cL_undo 3 (some .int) [(0, 8, 11, 37)] :: BIG
def fL_undo (bo : BoT) (now : ShT) (sv : (Nat → ShT)) (o9 : (Nat → Int64)) : Option (Int32 × BoT × ShT × (Nat → Int64)) := (fX2_undo bo now sv).bind (fun z => match z with | .inr r => some (0, r.2.1, r.2.2, vp_updL o9 (Int32.toNatClampNeg 0) (Int32.toInt64 r.1)) | .inl E => if E = 2 then some (1, bo, now, o9) else none)
set_option maxHeartbeats 4000000 in
set_option maxRecDepth 100000 in
theorem mtL_undo (l : Launch) (hfl : l.stackTraces = false) (D : va_G) (t : Nat → ClassId) (bh : Nat) (bk : Nat → Nat) (bo : BoT) (nb : Nat → Nat) (now : ShT) (sa : Nat → Nat) (sb : Nat → Nat → Nat) (sv : (Nat → ShT)) (oa : Nat) (o9 : (Nat → Int64)) (out : Int32 × BoT × ShT × (Nat → Int64)) (h : fL_undo bo now sv o9 = some out) (sz : Nat) : Met l yL_undo zL_undo ({ frames := 7, cells := 1, slots := 6, locals := 103 }) (wPc D t (gBo bh bk bo ++ (gS t (bk 0) nb now ++ (gQ t (bk 3) sa ++ (g6 t sa sb sv ++ (gJ t oa o9))))) sz [.ref bh, .ref oa]) (qI D t (gBo bh bk out.2.1 ++ (gS t (bk 0) nb out.2.2.1 ++ (gQ t (bk 3) sa ++ (g6 t sa sb sv ++ (gJ t oa out.2.2.2))))) out.1 (va_A (gBo bh bk bo ++ (gS t (bk 0) nb now ++ (gQ t (bk 3) sa ++ (g6 t sa sb sv ++ (gJ t oa o9))))) sz)) 1 6 (va_A (gBo bh bk bo ++ (gS t (bk 0) nb now ++ (gQ t (bk 3) sa ++ (g6 t sa sb sv ++ (gJ t oa o9))))) sz) := by
  refine met_ofL (Qf := fun A => qI D t (gBo bh bk out.2.1 ++ (gS t (bk 0) nb out.2.2.1 ++ (gQ t (bk 3) sa ++ (g6 t sa sb sv ++ (gJ t oa out.2.2.2))))) out.1 A) (cc := cL_undo) (maxL := 3) (ret := some .int) (hh := [(0, 8, 11, 37)]) (by decide) rfl (Nat.le_of_ble_eq_true rfl) ?_
  intro p e s m args below meth c A hx hb hr hml hts hown hlocks hA hP hK hD hE hS hX hXW hTab ls hl
  have htB : ∀ w ∈ BIG, w.before args s = true := fun w h => hts w (List.mem_cons_of_mem _ h)
  have hown : s.vm.findClass RL = some m.cls := hown
  have hl : lv_has ls 3 [(0, .ref bh), (1, .ref oa)] := hl
  unfold fL_undo at h
  obtain ⟨z, hz, h⟩ := ob h
  refine lv_aload_n hx hb dL_undo_0 rfl (lv_at hl 1 rfl) ?_
  refine lv_iconst (v := 0) hx hb dL_undo_1 (by decide) ?_
  refine lv_aload_n hx hb dL_undo_2 rfl (lv_at hl 0 rfl) ?_
  cases z with
  | inr r =>
    dsimp only at h
    refine call_i (v := r.1) (wc := (gBo bh bk bo ++ (gS t (bk 0) nb now ++ (gQ t (bk 3) sa ++ (g6 t sa sb sv))))) (wc' := (gBo bh bk r.2.1 ++ (gS t (bk 0) nb r.2.2 ++ (gQ t (bk 3) sa ++ (g6 t sa sb sv))))) (ws' := (gBo bh bk r.2.1 ++ (gS t (bk 0) nb r.2.2 ++ (gQ t (bk 3) sa ++ (g6 t sa sb sv ++ (gJ t oa o9)))))) (cutB (bs := [gBo bh bk bo, gS t (bk 0) nb now, gQ t (bk 3) sa, g6 t sa sb sv, gJ t oa o9]) (cs := [gBo bh bk bo, gS t (bk 0) nb now, gQ t (bk 3) sa, g6 t sa sb sv]) (cs' := [gBo bh bk r.2.1, gS t (bk 0) nb r.2.2, gQ t (bk 3) sa, g6 t sa sb sv]) (bs' := [gBo bh bk r.2.1, gS t (bk 0) nb r.2.2, gQ t (bk 3) sa, g6 t sa sb sv, gJ t oa o9]) [0, 1, 2, 3] hP hD hS hA rfl rfl rfl rfl) hS (fun hPc hDc => va_runV (As := []) (rest := [.int 0, .ref oa]) ⟨hx, hb, hml, hown, hts⟩ (mtX2_undo l D t bh bk bo nb now sa sb sv r hz _) (cwV 0 hts (gBV kw418 kw419 kw420 kw2 kw421) rfl rfl rfl (by decide +kernel) ⟨Nat.le_of_ble_eq_true rfl, Nat.le_of_ble_eq_true rfl⟩) (sPc_V hPc hK hDc hE (va_recv hK hP (ci := 2) (q0 := 0) rfl rfl)) rfl rfl hl.1 rfl (lv_room (Nat.le_of_ble_eq_true rfl)) dL_undo_3 ⟨Nat.zero_le _, Nat.zero_le _⟩) (fun H locs hP hD hS => ?_)
    refine lv_i2l (v := Int32.toInt64 r.1) hx hb dL_undo_6 rfl ?_
    refine va_last hx hb hK hP hD hS 58 2 rfl rfl (pin_in (by decide)) dL_undo_7 (fun H locs hP hD hS => ?_)
    have hP : va_P D vwCl (gBo bh bk r.2.1 ++ (gS t (bk 0) nb r.2.2 ++ (gQ t (bk 3) sa ++ (g6 t sa sb sv ++ (gJ t oa (vp_updL o9 (Int32.toNatClampNeg 0) (Int32.toInt64 r.1))))))) H := hP
    have hD : va_D A (gBo bh bk r.2.1 ++ (gS t (bk 0) nb r.2.2 ++ (gQ t (bk 3) sa ++ (g6 t sa sb sv ++ (gJ t oa (vp_updL o9 (Int32.toNatClampNeg 0) (Int32.toInt64 r.1))))))) := hD
    refine lv_goto (tgt := 14) hx hb dL_undo_8 (by decide) ?_
    refine lv_iconst (v := 0) hx hb dL_undo_14 (by decide) ?_
    obtain rfl := os h
    refine W.widen (k := 1) (n := 6) (by omega) (by omega) ?_
    exact ret_i hx hb hr hlocks hP hK hD hS dL_undo_15
  | inl E =>
    dsimp only at h
    by_cases e0 : E = 2
    · have h := it_p e0 h
      subst e0
      refine call_c (E := 2) (wc := (gBo bh bk bo ++ (gS t (bk 0) nb now ++ (gQ t (bk 3) sa ++ (g6 t sa sb sv))))) (ws := (gBo bh bk bo ++ (gS t (bk 0) nb now ++ (gQ t (bk 3) sa ++ (g6 t sa sb sv ++ (gJ t oa o9)))))) (cutB (bs := [gBo bh bk bo, gS t (bk 0) nb now, gQ t (bk 3) sa, g6 t sa sb sv, gJ t oa o9]) (cs := [gBo bh bk bo, gS t (bk 0) nb now, gQ t (bk 3) sa, g6 t sa sb sv]) (cs' := [gBo bh bk bo, gS t (bk 0) nb now, gQ t (bk 3) sa, g6 t sa sb sv]) (bs' := [gBo bh bk bo, gS t (bk 0) nb now, gQ t (bk 3) sa, g6 t sa sb sv, gJ t oa o9]) [0, 1, 2, 3] hP hD hS hA rfl rfl rfl rfl) hS (fun hPc hDc hAB => vx_runV (As := []) (rest := [.int 0, .ref oa]) ⟨hx, hb, hml, hown, hts⟩ (xmX2_undo l hfl D t bh bk bo nb now sa sb sv 2 hz _) (cwV 0 hts (gBV kw418 kw419 kw420 kw2 kw421) rfl rfl rfl (by decide +kernel) ⟨Nat.le_of_ble_eq_true rfl, Nat.le_of_ble_eq_true rfl⟩) (xPc_V hPc hK hDc hE (va_recv hK hP (ci := 2) (q0 := 0) rfl rfl) hX hS hAB) rfl rfl hl.1 rfl (lv_room (Nat.le_of_ble_eq_true rfl)) dL_undo_3 ⟨Nat.le_of_ble_eq_true rfl, Nat.le_of_ble_eq_true rfl⟩) (fun ce q9 H locs hP hD hS hcell hv hcl => ?_)
      refine vx_catch (name := xname 2) hown [] ⟨0, 8, 11, 37⟩ [] hTab (fun z hz => nomatch hz) (by decide) (by decide) (htB _ kw321) (va_Nw.use rfl hX.2.2.2.2.2.2.2) hcell hv hcl ?_
      refine lv_astore_n (lv' := [(2, .ref q9), (0, .ref bh), (1, .ref oa)]) hx hb dL_undo_11 rfl hl (by decide) rfl (fun ls hl => ?_)
      refine lv_iconst (v := 1) hx hb dL_undo_12 (by decide) ?_
      obtain rfl := os h
      exact ret_i hx hb hr hlocks hP hK hD hS dL_undo_13
    · have h := it_n e0 h
      cases h

theorem dL_curtain_0 : decode cL_curtain 0 = .ok (.aload_n 3, 1) := by decide +kernel
theorem dL_curtain_1 : decode cL_curtain 1 = .ok (.iconst 0, 1) := by decide +kernel
theorem dL_curtain_2 : decode cL_curtain 2 = .ok (.aload_n 0, 1) := by decide +kernel
theorem dL_curtain_3 : decode cL_curtain 3 = .ok (.iload_n 1, 1) := by decide +kernel
theorem dL_curtain_4 : decode cL_curtain 4 = .ok (.iload_n 2, 1) := by decide +kernel
theorem dL_curtain_5 : decode cL_curtain 5 = .ok (.invokevirtual 46, 3) := by decide +kernel
theorem dL_curtain_8 : decode cL_curtain 8 = .ok (.i2l, 1) := by decide +kernel
theorem dL_curtain_9 : decode cL_curtain 9 = .ok (.lastore, 1) := by decide +kernel
theorem dL_curtain_10 : decode cL_curtain 10 = .ok (.goto 11, 3) := by decide +kernel
theorem dL_curtain_13 : decode cL_curtain 13 = .ok (.astore 4, 2) := by decide +kernel
theorem dL_curtain_15 : decode cL_curtain 15 = .ok (.iconst 1, 1) := by decide +kernel
theorem dL_curtain_16 : decode cL_curtain 16 = .ok (.ireturn, 1) := by decide +kernel
theorem dL_curtain_17 : decode cL_curtain 17 = .ok (.astore 4, 2) := by decide +kernel
theorem dL_curtain_19 : decode cL_curtain 19 = .ok (.iconst 2, 1) := by decide +kernel
theorem dL_curtain_20 : decode cL_curtain 20 = .ok (.ireturn, 1) := by decide +kernel
theorem dL_curtain_21 : decode cL_curtain 21 = .ok (.iconst 0, 1) := by decide +kernel
theorem dL_curtain_22 : decode cL_curtain 22 = .ok (.ireturn, 1) := by decide +kernel
abbrev zL_curtain : List Cond := .codeWith yL_curtain cL_curtain 5 (some .int) [(0, 10, 13, 13), (0, 10, 17, 15)] :: BIG
def fL_curtain (bo : BoT) (now : ShT) (cu : Int32) (w : Int32) (o9 : (Nat → Int64)) : Option (Int32 × (Nat → Int64)) := (fX2_curtain bo now cu w).bind (fun z => match z with | .inr r => some (0, vp_updL o9 (Int32.toNatClampNeg 0) (Int32.toInt64 r)) | .inl E => if E = 0 then some (1, o9) else if E = 1 then some (2, o9) else none)
set_option maxHeartbeats 4000000 in
set_option maxRecDepth 100000 in
theorem mtL_curtain (l : Launch) (hfl : l.stackTraces = false) (D : va_G) (t : Nat → ClassId) (bh : Nat) (bk : Nat → Nat) (bo : BoT) (nb : Nat → Nat) (now : ShT) (cu : Int32) (w : Int32) (oa : Nat) (o9 : (Nat → Int64)) (out : Int32 × (Nat → Int64)) (h : fL_curtain bo now cu w o9 = some out) (sz : Nat) : Met l yL_curtain zL_curtain ({ frames := 9, cells := 1, slots := 6, locals := 145 }) (wPc D t (gBo bh bk bo ++ (gS t (bk 0) nb now ++ (gJ t oa o9))) sz [.ref bh, .int cu, .int w, .ref oa]) (qI D t (gBo bh bk bo ++ (gS t (bk 0) nb now ++ (gJ t oa out.2))) out.1 (va_A (gBo bh bk bo ++ (gS t (bk 0) nb now ++ (gJ t oa o9))) sz)) 1 6 (va_A (gBo bh bk bo ++ (gS t (bk 0) nb now ++ (gJ t oa o9))) sz) := by
  refine met_ofL (Qf := fun A => qI D t (gBo bh bk bo ++ (gS t (bk 0) nb now ++ (gJ t oa out.2))) out.1 A) (cc := cL_curtain) (maxL := 5) (ret := some .int) (hh := [(0, 10, 13, 13), (0, 10, 17, 15)]) (by decide) rfl (Nat.le_of_ble_eq_true rfl) ?_
  intro p e s m args below meth c A hx hb hr hml hts hown hlocks hA hP hK hD hE hS hX hXW hTab ls hl
  have htB : ∀ w ∈ BIG, w.before args s = true := fun w h => hts w (List.mem_cons_of_mem _ h)
  have hown : s.vm.findClass RL = some m.cls := hown
  have hl : lv_has ls 5 [(0, .ref bh), (1, .int cu), (2, .int w), (3, .ref oa)] := hl
  unfold fL_curtain at h
  obtain ⟨z, hz, h⟩ := ob h
  refine lv_aload_n hx hb dL_curtain_0 rfl (lv_at hl 3 rfl) ?_
  refine lv_iconst (v := 0) hx hb dL_curtain_1 (by decide) ?_
  refine lv_aload_n hx hb dL_curtain_2 rfl (lv_at hl 0 rfl) ?_
  refine lv_iload_n hx hb dL_curtain_3 rfl (lv_at hl 1 rfl) ?_
  refine lv_iload_n hx hb dL_curtain_4 rfl (lv_at hl 2 rfl) ?_
  cases z with
  | inr r =>
    dsimp only at h
    refine call_i (v := r) (wc := (gBo bh bk bo ++ (gS t (bk 0) nb now))) (wc' := (gBo bh bk bo ++ (gS t (bk 0) nb now))) (ws' := (gBo bh bk bo ++ (gS t (bk 0) nb now ++ (gJ t oa o9)))) (cutB (bs := [gBo bh bk bo, gS t (bk 0) nb now, gJ t oa o9]) (cs := [gBo bh bk bo, gS t (bk 0) nb now]) (cs' := [gBo bh bk bo, gS t (bk 0) nb now]) (bs' := [gBo bh bk bo, gS t (bk 0) nb now, gJ t oa o9]) [0, 1] hP hD hS hA rfl rfl rfl rfl) hS (fun hPc hDc => va_runV (As := [.int cu, .int w]) (rest := [.int 0, .ref oa]) ⟨hx, hb, hml, hown, hts⟩ (mtX2_curtain l D t bh bk bo nb now cu w r hz _) (cwV 2 hts (gBV kw429 kw430 kw431 kw2 kw432) rfl rfl rfl (by decide +kernel) ⟨Nat.le_of_ble_eq_true rfl, Nat.le_of_ble_eq_true rfl⟩) (sPc_V hPc hK hDc hE (va_recv hK hP (ci := 2) (q0 := 0) rfl rfl)) rfl rfl hl.1 rfl (lv_room (Nat.le_of_ble_eq_true rfl)) dL_curtain_5 ⟨Nat.zero_le _, Nat.zero_le _⟩) (fun H locs hP hD hS => ?_)
    refine lv_i2l (v := Int32.toInt64 r) hx hb dL_curtain_8 rfl ?_
    refine va_last hx hb hK hP hD hS 9 2 rfl rfl (pin_in (by decide)) dL_curtain_9 (fun H locs hP hD hS => ?_)
    have hP : va_P D vwCl (gBo bh bk bo ++ (gS t (bk 0) nb now ++ (gJ t oa (vp_updL o9 (Int32.toNatClampNeg 0) (Int32.toInt64 r))))) H := hP
    have hD : va_D A (gBo bh bk bo ++ (gS t (bk 0) nb now ++ (gJ t oa (vp_updL o9 (Int32.toNatClampNeg 0) (Int32.toInt64 r))))) := hD
    refine lv_goto (tgt := 21) hx hb dL_curtain_10 (by decide) ?_
    refine lv_iconst (v := 0) hx hb dL_curtain_21 (by decide) ?_
    obtain rfl := os h
    refine W.widen (k := 1) (n := 6) (by omega) (by omega) ?_
    exact ret_i hx hb hr hlocks hP hK hD hS dL_curtain_22
  | inl E =>
    dsimp only at h
    by_cases e0 : E = 0
    · have h := it_p e0 h
      subst e0
      refine call_c (E := 0) (wc := (gBo bh bk bo ++ (gS t (bk 0) nb now))) (ws := (gBo bh bk bo ++ (gS t (bk 0) nb now ++ (gJ t oa o9)))) (cutB (bs := [gBo bh bk bo, gS t (bk 0) nb now, gJ t oa o9]) (cs := [gBo bh bk bo, gS t (bk 0) nb now]) (cs' := [gBo bh bk bo, gS t (bk 0) nb now]) (bs' := [gBo bh bk bo, gS t (bk 0) nb now, gJ t oa o9]) [0, 1] hP hD hS hA rfl rfl rfl rfl) hS (fun hPc hDc hAB => vx_runV (As := [.int cu, .int w]) (rest := [.int 0, .ref oa]) ⟨hx, hb, hml, hown, hts⟩ (xmX2_curtain l hfl D t bh bk bo nb now cu w 0 hz _) (cwV 2 hts (gBV kw429 kw430 kw431 kw2 kw432) rfl rfl rfl (by decide +kernel) ⟨Nat.le_of_ble_eq_true rfl, Nat.le_of_ble_eq_true rfl⟩) (xPc_V hPc hK hDc hE (va_recv hK hP (ci := 2) (q0 := 0) rfl rfl) hX hS hAB) rfl rfl hl.1 rfl (lv_room (Nat.le_of_ble_eq_true rfl)) dL_curtain_5 ⟨Nat.le_of_ble_eq_true rfl, Nat.le_of_ble_eq_true rfl⟩) (fun ce q9 H locs hP hD hS hcell hv hcl => ?_)
      refine vx_catch (name := xname 0) hown [] ⟨0, 10, 13, 13⟩ [⟨0, 10, 17, 15⟩] hTab (fun z hz => nomatch hz) (by decide) (by decide) (htB _ kw66) (va_Nw.use rfl hX.2.2.1.2.2.2) hcell hv hcl ?_
      refine lv_astore (lv' := [(4, .ref q9), (0, .ref bh), (1, .int cu), (2, .int w), (3, .ref oa)]) hx hb dL_curtain_13 hl (by decide) rfl (fun ls hl => ?_)
      refine lv_iconst (v := 1) hx hb dL_curtain_15 (by decide) ?_
      obtain rfl := os h
      exact ret_i hx hb hr hlocks hP hK hD hS dL_curtain_16
    · have h := it_n e0 h
      by_cases e1 : E = 1
      · have h := it_p e1 h
        subst e1
        refine call_c (E := 1) (wc := (gBo bh bk bo ++ (gS t (bk 0) nb now))) (ws := (gBo bh bk bo ++ (gS t (bk 0) nb now ++ (gJ t oa o9)))) (cutB (bs := [gBo bh bk bo, gS t (bk 0) nb now, gJ t oa o9]) (cs := [gBo bh bk bo, gS t (bk 0) nb now]) (cs' := [gBo bh bk bo, gS t (bk 0) nb now]) (bs' := [gBo bh bk bo, gS t (bk 0) nb now, gJ t oa o9]) [0, 1] hP hD hS hA rfl rfl rfl rfl) hS (fun hPc hDc hAB => vx_runV (As := [.int cu, .int w]) (rest := [.int 0, .ref oa]) ⟨hx, hb, hml, hown, hts⟩ (xmX2_curtain l hfl D t bh bk bo nb now cu w 1 hz _) (cwV 2 hts (gBV kw429 kw430 kw431 kw2 kw432) rfl rfl rfl (by decide +kernel) ⟨Nat.le_of_ble_eq_true rfl, Nat.le_of_ble_eq_true rfl⟩) (xPc_V hPc hK hDc hE (va_recv hK hP (ci := 2) (q0 := 0) rfl rfl) hX hS hAB) rfl rfl hl.1 rfl (lv_room (Nat.le_of_ble_eq_true rfl)) dL_curtain_5 ⟨Nat.le_of_ble_eq_true rfl, Nat.le_of_ble_eq_true rfl⟩) (fun ce q9 H locs hP hD hS hcell hv hcl => ?_)
        refine vx_catch (name := xname 1) hown [⟨0, 10, 13, 13⟩] ⟨0, 10, 17, 15⟩ [] hTab (fun z hz => by rcases List.mem_cons.mp hz with rfl | hz; exact Or.inr ⟨by decide, _, (htB _ kw66), hXW.1⟩; cases hz) (by decide) (by decide) (htB _ kw67) (va_Nw.use rfl hX.2.2.2.1.2.2.2) hcell hv hcl ?_
        refine lv_astore (lv' := [(4, .ref q9), (0, .ref bh), (1, .int cu), (2, .int w), (3, .ref oa)]) hx hb dL_curtain_17 hl (by decide) rfl (fun ls hl => ?_)
        refine lv_iconst (v := 2) hx hb dL_curtain_19 (by decide) ?_
        obtain rfl := os h
        exact ret_i hx hb hr hlocks hP hK hD hS dL_curtain_20
      · have h := it_n e1 h
        cases h

theorem dL_column_0 : decode cL_column 0 = .ok (.aload 4, 2) := by decide +kernel
theorem dL_column_2 : decode cL_column 2 = .ok (.iconst 0, 1) := by decide +kernel
theorem dL_column_3 : decode cL_column 3 = .ok (.aload_n 0, 1) := by decide +kernel
theorem dL_column_4 : decode cL_column 4 = .ok (.iload_n 1, 1) := by decide +kernel
theorem dL_column_5 : decode cL_column 5 = .ok (.iload_n 2, 1) := by decide +kernel
theorem dL_column_6 : decode cL_column 6 = .ok (.iload_n 3, 1) := by decide +kernel
theorem dL_column_7 : decode cL_column 7 = .ok (.invokevirtual 49, 3) := by decide +kernel
theorem dL_column_10 : decode cL_column 10 = .ok (.i2l, 1) := by decide +kernel
theorem dL_column_11 : decode cL_column 11 = .ok (.lastore, 1) := by decide +kernel
theorem dL_column_12 : decode cL_column 12 = .ok (.goto 11, 3) := by decide +kernel
theorem dL_column_15 : decode cL_column 15 = .ok (.astore 5, 2) := by decide +kernel
theorem dL_column_17 : decode cL_column 17 = .ok (.iconst 1, 1) := by decide +kernel
theorem dL_column_18 : decode cL_column 18 = .ok (.ireturn, 1) := by decide +kernel
theorem dL_column_19 : decode cL_column 19 = .ok (.astore 5, 2) := by decide +kernel
theorem dL_column_21 : decode cL_column 21 = .ok (.iconst 2, 1) := by decide +kernel
theorem dL_column_22 : decode cL_column 22 = .ok (.ireturn, 1) := by decide +kernel
theorem dL_column_23 : decode cL_column 23 = .ok (.iconst 0, 1) := by decide +kernel
theorem dL_column_24 : decode cL_column 24 = .ok (.ireturn, 1) := by decide +kernel
abbrev zL_column : List Cond := .codeWith yL_column cL_column 6 (some .int) [(0, 12, 15, 13), (0, 12, 19, 15)] :: BIG
def fL_column (bo : BoT) (now : ShT) (ex : ExT) (v : Int32) (k : Int32) (w : Int32) (o9 : (Nat → Int64)) : Option (Int32 × ExT × (Nat → Int64)) := (fX2_column bo now ex v k w).bind (fun z => match z with | .inr r => some (0, r.2, vp_updL o9 (Int32.toNatClampNeg 0) (Int32.toInt64 r.1)) | .inl E => if E = 0 then some (1, ex, o9) else if E = 1 then some (2, ex, o9) else none)
set_option maxHeartbeats 4000000 in
set_option maxRecDepth 100000 in
theorem mtL_column (l : Launch) (hfl : l.stackTraces = false) (D : va_G) (t : Nat → ClassId) (bh : Nat) (bk : Nat → Nat) (bo : BoT) (nb : Nat → Nat) (now : ShT) (eb : Nat → Nat) (ex : ExT) (v : Int32) (k : Int32) (w : Int32) (oa : Nat) (o9 : (Nat → Int64)) (out : Int32 × ExT × (Nat → Int64)) (h : fL_column bo now ex v k w o9 = some out) (sz : Nat) : Met l yL_column zL_column ({ frames := 9, cells := 1, slots := 6, locals := 146 }) (wPc D t (gBo bh bk bo ++ (gS t (bk 0) nb now ++ (gE t (bk 2) eb ex ++ (gJ t oa o9)))) sz [.ref bh, .int v, .int k, .int w, .ref oa]) (qI D t (gBo bh bk bo ++ (gS t (bk 0) nb now ++ (gE t (bk 2) eb out.2.1 ++ (gJ t oa out.2.2)))) out.1 (va_A (gBo bh bk bo ++ (gS t (bk 0) nb now ++ (gE t (bk 2) eb ex ++ (gJ t oa o9)))) sz)) 1 6 (va_A (gBo bh bk bo ++ (gS t (bk 0) nb now ++ (gE t (bk 2) eb ex ++ (gJ t oa o9)))) sz) := by
  refine met_ofL (Qf := fun A => qI D t (gBo bh bk bo ++ (gS t (bk 0) nb now ++ (gE t (bk 2) eb out.2.1 ++ (gJ t oa out.2.2)))) out.1 A) (cc := cL_column) (maxL := 6) (ret := some .int) (hh := [(0, 12, 15, 13), (0, 12, 19, 15)]) (by decide) rfl (Nat.le_of_ble_eq_true rfl) ?_
  intro p e s m args below meth c A hx hb hr hml hts hown hlocks hA hP hK hD hE hS hX hXW hTab ls hl
  have htB : ∀ w ∈ BIG, w.before args s = true := fun w h => hts w (List.mem_cons_of_mem _ h)
  have hown : s.vm.findClass RL = some m.cls := hown
  have hl : lv_has ls 6 [(0, .ref bh), (1, .int v), (2, .int k), (3, .int w), (4, .ref oa)] := hl
  unfold fL_column at h
  obtain ⟨z, hz, h⟩ := ob h
  refine lv_aload hx hb dL_column_0 (lv_at hl 4 rfl) ?_
  refine lv_iconst (v := 0) hx hb dL_column_2 (by decide) ?_
  refine lv_aload_n hx hb dL_column_3 rfl (lv_at hl 0 rfl) ?_
  refine lv_iload_n hx hb dL_column_4 rfl (lv_at hl 1 rfl) ?_
  refine lv_iload_n hx hb dL_column_5 rfl (lv_at hl 2 rfl) ?_
  refine lv_iload_n hx hb dL_column_6 rfl (lv_at hl 3 rfl) ?_
  cases z with
  | inr r =>
    dsimp only at h
    refine call_i (v := r.1) (wc := (gBo bh bk bo ++ (gS t (bk 0) nb now ++ (gE t (bk 2) eb ex)))) (wc' := (gBo bh bk bo ++ (gS t (bk 0) nb now ++ (gE t (bk 2) eb r.2)))) (ws' := (gBo bh bk bo ++ (gS t (bk 0) nb now ++ (gE t (bk 2) eb r.2 ++ (gJ t oa o9))))) (cutB (bs := [gBo bh bk bo, gS t (bk 0) nb now, gE t (bk 2) eb ex, gJ t oa o9]) (cs := [gBo bh bk bo, gS t (bk 0) nb now, gE t (bk 2) eb ex]) (cs' := [gBo bh bk bo, gS t (bk 0) nb now, gE t (bk 2) eb r.2]) (bs' := [gBo bh bk bo, gS t (bk 0) nb now, gE t (bk 2) eb r.2, gJ t oa o9]) [0, 1, 2] hP hD hS hA rfl rfl rfl rfl) hS (fun hPc hDc => va_runV (As := [.int v, .int k, .int w]) (rest := [.int 0, .ref oa]) ⟨hx, hb, hml, hown, hts⟩ (mtX2_column l D t bh bk bo nb now eb ex v k w r hz _) (cwV 3 hts (gBV kw454 kw455 kw456 kw2 kw457) rfl rfl rfl (by decide +kernel) ⟨Nat.le_of_ble_eq_true rfl, Nat.le_of_ble_eq_true rfl⟩) (sPc_V hPc hK hDc hE (va_recv hK hP (ci := 2) (q0 := 0) rfl rfl)) rfl rfl hl.1 rfl (lv_room (Nat.le_of_ble_eq_true rfl)) dL_column_7 ⟨Nat.zero_le _, Nat.zero_le _⟩) (fun H locs hP hD hS => ?_)
    refine lv_i2l (v := Int32.toInt64 r.1) hx hb dL_column_10 rfl ?_
    refine va_last hx hb hK hP hD hS 13 2 rfl rfl (pin_in (by decide)) dL_column_11 (fun H locs hP hD hS => ?_)
    have hP : va_P D vwCl (gBo bh bk bo ++ (gS t (bk 0) nb now ++ (gE t (bk 2) eb r.2 ++ (gJ t oa (vp_updL o9 (Int32.toNatClampNeg 0) (Int32.toInt64 r.1)))))) H := hP
    have hD : va_D A (gBo bh bk bo ++ (gS t (bk 0) nb now ++ (gE t (bk 2) eb r.2 ++ (gJ t oa (vp_updL o9 (Int32.toNatClampNeg 0) (Int32.toInt64 r.1)))))) := hD
    refine lv_goto (tgt := 23) hx hb dL_column_12 (by decide) ?_
    refine lv_iconst (v := 0) hx hb dL_column_23 (by decide) ?_
    obtain rfl := os h
    refine W.widen (k := 1) (n := 6) (by omega) (by omega) ?_
    exact ret_i hx hb hr hlocks hP hK hD hS dL_column_24
  | inl E =>
    dsimp only at h
    by_cases e0 : E = 0
    · have h := it_p e0 h
      subst e0
      refine call_c (E := 0) (wc := (gBo bh bk bo ++ (gS t (bk 0) nb now ++ (gE t (bk 2) eb ex)))) (ws := (gBo bh bk bo ++ (gS t (bk 0) nb now ++ (gE t (bk 2) eb ex ++ (gJ t oa o9))))) (cutB (bs := [gBo bh bk bo, gS t (bk 0) nb now, gE t (bk 2) eb ex, gJ t oa o9]) (cs := [gBo bh bk bo, gS t (bk 0) nb now, gE t (bk 2) eb ex]) (cs' := [gBo bh bk bo, gS t (bk 0) nb now, gE t (bk 2) eb ex]) (bs' := [gBo bh bk bo, gS t (bk 0) nb now, gE t (bk 2) eb ex, gJ t oa o9]) [0, 1, 2] hP hD hS hA rfl rfl rfl rfl) hS (fun hPc hDc hAB => vx_runV (As := [.int v, .int k, .int w]) (rest := [.int 0, .ref oa]) ⟨hx, hb, hml, hown, hts⟩ (xmX2_column l hfl D t bh bk bo nb now eb ex v k w 0 hz _) (cwV 3 hts (gBV kw454 kw455 kw456 kw2 kw457) rfl rfl rfl (by decide +kernel) ⟨Nat.le_of_ble_eq_true rfl, Nat.le_of_ble_eq_true rfl⟩) (xPc_V hPc hK hDc hE (va_recv hK hP (ci := 2) (q0 := 0) rfl rfl) hX hS hAB) rfl rfl hl.1 rfl (lv_room (Nat.le_of_ble_eq_true rfl)) dL_column_7 ⟨Nat.le_of_ble_eq_true rfl, Nat.le_of_ble_eq_true rfl⟩) (fun ce q9 H locs hP hD hS hcell hv hcl => ?_)
      refine vx_catch (name := xname 0) hown [] ⟨0, 12, 15, 13⟩ [⟨0, 12, 19, 15⟩] hTab (fun z hz => nomatch hz) (by decide) (by decide) (htB _ kw66) (va_Nw.use rfl hX.2.2.1.2.2.2) hcell hv hcl ?_
      refine lv_astore (lv' := [(5, .ref q9), (0, .ref bh), (1, .int v), (2, .int k), (3, .int w), (4, .ref oa)]) hx hb dL_column_15 hl (by decide) rfl (fun ls hl => ?_)
      refine lv_iconst (v := 1) hx hb dL_column_17 (by decide) ?_
      obtain rfl := os h
      exact ret_i hx hb hr hlocks hP hK hD hS dL_column_18
    · have h := it_n e0 h
      by_cases e1 : E = 1
      · have h := it_p e1 h
        subst e1
        refine call_c (E := 1) (wc := (gBo bh bk bo ++ (gS t (bk 0) nb now ++ (gE t (bk 2) eb ex)))) (ws := (gBo bh bk bo ++ (gS t (bk 0) nb now ++ (gE t (bk 2) eb ex ++ (gJ t oa o9))))) (cutB (bs := [gBo bh bk bo, gS t (bk 0) nb now, gE t (bk 2) eb ex, gJ t oa o9]) (cs := [gBo bh bk bo, gS t (bk 0) nb now, gE t (bk 2) eb ex]) (cs' := [gBo bh bk bo, gS t (bk 0) nb now, gE t (bk 2) eb ex]) (bs' := [gBo bh bk bo, gS t (bk 0) nb now, gE t (bk 2) eb ex, gJ t oa o9]) [0, 1, 2] hP hD hS hA rfl rfl rfl rfl) hS (fun hPc hDc hAB => vx_runV (As := [.int v, .int k, .int w]) (rest := [.int 0, .ref oa]) ⟨hx, hb, hml, hown, hts⟩ (xmX2_column l hfl D t bh bk bo nb now eb ex v k w 1 hz _) (cwV 3 hts (gBV kw454 kw455 kw456 kw2 kw457) rfl rfl rfl (by decide +kernel) ⟨Nat.le_of_ble_eq_true rfl, Nat.le_of_ble_eq_true rfl⟩) (xPc_V hPc hK hDc hE (va_recv hK hP (ci := 2) (q0 := 0) rfl rfl) hX hS hAB) rfl rfl hl.1 rfl (lv_room (Nat.le_of_ble_eq_true rfl)) dL_column_7 ⟨Nat.le_of_ble_eq_true rfl, Nat.le_of_ble_eq_true rfl⟩) (fun ce q9 H locs hP hD hS hcell hv hcl => ?_)
        refine vx_catch (name := xname 1) hown [⟨0, 12, 15, 13⟩] ⟨0, 12, 19, 15⟩ [] hTab (fun z hz => by rcases List.mem_cons.mp hz with rfl | hz; exact Or.inr ⟨by decide, _, (htB _ kw66), hXW.1⟩; cases hz) (by decide) (by decide) (htB _ kw67) (va_Nw.use rfl hX.2.2.2.1.2.2.2) hcell hv hcl ?_
        refine lv_astore (lv' := [(5, .ref q9), (0, .ref bh), (1, .int v), (2, .int k), (3, .int w), (4, .ref oa)]) hx hb dL_column_19 hl (by decide) rfl (fun ls hl => ?_)
        refine lv_iconst (v := 2) hx hb dL_column_21 (by decide) ?_
        obtain rfl := os h
        exact ret_i hx hb hr hlocks hP hK hD hS dL_column_22
      · have h := it_n e1 h
        cases h

theorem dL_speed_0 : decode cL_speed 0 = .ok (.aload_n 3, 1) := by decide +kernel
theorem dL_speed_1 : decode cL_speed 1 = .ok (.iconst 0, 1) := by decide +kernel
theorem dL_speed_2 : decode cL_speed 2 = .ok (.aload_n 0, 1) := by decide +kernel
theorem dL_speed_3 : decode cL_speed 3 = .ok (.iload_n 1, 1) := by decide +kernel
theorem dL_speed_4 : decode cL_speed 4 = .ok (.iload_n 2, 1) := by decide +kernel
theorem dL_speed_5 : decode cL_speed 5 = .ok (.invokevirtual 53, 3) := by decide +kernel
theorem dL_speed_8 : decode cL_speed 8 = .ok (.i2l, 1) := by decide +kernel
theorem dL_speed_9 : decode cL_speed 9 = .ok (.lastore, 1) := by decide +kernel
theorem dL_speed_10 : decode cL_speed 10 = .ok (.goto 11, 3) := by decide +kernel
theorem dL_speed_13 : decode cL_speed 13 = .ok (.astore 4, 2) := by decide +kernel
theorem dL_speed_15 : decode cL_speed 15 = .ok (.iconst 1, 1) := by decide +kernel
theorem dL_speed_16 : decode cL_speed 16 = .ok (.ireturn, 1) := by decide +kernel
theorem dL_speed_17 : decode cL_speed 17 = .ok (.astore 4, 2) := by decide +kernel
theorem dL_speed_19 : decode cL_speed 19 = .ok (.iconst 2, 1) := by decide +kernel
theorem dL_speed_20 : decode cL_speed 20 = .ok (.ireturn, 1) := by decide +kernel
theorem dL_speed_21 : decode cL_speed 21 = .ok (.iconst 0, 1) := by decide +kernel
theorem dL_speed_22 : decode cL_speed 22 = .ok (.ireturn, 1) := by decide +kernel
abbrev zL_speed : List Cond := .codeWith yL_speed cL_speed 5 (some .int) [(0, 10, 13, 13), (0, 10, 17, 15)] :: BIG
def fL_speed (bo : BoT) (now : ShT) (ex : ExT) (v : Int32) (w : Int32) (o9 : (Nat → Int64)) : Option (Int32 × ExT × (Nat → Int64)) := (fX2_speed bo now ex v w).bind (fun z => match z with | .inr r => some (0, r.2, vp_updL o9 (Int32.toNatClampNeg 0) (Int32.toInt64 r.1)) | .inl E => if E = 0 then some (1, ex, o9) else if E = 1 then some (2, ex, o9) else none)
set_option maxHeartbeats 4000000 in
set_option maxRecDepth 100000 in
theorem mtL_speed (l : Launch) (hfl : l.stackTraces = false) (D : va_G) (t : Nat → ClassId) (bh : Nat) (bk : Nat → Nat) (bo : BoT) (nb : Nat → Nat) (now : ShT) (eb : Nat → Nat) (ex : ExT) (v : Int32) (w : Int32) (oa : Nat) (o9 : (Nat → Int64)) (out : Int32 × ExT × (Nat → Int64)) (h : fL_speed bo now ex v w o9 = some out) (sz : Nat) : Met l yL_speed zL_speed ({ frames := 9, cells := 1, slots := 6, locals := 145 }) (wPc D t (gBo bh bk bo ++ (gS t (bk 0) nb now ++ (gE t (bk 2) eb ex ++ (gJ t oa o9)))) sz [.ref bh, .int v, .int w, .ref oa]) (qI D t (gBo bh bk bo ++ (gS t (bk 0) nb now ++ (gE t (bk 2) eb out.2.1 ++ (gJ t oa out.2.2)))) out.1 (va_A (gBo bh bk bo ++ (gS t (bk 0) nb now ++ (gE t (bk 2) eb ex ++ (gJ t oa o9)))) sz)) 1 6 (va_A (gBo bh bk bo ++ (gS t (bk 0) nb now ++ (gE t (bk 2) eb ex ++ (gJ t oa o9)))) sz) := by
  refine met_ofL (Qf := fun A => qI D t (gBo bh bk bo ++ (gS t (bk 0) nb now ++ (gE t (bk 2) eb out.2.1 ++ (gJ t oa out.2.2)))) out.1 A) (cc := cL_speed) (maxL := 5) (ret := some .int) (hh := [(0, 10, 13, 13), (0, 10, 17, 15)]) (by decide) rfl (Nat.le_of_ble_eq_true rfl) ?_
  intro p e s m args below meth c A hx hb hr hml hts hown hlocks hA hP hK hD hE hS hX hXW hTab ls hl
  have htB : ∀ w ∈ BIG, w.before args s = true := fun w h => hts w (List.mem_cons_of_mem _ h)
  have hown : s.vm.findClass RL = some m.cls := hown
  have hl : lv_has ls 5 [(0, .ref bh), (1, .int v), (2, .int w), (3, .ref oa)] := hl
  unfold fL_speed at h
  obtain ⟨z, hz, h⟩ := ob h
  refine lv_aload_n hx hb dL_speed_0 rfl (lv_at hl 3 rfl) ?_
  refine lv_iconst (v := 0) hx hb dL_speed_1 (by decide) ?_
  refine lv_aload_n hx hb dL_speed_2 rfl (lv_at hl 0 rfl) ?_
  refine lv_iload_n hx hb dL_speed_3 rfl (lv_at hl 1 rfl) ?_
  refine lv_iload_n hx hb dL_speed_4 rfl (lv_at hl 2 rfl) ?_
  cases z with
  | inr r =>
    dsimp only at h
    refine call_i (v := r.1) (wc := (gBo bh bk bo ++ (gS t (bk 0) nb now ++ (gE t (bk 2) eb ex)))) (wc' := (gBo bh bk bo ++ (gS t (bk 0) nb now ++ (gE t (bk 2) eb r.2)))) (ws' := (gBo bh bk bo ++ (gS t (bk 0) nb now ++ (gE t (bk 2) eb r.2 ++ (gJ t oa o9))))) (cutB (bs := [gBo bh bk bo, gS t (bk 0) nb now, gE t (bk 2) eb ex, gJ t oa o9]) (cs := [gBo bh bk bo, gS t (bk 0) nb now, gE t (bk 2) eb ex]) (cs' := [gBo bh bk bo, gS t (bk 0) nb now, gE t (bk 2) eb r.2]) (bs' := [gBo bh bk bo, gS t (bk 0) nb now, gE t (bk 2) eb r.2, gJ t oa o9]) [0, 1, 2] hP hD hS hA rfl rfl rfl rfl) hS (fun hPc hDc => va_runV (As := [.int v, .int w]) (rest := [.int 0, .ref oa]) ⟨hx, hb, hml, hown, hts⟩ (mtX2_speed l D t bh bk bo nb now eb ex v w r hz _) (cwV 2 hts (gBV kw474 kw475 kw476 kw2 kw477) rfl rfl rfl (by decide +kernel) ⟨Nat.le_of_ble_eq_true rfl, Nat.le_of_ble_eq_true rfl⟩) (sPc_V hPc hK hDc hE (va_recv hK hP (ci := 2) (q0 := 0) rfl rfl)) rfl rfl hl.1 rfl (lv_room (Nat.le_of_ble_eq_true rfl)) dL_speed_5 ⟨Nat.zero_le _, Nat.zero_le _⟩) (fun H locs hP hD hS => ?_)
    refine lv_i2l (v := Int32.toInt64 r.1) hx hb dL_speed_8 rfl ?_
    refine va_last hx hb hK hP hD hS 13 2 rfl rfl (pin_in (by decide)) dL_speed_9 (fun H locs hP hD hS => ?_)
    have hP : va_P D vwCl (gBo bh bk bo ++ (gS t (bk 0) nb now ++ (gE t (bk 2) eb r.2 ++ (gJ t oa (vp_updL o9 (Int32.toNatClampNeg 0) (Int32.toInt64 r.1)))))) H := hP
    have hD : va_D A (gBo bh bk bo ++ (gS t (bk 0) nb now ++ (gE t (bk 2) eb r.2 ++ (gJ t oa (vp_updL o9 (Int32.toNatClampNeg 0) (Int32.toInt64 r.1)))))) := hD
    refine lv_goto (tgt := 21) hx hb dL_speed_10 (by decide) ?_
    refine lv_iconst (v := 0) hx hb dL_speed_21 (by decide) ?_
    obtain rfl := os h
    refine W.widen (k := 1) (n := 6) (by omega) (by omega) ?_
    exact ret_i hx hb hr hlocks hP hK hD hS dL_speed_22
  | inl E =>
    dsimp only at h
    by_cases e0 : E = 0
    · have h := it_p e0 h
      subst e0
      refine call_c (E := 0) (wc := (gBo bh bk bo ++ (gS t (bk 0) nb now ++ (gE t (bk 2) eb ex)))) (ws := (gBo bh bk bo ++ (gS t (bk 0) nb now ++ (gE t (bk 2) eb ex ++ (gJ t oa o9))))) (cutB (bs := [gBo bh bk bo, gS t (bk 0) nb now, gE t (bk 2) eb ex, gJ t oa o9]) (cs := [gBo bh bk bo, gS t (bk 0) nb now, gE t (bk 2) eb ex]) (cs' := [gBo bh bk bo, gS t (bk 0) nb now, gE t (bk 2) eb ex]) (bs' := [gBo bh bk bo, gS t (bk 0) nb now, gE t (bk 2) eb ex, gJ t oa o9]) [0, 1, 2] hP hD hS hA rfl rfl rfl rfl) hS (fun hPc hDc hAB => vx_runV (As := [.int v, .int w]) (rest := [.int 0, .ref oa]) ⟨hx, hb, hml, hown, hts⟩ (xmX2_speed l hfl D t bh bk bo nb now eb ex v w 0 hz _) (cwV 2 hts (gBV kw474 kw475 kw476 kw2 kw477) rfl rfl rfl (by decide +kernel) ⟨Nat.le_of_ble_eq_true rfl, Nat.le_of_ble_eq_true rfl⟩) (xPc_V hPc hK hDc hE (va_recv hK hP (ci := 2) (q0 := 0) rfl rfl) hX hS hAB) rfl rfl hl.1 rfl (lv_room (Nat.le_of_ble_eq_true rfl)) dL_speed_5 ⟨Nat.le_of_ble_eq_true rfl, Nat.le_of_ble_eq_true rfl⟩) (fun ce q9 H locs hP hD hS hcell hv hcl => ?_)
      refine vx_catch (name := xname 0) hown [] ⟨0, 10, 13, 13⟩ [⟨0, 10, 17, 15⟩] hTab (fun z hz => nomatch hz) (by decide) (by decide) (htB _ kw66) (va_Nw.use rfl hX.2.2.1.2.2.2) hcell hv hcl ?_
      refine lv_astore (lv' := [(4, .ref q9), (0, .ref bh), (1, .int v), (2, .int w), (3, .ref oa)]) hx hb dL_speed_13 hl (by decide) rfl (fun ls hl => ?_)
      refine lv_iconst (v := 1) hx hb dL_speed_15 (by decide) ?_
      obtain rfl := os h
      exact ret_i hx hb hr hlocks hP hK hD hS dL_speed_16
    · have h := it_n e0 h
      by_cases e1 : E = 1
      · have h := it_p e1 h
        subst e1
        refine call_c (E := 1) (wc := (gBo bh bk bo ++ (gS t (bk 0) nb now ++ (gE t (bk 2) eb ex)))) (ws := (gBo bh bk bo ++ (gS t (bk 0) nb now ++ (gE t (bk 2) eb ex ++ (gJ t oa o9))))) (cutB (bs := [gBo bh bk bo, gS t (bk 0) nb now, gE t (bk 2) eb ex, gJ t oa o9]) (cs := [gBo bh bk bo, gS t (bk 0) nb now, gE t (bk 2) eb ex]) (cs' := [gBo bh bk bo, gS t (bk 0) nb now, gE t (bk 2) eb ex]) (bs' := [gBo bh bk bo, gS t (bk 0) nb now, gE t (bk 2) eb ex, gJ t oa o9]) [0, 1, 2] hP hD hS hA rfl rfl rfl rfl) hS (fun hPc hDc hAB => vx_runV (As := [.int v, .int w]) (rest := [.int 0, .ref oa]) ⟨hx, hb, hml, hown, hts⟩ (xmX2_speed l hfl D t bh bk bo nb now eb ex v w 1 hz _) (cwV 2 hts (gBV kw474 kw475 kw476 kw2 kw477) rfl rfl rfl (by decide +kernel) ⟨Nat.le_of_ble_eq_true rfl, Nat.le_of_ble_eq_true rfl⟩) (xPc_V hPc hK hDc hE (va_recv hK hP (ci := 2) (q0 := 0) rfl rfl) hX hS hAB) rfl rfl hl.1 rfl (lv_room (Nat.le_of_ble_eq_true rfl)) dL_speed_5 ⟨Nat.le_of_ble_eq_true rfl, Nat.le_of_ble_eq_true rfl⟩) (fun ce q9 H locs hP hD hS hcell hv hcl => ?_)
        refine vx_catch (name := xname 1) hown [⟨0, 10, 13, 13⟩] ⟨0, 10, 17, 15⟩ [] hTab (fun z hz => by rcases List.mem_cons.mp hz with rfl | hz; exact Or.inr ⟨by decide, _, (htB _ kw66), hXW.1⟩; cases hz) (by decide) (by decide) (htB _ kw67) (va_Nw.use rfl hX.2.2.2.1.2.2.2) hcell hv hcl ?_
        refine lv_astore (lv' := [(4, .ref q9), (0, .ref bh), (1, .int v), (2, .int w), (3, .ref oa)]) hx hb dL_speed_17 hl (by decide) rfl (fun ls hl => ?_)
        refine lv_iconst (v := 2) hx hb dL_speed_19 (by decide) ?_
        obtain rfl := os h
        exact ret_i hx hb hr hlocks hP hK hD hS dL_speed_20
      · have h := it_n e1 h
        cases h

theorem dL_count_0 : decode cL_count 0 = .ok (.aload_n 2, 1) := by decide +kernel
theorem dL_count_1 : decode cL_count 1 = .ok (.iconst 0, 1) := by decide +kernel
theorem dL_count_2 : decode cL_count 2 = .ok (.aload_n 0, 1) := by decide +kernel
theorem dL_count_3 : decode cL_count 3 = .ok (.iload_n 1, 1) := by decide +kernel
theorem dL_count_4 : decode cL_count 4 = .ok (.invokevirtual 56, 3) := by decide +kernel
theorem dL_count_7 : decode cL_count 7 = .ok (.i2l, 1) := by decide +kernel
theorem dL_count_8 : decode cL_count 8 = .ok (.lastore, 1) := by decide +kernel
theorem dL_count_9 : decode cL_count 9 = .ok (.goto 6, 3) := by decide +kernel
theorem dL_count_12 : decode cL_count 12 = .ok (.astore_n 3, 1) := by decide +kernel
theorem dL_count_13 : decode cL_count 13 = .ok (.iconst 1, 1) := by decide +kernel
theorem dL_count_14 : decode cL_count 14 = .ok (.ireturn, 1) := by decide +kernel
theorem dL_count_15 : decode cL_count 15 = .ok (.iconst 0, 1) := by decide +kernel
theorem dL_count_16 : decode cL_count 16 = .ok (.ireturn, 1) := by decide +kernel
abbrev zL_count : List Cond := .codeWith yL_count cL_count 4 (some .int) [(0, 9, 12, 15)] :: BIG
def fL_count (bo : BoT) (now : ShT) (w : Int32) (o9 : (Nat → Int64)) : Option (Int32 × (Nat → Int64)) := (fX2_count bo now w).bind (fun z => match z with | .inr r => some (0, vp_updL o9 (Int32.toNatClampNeg 0) (Int32.toInt64 r)) | .inl E => if E = 1 then some (1, o9) else none)
set_option maxHeartbeats 4000000 in
set_option maxRecDepth 100000 in
theorem mtL_count (l : Launch) (hfl : l.stackTraces = false) (D : va_G) (t : Nat → ClassId) (bh : Nat) (bk : Nat → Nat) (bo : BoT) (nb : Nat → Nat) (now : ShT) (w : Int32) (oa : Nat) (o9 : (Nat → Int64)) (out : Int32 × (Nat → Int64)) (h : fL_count bo now w o9 = some out) (sz : Nat) : Met l yL_count zL_count ({ frames := 8, cells := 1, slots := 6, locals := 125 }) (wPc D t (gBo bh bk bo ++ (gS t (bk 0) nb now ++ (gJ t oa o9))) sz [.ref bh, .int w, .ref oa]) (qI D t (gBo bh bk bo ++ (gS t (bk 0) nb now ++ (gJ t oa out.2))) out.1 (va_A (gBo bh bk bo ++ (gS t (bk 0) nb now ++ (gJ t oa o9))) sz)) 1 6 (va_A (gBo bh bk bo ++ (gS t (bk 0) nb now ++ (gJ t oa o9))) sz) := by
  refine met_ofL (Qf := fun A => qI D t (gBo bh bk bo ++ (gS t (bk 0) nb now ++ (gJ t oa out.2))) out.1 A) (cc := cL_count) (maxL := 4) (ret := some .int) (hh := [(0, 9, 12, 15)]) (by decide) rfl (Nat.le_of_ble_eq_true rfl) ?_
  intro p e s m args below meth c A hx hb hr hml hts hown hlocks hA hP hK hD hE hS hX hXW hTab ls hl
  have htB : ∀ w ∈ BIG, w.before args s = true := fun w h => hts w (List.mem_cons_of_mem _ h)
  have hown : s.vm.findClass RL = some m.cls := hown
  have hl : lv_has ls 4 [(0, .ref bh), (1, .int w), (2, .ref oa)] := hl
  unfold fL_count at h
  obtain ⟨z, hz, h⟩ := ob h
  refine lv_aload_n hx hb dL_count_0 rfl (lv_at hl 2 rfl) ?_
  refine lv_iconst (v := 0) hx hb dL_count_1 (by decide) ?_
  refine lv_aload_n hx hb dL_count_2 rfl (lv_at hl 0 rfl) ?_
  refine lv_iload_n hx hb dL_count_3 rfl (lv_at hl 1 rfl) ?_
  cases z with
  | inr r =>
    dsimp only at h
    refine call_i (v := r) (wc := (gBo bh bk bo ++ (gS t (bk 0) nb now))) (wc' := (gBo bh bk bo ++ (gS t (bk 0) nb now))) (ws' := (gBo bh bk bo ++ (gS t (bk 0) nb now ++ (gJ t oa o9)))) (cutB (bs := [gBo bh bk bo, gS t (bk 0) nb now, gJ t oa o9]) (cs := [gBo bh bk bo, gS t (bk 0) nb now]) (cs' := [gBo bh bk bo, gS t (bk 0) nb now]) (bs' := [gBo bh bk bo, gS t (bk 0) nb now, gJ t oa o9]) [0, 1] hP hD hS hA rfl rfl rfl rfl) hS (fun hPc hDc => va_runV (As := [.int w]) (rest := [.int 0, .ref oa]) ⟨hx, hb, hml, hown, hts⟩ (mtX2_count l D t bh bk bo nb now w r hz _) (cwV 1 hts (gBV kw495 kw496 kw497 kw2 kw498) rfl rfl rfl (by decide +kernel) ⟨Nat.le_of_ble_eq_true rfl, Nat.le_of_ble_eq_true rfl⟩) (sPc_V hPc hK hDc hE (va_recv hK hP (ci := 2) (q0 := 0) rfl rfl)) rfl rfl hl.1 rfl (lv_room (Nat.le_of_ble_eq_true rfl)) dL_count_4 ⟨Nat.zero_le _, Nat.zero_le _⟩) (fun H locs hP hD hS => ?_)
    refine lv_i2l (v := Int32.toInt64 r) hx hb dL_count_7 rfl ?_
    refine va_last hx hb hK hP hD hS 9 2 rfl rfl (pin_in (by decide)) dL_count_8 (fun H locs hP hD hS => ?_)
    have hP : va_P D vwCl (gBo bh bk bo ++ (gS t (bk 0) nb now ++ (gJ t oa (vp_updL o9 (Int32.toNatClampNeg 0) (Int32.toInt64 r))))) H := hP
    have hD : va_D A (gBo bh bk bo ++ (gS t (bk 0) nb now ++ (gJ t oa (vp_updL o9 (Int32.toNatClampNeg 0) (Int32.toInt64 r))))) := hD
    refine lv_goto (tgt := 15) hx hb dL_count_9 (by decide) ?_
    refine lv_iconst (v := 0) hx hb dL_count_15 (by decide) ?_
    obtain rfl := os h
    refine W.widen (k := 1) (n := 6) (by omega) (by omega) ?_
    exact ret_i hx hb hr hlocks hP hK hD hS dL_count_16
  | inl E =>
    dsimp only at h
    by_cases e0 : E = 1
    · have h := it_p e0 h
      subst e0
      refine call_c (E := 1) (wc := (gBo bh bk bo ++ (gS t (bk 0) nb now))) (ws := (gBo bh bk bo ++ (gS t (bk 0) nb now ++ (gJ t oa o9)))) (cutB (bs := [gBo bh bk bo, gS t (bk 0) nb now, gJ t oa o9]) (cs := [gBo bh bk bo, gS t (bk 0) nb now]) (cs' := [gBo bh bk bo, gS t (bk 0) nb now]) (bs' := [gBo bh bk bo, gS t (bk 0) nb now, gJ t oa o9]) [0, 1] hP hD hS hA rfl rfl rfl rfl) hS (fun hPc hDc hAB => vx_runV (As := [.int w]) (rest := [.int 0, .ref oa]) ⟨hx, hb, hml, hown, hts⟩ (xmX2_count l hfl D t bh bk bo nb now w 1 hz _) (cwV 1 hts (gBV kw495 kw496 kw497 kw2 kw498) rfl rfl rfl (by decide +kernel) ⟨Nat.le_of_ble_eq_true rfl, Nat.le_of_ble_eq_true rfl⟩) (xPc_V hPc hK hDc hE (va_recv hK hP (ci := 2) (q0 := 0) rfl rfl) hX hS hAB) rfl rfl hl.1 rfl (lv_room (Nat.le_of_ble_eq_true rfl)) dL_count_4 ⟨Nat.le_of_ble_eq_true rfl, Nat.le_of_ble_eq_true rfl⟩) (fun ce q9 H locs hP hD hS hcell hv hcl => ?_)
      refine vx_catch (name := xname 1) hown [] ⟨0, 9, 12, 15⟩ [] hTab (fun z hz => nomatch hz) (by decide) (by decide) (htB _ kw67) (va_Nw.use rfl hX.2.2.2.1.2.2.2) hcell hv hcl ?_
      refine lv_astore_n (lv' := [(3, .ref q9), (0, .ref bh), (1, .int w), (2, .ref oa)]) hx hb dL_count_12 rfl hl (by decide) rfl (fun ls hl => ?_)
      refine lv_iconst (v := 1) hx hb dL_count_13 (by decide) ?_
      obtain rfl := os h
      exact ret_i hx hb hr hlocks hP hK hD hS dL_count_14
    · have h := it_n e0 h
      cases h

theorem dL_setting_0 : decode cL_setting 0 = .ok (.aload_n 2, 1) := by decide +kernel
theorem dL_setting_1 : decode cL_setting 1 = .ok (.iconst 0, 1) := by decide +kernel
theorem dL_setting_2 : decode cL_setting 2 = .ok (.aload_n 0, 1) := by decide +kernel
theorem dL_setting_3 : decode cL_setting 3 = .ok (.iload_n 1, 1) := by decide +kernel
theorem dL_setting_4 : decode cL_setting 4 = .ok (.invokevirtual 59, 3) := by decide +kernel
theorem dL_setting_7 : decode cL_setting 7 = .ok (.i2l, 1) := by decide +kernel
theorem dL_setting_8 : decode cL_setting 8 = .ok (.lastore, 1) := by decide +kernel
theorem dL_setting_9 : decode cL_setting 9 = .ok (.goto 6, 3) := by decide +kernel
theorem dL_setting_12 : decode cL_setting 12 = .ok (.astore_n 3, 1) := by decide +kernel
theorem dL_setting_13 : decode cL_setting 13 = .ok (.iconst 1, 1) := by decide +kernel
theorem dL_setting_14 : decode cL_setting 14 = .ok (.ireturn, 1) := by decide +kernel
theorem dL_setting_15 : decode cL_setting 15 = .ok (.iconst 0, 1) := by decide +kernel
theorem dL_setting_16 : decode cL_setting 16 = .ok (.ireturn, 1) := by decide +kernel
abbrev zL_setting : List Cond := .codeWith yL_setting cL_setting 4 (some .int) [(0, 9, 12, 13)] :: BIG
def fL_setting (bo : BoT) (now : ShT) (w : Int32) (o9 : (Nat → Int64)) : Option (Int32 × (Nat → Int64)) := (fX2_setting bo now w).bind (fun z => match z with | .inr r => some (0, vp_updL o9 (Int32.toNatClampNeg 0) (Int32.toInt64 r)) | .inl E => if E = 0 then some (1, o9) else none)
set_option maxHeartbeats 4000000 in
set_option maxRecDepth 100000 in
theorem mtL_setting (l : Launch) (hfl : l.stackTraces = false) (D : va_G) (t : Nat → ClassId) (bh : Nat) (bk : Nat → Nat) (bo : BoT) (nb : Nat → Nat) (now : ShT) (w : Int32) (oa : Nat) (o9 : (Nat → Int64)) (out : Int32 × (Nat → Int64)) (h : fL_setting bo now w o9 = some out) (sz : Nat) : Met l yL_setting zL_setting ({ frames := 9, cells := 1, slots := 6, locals := 144 }) (wPc D t (gBo bh bk bo ++ (gS t (bk 0) nb now ++ (gJ t oa o9))) sz [.ref bh, .int w, .ref oa]) (qI D t (gBo bh bk bo ++ (gS t (bk 0) nb now ++ (gJ t oa out.2))) out.1 (va_A (gBo bh bk bo ++ (gS t (bk 0) nb now ++ (gJ t oa o9))) sz)) 1 6 (va_A (gBo bh bk bo ++ (gS t (bk 0) nb now ++ (gJ t oa o9))) sz) := by
  refine met_ofL (Qf := fun A => qI D t (gBo bh bk bo ++ (gS t (bk 0) nb now ++ (gJ t oa out.2))) out.1 A) (cc := cL_setting) (maxL := 4) (ret := some .int) (hh := [(0, 9, 12, 13)]) (by decide) rfl (Nat.le_of_ble_eq_true rfl) ?_
  intro p e s m args below meth c A hx hb hr hml hts hown hlocks hA hP hK hD hE hS hX hXW hTab ls hl
  have htB : ∀ w ∈ BIG, w.before args s = true := fun w h => hts w (List.mem_cons_of_mem _ h)
  have hown : s.vm.findClass RL = some m.cls := hown
  have hl : lv_has ls 4 [(0, .ref bh), (1, .int w), (2, .ref oa)] := hl
  unfold fL_setting at h
  obtain ⟨z, hz, h⟩ := ob h
  refine lv_aload_n hx hb dL_setting_0 rfl (lv_at hl 2 rfl) ?_
  refine lv_iconst (v := 0) hx hb dL_setting_1 (by decide) ?_
  refine lv_aload_n hx hb dL_setting_2 rfl (lv_at hl 0 rfl) ?_
  refine lv_iload_n hx hb dL_setting_3 rfl (lv_at hl 1 rfl) ?_
  cases z with
  | inr r =>
    dsimp only at h
    refine call_i (v := r) (wc := (gBo bh bk bo ++ (gS t (bk 0) nb now))) (wc' := (gBo bh bk bo ++ (gS t (bk 0) nb now))) (ws' := (gBo bh bk bo ++ (gS t (bk 0) nb now ++ (gJ t oa o9)))) (cutB (bs := [gBo bh bk bo, gS t (bk 0) nb now, gJ t oa o9]) (cs := [gBo bh bk bo, gS t (bk 0) nb now]) (cs' := [gBo bh bk bo, gS t (bk 0) nb now]) (bs' := [gBo bh bk bo, gS t (bk 0) nb now, gJ t oa o9]) [0, 1] hP hD hS hA rfl rfl rfl rfl) hS (fun hPc hDc => va_runV (As := [.int w]) (rest := [.int 0, .ref oa]) ⟨hx, hb, hml, hown, hts⟩ (mtX2_setting l D t bh bk bo nb now w r hz _) (cwV 1 hts (gBV kw514 kw515 kw516 kw2 kw517) rfl rfl rfl (by decide +kernel) ⟨Nat.le_of_ble_eq_true rfl, Nat.le_of_ble_eq_true rfl⟩) (sPc_V hPc hK hDc hE (va_recv hK hP (ci := 2) (q0 := 0) rfl rfl)) rfl rfl hl.1 rfl (lv_room (Nat.le_of_ble_eq_true rfl)) dL_setting_4 ⟨Nat.zero_le _, Nat.zero_le _⟩) (fun H locs hP hD hS => ?_)
    refine lv_i2l (v := Int32.toInt64 r) hx hb dL_setting_7 rfl ?_
    refine va_last hx hb hK hP hD hS 9 2 rfl rfl (pin_in (by decide)) dL_setting_8 (fun H locs hP hD hS => ?_)
    have hP : va_P D vwCl (gBo bh bk bo ++ (gS t (bk 0) nb now ++ (gJ t oa (vp_updL o9 (Int32.toNatClampNeg 0) (Int32.toInt64 r))))) H := hP
    have hD : va_D A (gBo bh bk bo ++ (gS t (bk 0) nb now ++ (gJ t oa (vp_updL o9 (Int32.toNatClampNeg 0) (Int32.toInt64 r))))) := hD
    refine lv_goto (tgt := 15) hx hb dL_setting_9 (by decide) ?_
    refine lv_iconst (v := 0) hx hb dL_setting_15 (by decide) ?_
    obtain rfl := os h
    refine W.widen (k := 1) (n := 6) (by omega) (by omega) ?_
    exact ret_i hx hb hr hlocks hP hK hD hS dL_setting_16
  | inl E =>
    dsimp only at h
    by_cases e0 : E = 0
    · have h := it_p e0 h
      subst e0
      refine call_c (E := 0) (wc := (gBo bh bk bo ++ (gS t (bk 0) nb now))) (ws := (gBo bh bk bo ++ (gS t (bk 0) nb now ++ (gJ t oa o9)))) (cutB (bs := [gBo bh bk bo, gS t (bk 0) nb now, gJ t oa o9]) (cs := [gBo bh bk bo, gS t (bk 0) nb now]) (cs' := [gBo bh bk bo, gS t (bk 0) nb now]) (bs' := [gBo bh bk bo, gS t (bk 0) nb now, gJ t oa o9]) [0, 1] hP hD hS hA rfl rfl rfl rfl) hS (fun hPc hDc hAB => vx_runV (As := [.int w]) (rest := [.int 0, .ref oa]) ⟨hx, hb, hml, hown, hts⟩ (xmX2_setting l hfl D t bh bk bo nb now w 0 hz _) (cwV 1 hts (gBV kw514 kw515 kw516 kw2 kw517) rfl rfl rfl (by decide +kernel) ⟨Nat.le_of_ble_eq_true rfl, Nat.le_of_ble_eq_true rfl⟩) (xPc_V hPc hK hDc hE (va_recv hK hP (ci := 2) (q0 := 0) rfl rfl) hX hS hAB) rfl rfl hl.1 rfl (lv_room (Nat.le_of_ble_eq_true rfl)) dL_setting_4 ⟨Nat.le_of_ble_eq_true rfl, Nat.le_of_ble_eq_true rfl⟩) (fun ce q9 H locs hP hD hS hcell hv hcl => ?_)
      refine vx_catch (name := xname 0) hown [] ⟨0, 9, 12, 13⟩ [] hTab (fun z hz => nomatch hz) (by decide) (by decide) (htB _ kw66) (va_Nw.use rfl hX.2.2.1.2.2.2) hcell hv hcl ?_
      refine lv_astore_n (lv' := [(3, .ref q9), (0, .ref bh), (1, .int w), (2, .ref oa)]) hx hb dL_setting_12 rfl hl (by decide) rfl (fun ls hl => ?_)
      refine lv_iconst (v := 1) hx hb dL_setting_13 (by decide) ?_
      obtain rfl := os h
      exact ret_i hx hb hr hlocks hP hK hD hS dL_setting_14
    · have h := it_n e0 h
      cases h

theorem dL_bestCorrection_0 : decode cL_bestCorrection 0 = .ok (.aload_n 2, 1) := by decide +kernel
theorem dL_bestCorrection_1 : decode cL_bestCorrection 1 = .ok (.iconst 0, 1) := by decide +kernel
theorem dL_bestCorrection_2 : decode cL_bestCorrection 2 = .ok (.aload_n 0, 1) := by decide +kernel
theorem dL_bestCorrection_3 : decode cL_bestCorrection 3 = .ok (.iload_n 1, 1) := by decide +kernel
theorem dL_bestCorrection_4 : decode cL_bestCorrection 4 = .ok (.invokevirtual 62, 3) := by decide +kernel
theorem dL_bestCorrection_7 : decode cL_bestCorrection 7 = .ok (.i2l, 1) := by decide +kernel
theorem dL_bestCorrection_8 : decode cL_bestCorrection 8 = .ok (.lastore, 1) := by decide +kernel
theorem dL_bestCorrection_9 : decode cL_bestCorrection 9 = .ok (.goto 6, 3) := by decide +kernel
theorem dL_bestCorrection_12 : decode cL_bestCorrection 12 = .ok (.astore_n 3, 1) := by decide +kernel
theorem dL_bestCorrection_13 : decode cL_bestCorrection 13 = .ok (.iconst 1, 1) := by decide +kernel
theorem dL_bestCorrection_14 : decode cL_bestCorrection 14 = .ok (.ireturn, 1) := by decide +kernel
theorem dL_bestCorrection_15 : decode cL_bestCorrection 15 = .ok (.iconst 0, 1) := by decide +kernel
theorem dL_bestCorrection_16 : decode cL_bestCorrection 16 = .ok (.ireturn, 1) := by decide +kernel
abbrev zL_bestCorrection : List Cond := .codeWith yL_bestCorrection cL_bestCorrection 4 (some .int) [(0, 9, 12, 13)] :: BIG
def fL_bestCorrection (bo : BoT) (now : ShT) (pr : ShT) (ex : ExT) (v : Int32) (o9 : (Nat → Int64)) : Option (Int32 × ShT × ExT × (Nat → Int64)) := (fX2_bestCorrection bo now pr ex v).bind (fun z => match z with | .inr r => some (0, r.2.1, r.2.2, vp_updL o9 (Int32.toNatClampNeg 0) (Int32.toInt64 r.1)) | .inl E => if E = 0 then some (1, pr, ex, o9) else none)
set_option maxHeartbeats 4000000 in
set_option maxRecDepth 100000 in
theorem mtL_bestCorrection (l : Launch) (hfl : l.stackTraces = false) (D : va_G) (t : Nat → ClassId) (bh : Nat) (bk : Nat → Nat) (bo : BoT) (nb : Nat → Nat) (now : ShT) (pb : Nat → Nat) (pr : ShT) (eb : Nat → Nat) (ex : ExT) (v : Int32) (oa : Nat) (o9 : (Nat → Int64)) (out : Int32 × ShT × ExT × (Nat → Int64)) (h : fL_bestCorrection bo now pr ex v o9 = some out) (sz : Nat) : Met l yL_bestCorrection zL_bestCorrection ({ frames := 9, cells := 1, slots := 6, locals := 147 }) (wPc D t (gBo bh bk bo ++ (gS t (bk 0) nb now ++ (gS t (bk 1) pb pr ++ (gE t (bk 2) eb ex ++ (gJ t oa o9))))) sz [.ref bh, .int v, .ref oa]) (qI D t (gBo bh bk bo ++ (gS t (bk 0) nb now ++ (gS t (bk 1) pb out.2.1 ++ (gE t (bk 2) eb out.2.2.1 ++ (gJ t oa out.2.2.2))))) out.1 (va_A (gBo bh bk bo ++ (gS t (bk 0) nb now ++ (gS t (bk 1) pb pr ++ (gE t (bk 2) eb ex ++ (gJ t oa o9))))) sz)) 1 6 (va_A (gBo bh bk bo ++ (gS t (bk 0) nb now ++ (gS t (bk 1) pb pr ++ (gE t (bk 2) eb ex ++ (gJ t oa o9))))) sz) := by
  refine met_ofL (Qf := fun A => qI D t (gBo bh bk bo ++ (gS t (bk 0) nb now ++ (gS t (bk 1) pb out.2.1 ++ (gE t (bk 2) eb out.2.2.1 ++ (gJ t oa out.2.2.2))))) out.1 A) (cc := cL_bestCorrection) (maxL := 4) (ret := some .int) (hh := [(0, 9, 12, 13)]) (by decide) rfl (Nat.le_of_ble_eq_true rfl) ?_
  intro p e s m args below meth c A hx hb hr hml hts hown hlocks hA hP hK hD hE hS hX hXW hTab ls hl
  have htB : ∀ w ∈ BIG, w.before args s = true := fun w h => hts w (List.mem_cons_of_mem _ h)
  have hown : s.vm.findClass RL = some m.cls := hown
  have hl : lv_has ls 4 [(0, .ref bh), (1, .int v), (2, .ref oa)] := hl
  unfold fL_bestCorrection at h
  obtain ⟨z, hz, h⟩ := ob h
  refine lv_aload_n hx hb dL_bestCorrection_0 rfl (lv_at hl 2 rfl) ?_
  refine lv_iconst (v := 0) hx hb dL_bestCorrection_1 (by decide) ?_
  refine lv_aload_n hx hb dL_bestCorrection_2 rfl (lv_at hl 0 rfl) ?_
  refine lv_iload_n hx hb dL_bestCorrection_3 rfl (lv_at hl 1 rfl) ?_
  cases z with
  | inr r =>
    dsimp only at h
    refine call_i (v := r.1) (wc := (gBo bh bk bo ++ (gS t (bk 0) nb now ++ (gS t (bk 1) pb pr ++ (gE t (bk 2) eb ex))))) (wc' := (gBo bh bk bo ++ (gS t (bk 0) nb now ++ (gS t (bk 1) pb r.2.1 ++ (gE t (bk 2) eb r.2.2))))) (ws' := (gBo bh bk bo ++ (gS t (bk 0) nb now ++ (gS t (bk 1) pb r.2.1 ++ (gE t (bk 2) eb r.2.2 ++ (gJ t oa o9)))))) (cutB (bs := [gBo bh bk bo, gS t (bk 0) nb now, gS t (bk 1) pb pr, gE t (bk 2) eb ex, gJ t oa o9]) (cs := [gBo bh bk bo, gS t (bk 0) nb now, gS t (bk 1) pb pr, gE t (bk 2) eb ex]) (cs' := [gBo bh bk bo, gS t (bk 0) nb now, gS t (bk 1) pb r.2.1, gE t (bk 2) eb r.2.2]) (bs' := [gBo bh bk bo, gS t (bk 0) nb now, gS t (bk 1) pb r.2.1, gE t (bk 2) eb r.2.2, gJ t oa o9]) [0, 1, 2, 3] hP hD hS hA rfl rfl rfl rfl) hS (fun hPc hDc => va_runV (As := [.int v]) (rest := [.int 0, .ref oa]) ⟨hx, hb, hml, hown, hts⟩ (mtX2_bestCorrection l D t bh bk bo nb now pb pr eb ex v r hz _) (cwV 1 hts (gBV kw525 kw526 kw527 kw2 kw528) rfl rfl rfl (by decide +kernel) ⟨Nat.le_of_ble_eq_true rfl, Nat.le_of_ble_eq_true rfl⟩) (sPc_V hPc hK hDc hE (va_recv hK hP (ci := 2) (q0 := 0) rfl rfl)) rfl rfl hl.1 rfl (lv_room (Nat.le_of_ble_eq_true rfl)) dL_bestCorrection_4 ⟨Nat.zero_le _, Nat.zero_le _⟩) (fun H locs hP hD hS => ?_)
    refine lv_i2l (v := Int32.toInt64 r.1) hx hb dL_bestCorrection_7 rfl ?_
    refine va_last hx hb hK hP hD hS 21 2 rfl rfl (pin_in (by decide)) dL_bestCorrection_8 (fun H locs hP hD hS => ?_)
    have hP : va_P D vwCl (gBo bh bk bo ++ (gS t (bk 0) nb now ++ (gS t (bk 1) pb r.2.1 ++ (gE t (bk 2) eb r.2.2 ++ (gJ t oa (vp_updL o9 (Int32.toNatClampNeg 0) (Int32.toInt64 r.1))))))) H := hP
    have hD : va_D A (gBo bh bk bo ++ (gS t (bk 0) nb now ++ (gS t (bk 1) pb r.2.1 ++ (gE t (bk 2) eb r.2.2 ++ (gJ t oa (vp_updL o9 (Int32.toNatClampNeg 0) (Int32.toInt64 r.1))))))) := hD
    refine lv_goto (tgt := 15) hx hb dL_bestCorrection_9 (by decide) ?_
    refine lv_iconst (v := 0) hx hb dL_bestCorrection_15 (by decide) ?_
    obtain rfl := os h
    refine W.widen (k := 1) (n := 6) (by omega) (by omega) ?_
    exact ret_i hx hb hr hlocks hP hK hD hS dL_bestCorrection_16
  | inl E =>
    dsimp only at h
    by_cases e0 : E = 0
    · have h := it_p e0 h
      subst e0
      refine call_c (E := 0) (wc := (gBo bh bk bo ++ (gS t (bk 0) nb now ++ (gS t (bk 1) pb pr ++ (gE t (bk 2) eb ex))))) (ws := (gBo bh bk bo ++ (gS t (bk 0) nb now ++ (gS t (bk 1) pb pr ++ (gE t (bk 2) eb ex ++ (gJ t oa o9)))))) (cutB (bs := [gBo bh bk bo, gS t (bk 0) nb now, gS t (bk 1) pb pr, gE t (bk 2) eb ex, gJ t oa o9]) (cs := [gBo bh bk bo, gS t (bk 0) nb now, gS t (bk 1) pb pr, gE t (bk 2) eb ex]) (cs' := [gBo bh bk bo, gS t (bk 0) nb now, gS t (bk 1) pb pr, gE t (bk 2) eb ex]) (bs' := [gBo bh bk bo, gS t (bk 0) nb now, gS t (bk 1) pb pr, gE t (bk 2) eb ex, gJ t oa o9]) [0, 1, 2, 3] hP hD hS hA rfl rfl rfl rfl) hS (fun hPc hDc hAB => vx_runV (As := [.int v]) (rest := [.int 0, .ref oa]) ⟨hx, hb, hml, hown, hts⟩ (xmX2_bestCorrection l hfl D t bh bk bo nb now pb pr eb ex v 0 hz _) (cwV 1 hts (gBV kw525 kw526 kw527 kw2 kw528) rfl rfl rfl (by decide +kernel) ⟨Nat.le_of_ble_eq_true rfl, Nat.le_of_ble_eq_true rfl⟩) (xPc_V hPc hK hDc hE (va_recv hK hP (ci := 2) (q0 := 0) rfl rfl) hX hS hAB) rfl rfl hl.1 rfl (lv_room (Nat.le_of_ble_eq_true rfl)) dL_bestCorrection_4 ⟨Nat.le_of_ble_eq_true rfl, Nat.le_of_ble_eq_true rfl⟩) (fun ce q9 H locs hP hD hS hcell hv hcl => ?_)
      refine vx_catch (name := xname 0) hown [] ⟨0, 9, 12, 13⟩ [] hTab (fun z hz => nomatch hz) (by decide) (by decide) (htB _ kw66) (va_Nw.use rfl hX.2.2.1.2.2.2) hcell hv hcl ?_
      refine lv_astore_n (lv' := [(3, .ref q9), (0, .ref bh), (1, .int v), (2, .ref oa)]) hx hb dL_bestCorrection_12 rfl hl (by decide) rfl (fun ls hl => ?_)
      refine lv_iconst (v := 1) hx hb dL_bestCorrection_13 (by decide) ?_
      obtain rfl := os h
      exact ret_i hx hb hr hlocks hP hK hD hS dL_bestCorrection_14
    · have h := it_n e0 h
      cases h

theorem dL_bestSpring_0 : decode cL_bestSpring 0 = .ok (.aload_n 3, 1) := by decide +kernel
theorem dL_bestSpring_1 : decode cL_bestSpring 1 = .ok (.iconst 0, 1) := by decide +kernel
theorem dL_bestSpring_2 : decode cL_bestSpring 2 = .ok (.aload_n 0, 1) := by decide +kernel
theorem dL_bestSpring_3 : decode cL_bestSpring 3 = .ok (.iload_n 1, 1) := by decide +kernel
theorem dL_bestSpring_4 : decode cL_bestSpring 4 = .ok (.iload_n 2, 1) := by decide +kernel
theorem dL_bestSpring_5 : decode cL_bestSpring 5 = .ok (.invokevirtual 65, 3) := by decide +kernel
theorem dL_bestSpring_8 : decode cL_bestSpring 8 = .ok (.i2l, 1) := by decide +kernel
theorem dL_bestSpring_9 : decode cL_bestSpring 9 = .ok (.lastore, 1) := by decide +kernel
theorem dL_bestSpring_10 : decode cL_bestSpring 10 = .ok (.goto 7, 3) := by decide +kernel
theorem dL_bestSpring_13 : decode cL_bestSpring 13 = .ok (.astore 4, 2) := by decide +kernel
theorem dL_bestSpring_15 : decode cL_bestSpring 15 = .ok (.iconst 1, 1) := by decide +kernel
theorem dL_bestSpring_16 : decode cL_bestSpring 16 = .ok (.ireturn, 1) := by decide +kernel
theorem dL_bestSpring_17 : decode cL_bestSpring 17 = .ok (.iconst 0, 1) := by decide +kernel
theorem dL_bestSpring_18 : decode cL_bestSpring 18 = .ok (.ireturn, 1) := by decide +kernel
abbrev zL_bestSpring : List Cond := .codeWith yL_bestSpring cL_bestSpring 5 (some .int) [(0, 10, 13, 13)] :: BIG
def fL_bestSpring (bo : BoT) (now : ShT) (pr : ShT) (ex : ExT) (cu : Int32) (v : Int32) (o9 : (Nat → Int64)) : Option (Int32 × ShT × ExT × (Nat → Int64)) := (fX2_bestSpring bo now pr ex cu v).bind (fun z => match z with | .inr r => some (0, r.2.1, r.2.2, vp_updL o9 (Int32.toNatClampNeg 0) (Int32.toInt64 r.1)) | .inl E => if E = 0 then some (1, pr, ex, o9) else none)
set_option maxHeartbeats 4000000 in
set_option maxRecDepth 100000 in
theorem mtL_bestSpring (l : Launch) (hfl : l.stackTraces = false) (D : va_G) (t : Nat → ClassId) (bh : Nat) (bk : Nat → Nat) (bo : BoT) (nb : Nat → Nat) (now : ShT) (pb : Nat → Nat) (pr : ShT) (eb : Nat → Nat) (ex : ExT) (cu : Int32) (v : Int32) (oa : Nat) (o9 : (Nat → Int64)) (out : Int32 × ShT × ExT × (Nat → Int64)) (h : fL_bestSpring bo now pr ex cu v o9 = some out) (sz : Nat) : Met l yL_bestSpring zL_bestSpring ({ frames := 9, cells := 1, slots := 6, locals := 148 }) (wPc D t (gBo bh bk bo ++ (gS t (bk 0) nb now ++ (gS t (bk 1) pb pr ++ (gE t (bk 2) eb ex ++ (gJ t oa o9))))) sz [.ref bh, .int cu, .int v, .ref oa]) (qI D t (gBo bh bk bo ++ (gS t (bk 0) nb now ++ (gS t (bk 1) pb out.2.1 ++ (gE t (bk 2) eb out.2.2.1 ++ (gJ t oa out.2.2.2))))) out.1 (va_A (gBo bh bk bo ++ (gS t (bk 0) nb now ++ (gS t (bk 1) pb pr ++ (gE t (bk 2) eb ex ++ (gJ t oa o9))))) sz)) 1 6 (va_A (gBo bh bk bo ++ (gS t (bk 0) nb now ++ (gS t (bk 1) pb pr ++ (gE t (bk 2) eb ex ++ (gJ t oa o9))))) sz) := by
  refine met_ofL (Qf := fun A => qI D t (gBo bh bk bo ++ (gS t (bk 0) nb now ++ (gS t (bk 1) pb out.2.1 ++ (gE t (bk 2) eb out.2.2.1 ++ (gJ t oa out.2.2.2))))) out.1 A) (cc := cL_bestSpring) (maxL := 5) (ret := some .int) (hh := [(0, 10, 13, 13)]) (by decide) rfl (Nat.le_of_ble_eq_true rfl) ?_
  intro p e s m args below meth c A hx hb hr hml hts hown hlocks hA hP hK hD hE hS hX hXW hTab ls hl
  have htB : ∀ w ∈ BIG, w.before args s = true := fun w h => hts w (List.mem_cons_of_mem _ h)
  have hown : s.vm.findClass RL = some m.cls := hown
  have hl : lv_has ls 5 [(0, .ref bh), (1, .int cu), (2, .int v), (3, .ref oa)] := hl
  unfold fL_bestSpring at h
  obtain ⟨z, hz, h⟩ := ob h
  refine lv_aload_n hx hb dL_bestSpring_0 rfl (lv_at hl 3 rfl) ?_
  refine lv_iconst (v := 0) hx hb dL_bestSpring_1 (by decide) ?_
  refine lv_aload_n hx hb dL_bestSpring_2 rfl (lv_at hl 0 rfl) ?_
  refine lv_iload_n hx hb dL_bestSpring_3 rfl (lv_at hl 1 rfl) ?_
  refine lv_iload_n hx hb dL_bestSpring_4 rfl (lv_at hl 2 rfl) ?_
  cases z with
  | inr r =>
    dsimp only at h
    refine call_i (v := r.1) (wc := (gBo bh bk bo ++ (gS t (bk 0) nb now ++ (gS t (bk 1) pb pr ++ (gE t (bk 2) eb ex))))) (wc' := (gBo bh bk bo ++ (gS t (bk 0) nb now ++ (gS t (bk 1) pb r.2.1 ++ (gE t (bk 2) eb r.2.2))))) (ws' := (gBo bh bk bo ++ (gS t (bk 0) nb now ++ (gS t (bk 1) pb r.2.1 ++ (gE t (bk 2) eb r.2.2 ++ (gJ t oa o9)))))) (cutB (bs := [gBo bh bk bo, gS t (bk 0) nb now, gS t (bk 1) pb pr, gE t (bk 2) eb ex, gJ t oa o9]) (cs := [gBo bh bk bo, gS t (bk 0) nb now, gS t (bk 1) pb pr, gE t (bk 2) eb ex]) (cs' := [gBo bh bk bo, gS t (bk 0) nb now, gS t (bk 1) pb r.2.1, gE t (bk 2) eb r.2.2]) (bs' := [gBo bh bk bo, gS t (bk 0) nb now, gS t (bk 1) pb r.2.1, gE t (bk 2) eb r.2.2, gJ t oa o9]) [0, 1, 2, 3] hP hD hS hA rfl rfl rfl rfl) hS (fun hPc hDc => va_runV (As := [.int cu, .int v]) (rest := [.int 0, .ref oa]) ⟨hx, hb, hml, hown, hts⟩ (mtX2_bestSpring l D t bh bk bo nb now pb pr eb ex cu v r hz _) (cwV 2 hts (gBV kw541 kw542 kw543 kw2 kw544) rfl rfl rfl (by decide +kernel) ⟨Nat.le_of_ble_eq_true rfl, Nat.le_of_ble_eq_true rfl⟩) (sPc_V hPc hK hDc hE (va_recv hK hP (ci := 2) (q0 := 0) rfl rfl)) rfl rfl hl.1 rfl (lv_room (Nat.le_of_ble_eq_true rfl)) dL_bestSpring_5 ⟨Nat.zero_le _, Nat.zero_le _⟩) (fun H locs hP hD hS => ?_)
    refine lv_i2l (v := Int32.toInt64 r.1) hx hb dL_bestSpring_8 rfl ?_
    refine va_last hx hb hK hP hD hS 21 2 rfl rfl (pin_in (by decide)) dL_bestSpring_9 (fun H locs hP hD hS => ?_)
    have hP : va_P D vwCl (gBo bh bk bo ++ (gS t (bk 0) nb now ++ (gS t (bk 1) pb r.2.1 ++ (gE t (bk 2) eb r.2.2 ++ (gJ t oa (vp_updL o9 (Int32.toNatClampNeg 0) (Int32.toInt64 r.1))))))) H := hP
    have hD : va_D A (gBo bh bk bo ++ (gS t (bk 0) nb now ++ (gS t (bk 1) pb r.2.1 ++ (gE t (bk 2) eb r.2.2 ++ (gJ t oa (vp_updL o9 (Int32.toNatClampNeg 0) (Int32.toInt64 r.1))))))) := hD
    refine lv_goto (tgt := 17) hx hb dL_bestSpring_10 (by decide) ?_
    refine lv_iconst (v := 0) hx hb dL_bestSpring_17 (by decide) ?_
    obtain rfl := os h
    refine W.widen (k := 1) (n := 6) (by omega) (by omega) ?_
    exact ret_i hx hb hr hlocks hP hK hD hS dL_bestSpring_18
  | inl E =>
    dsimp only at h
    by_cases e0 : E = 0
    · have h := it_p e0 h
      subst e0
      refine call_c (E := 0) (wc := (gBo bh bk bo ++ (gS t (bk 0) nb now ++ (gS t (bk 1) pb pr ++ (gE t (bk 2) eb ex))))) (ws := (gBo bh bk bo ++ (gS t (bk 0) nb now ++ (gS t (bk 1) pb pr ++ (gE t (bk 2) eb ex ++ (gJ t oa o9)))))) (cutB (bs := [gBo bh bk bo, gS t (bk 0) nb now, gS t (bk 1) pb pr, gE t (bk 2) eb ex, gJ t oa o9]) (cs := [gBo bh bk bo, gS t (bk 0) nb now, gS t (bk 1) pb pr, gE t (bk 2) eb ex]) (cs' := [gBo bh bk bo, gS t (bk 0) nb now, gS t (bk 1) pb pr, gE t (bk 2) eb ex]) (bs' := [gBo bh bk bo, gS t (bk 0) nb now, gS t (bk 1) pb pr, gE t (bk 2) eb ex, gJ t oa o9]) [0, 1, 2, 3] hP hD hS hA rfl rfl rfl rfl) hS (fun hPc hDc hAB => vx_runV (As := [.int cu, .int v]) (rest := [.int 0, .ref oa]) ⟨hx, hb, hml, hown, hts⟩ (xmX2_bestSpring l hfl D t bh bk bo nb now pb pr eb ex cu v 0 hz _) (cwV 2 hts (gBV kw541 kw542 kw543 kw2 kw544) rfl rfl rfl (by decide +kernel) ⟨Nat.le_of_ble_eq_true rfl, Nat.le_of_ble_eq_true rfl⟩) (xPc_V hPc hK hDc hE (va_recv hK hP (ci := 2) (q0 := 0) rfl rfl) hX hS hAB) rfl rfl hl.1 rfl (lv_room (Nat.le_of_ble_eq_true rfl)) dL_bestSpring_5 ⟨Nat.le_of_ble_eq_true rfl, Nat.le_of_ble_eq_true rfl⟩) (fun ce q9 H locs hP hD hS hcell hv hcl => ?_)
      refine vx_catch (name := xname 0) hown [] ⟨0, 10, 13, 13⟩ [] hTab (fun z hz => nomatch hz) (by decide) (by decide) (htB _ kw66) (va_Nw.use rfl hX.2.2.1.2.2.2) hcell hv hcl ?_
      refine lv_astore (lv' := [(4, .ref q9), (0, .ref bh), (1, .int cu), (2, .int v), (3, .ref oa)]) hx hb dL_bestSpring_13 hl (by decide) rfl (fun ls hl => ?_)
      refine lv_iconst (v := 1) hx hb dL_bestSpring_15 (by decide) ?_
      obtain rfl := os h
      exact ret_i hx hb hr hlocks hP hK hD hS dL_bestSpring_16
    · have h := it_n e0 h
      cases h

theorem dL_ifShot_0 : decode cL_ifShot 0 = .ok (.aload 4, 2) := by decide +kernel
theorem dL_ifShot_2 : decode cL_ifShot 2 = .ok (.iconst 0, 1) := by decide +kernel
theorem dL_ifShot_3 : decode cL_ifShot 3 = .ok (.aload_n 0, 1) := by decide +kernel
theorem dL_ifShot_4 : decode cL_ifShot 4 = .ok (.iload_n 1, 1) := by decide +kernel
theorem dL_ifShot_5 : decode cL_ifShot 5 = .ok (.iload_n 2, 1) := by decide +kernel
theorem dL_ifShot_6 : decode cL_ifShot 6 = .ok (.iload_n 3, 1) := by decide +kernel
theorem dL_ifShot_7 : decode cL_ifShot 7 = .ok (.invokevirtual 68, 3) := by decide +kernel
theorem dL_ifShot_10 : decode cL_ifShot 10 = .ok (.i2l, 1) := by decide +kernel
theorem dL_ifShot_11 : decode cL_ifShot 11 = .ok (.lastore, 1) := by decide +kernel
theorem dL_ifShot_12 : decode cL_ifShot 12 = .ok (.goto 11, 3) := by decide +kernel
theorem dL_ifShot_15 : decode cL_ifShot 15 = .ok (.astore 5, 2) := by decide +kernel
theorem dL_ifShot_17 : decode cL_ifShot 17 = .ok (.iconst 1, 1) := by decide +kernel
theorem dL_ifShot_18 : decode cL_ifShot 18 = .ok (.ireturn, 1) := by decide +kernel
theorem dL_ifShot_19 : decode cL_ifShot 19 = .ok (.astore 5, 2) := by decide +kernel
theorem dL_ifShot_21 : decode cL_ifShot 21 = .ok (.iconst 2, 1) := by decide +kernel
theorem dL_ifShot_22 : decode cL_ifShot 22 = .ok (.ireturn, 1) := by decide +kernel
theorem dL_ifShot_23 : decode cL_ifShot 23 = .ok (.iconst 0, 1) := by decide +kernel
theorem dL_ifShot_24 : decode cL_ifShot 24 = .ok (.ireturn, 1) := by decide +kernel
abbrev zL_ifShot : List Cond := .codeWith yL_ifShot cL_ifShot 6 (some .int) [(0, 12, 15, 13), (0, 12, 19, 15)] :: BIG
def fL_ifShot (bo : BoT) (now : ShT) (pr : ShT) (ex : ExT) (v : Int32) (n : Int32) (w : Int32) (o9 : (Nat → Int64)) : Option (Int32 × ShT × ExT × (Nat → Int64)) := (fX2_ifShot bo now pr ex v n w).bind (fun z => match z with | .inr r => some (0, r.2.1, r.2.2, vp_updL o9 (Int32.toNatClampNeg 0) (Int32.toInt64 r.1)) | .inl E => if E = 0 then some (1, pr, ex, o9) else if E = 1 then some (2, pr, ex, o9) else none)
set_option maxHeartbeats 4000000 in
set_option maxRecDepth 100000 in
theorem mtL_ifShot (l : Launch) (hfl : l.stackTraces = false) (D : va_G) (t : Nat → ClassId) (bh : Nat) (bk : Nat → Nat) (bo : BoT) (nb : Nat → Nat) (now : ShT) (pb : Nat → Nat) (pr : ShT) (eb : Nat → Nat) (ex : ExT) (v : Int32) (n : Int32) (w : Int32) (oa : Nat) (o9 : (Nat → Int64)) (out : Int32 × ShT × ExT × (Nat → Int64)) (h : fL_ifShot bo now pr ex v n w o9 = some out) (sz : Nat) : Met l yL_ifShot zL_ifShot ({ frames := 9, cells := 1, slots := 6, locals := 146 }) (wPc D t (gBo bh bk bo ++ (gS t (bk 0) nb now ++ (gS t (bk 1) pb pr ++ (gE t (bk 2) eb ex ++ (gJ t oa o9))))) sz [.ref bh, .int v, .int n, .int w, .ref oa]) (qI D t (gBo bh bk bo ++ (gS t (bk 0) nb now ++ (gS t (bk 1) pb out.2.1 ++ (gE t (bk 2) eb out.2.2.1 ++ (gJ t oa out.2.2.2))))) out.1 (va_A (gBo bh bk bo ++ (gS t (bk 0) nb now ++ (gS t (bk 1) pb pr ++ (gE t (bk 2) eb ex ++ (gJ t oa o9))))) sz)) 1 6 (va_A (gBo bh bk bo ++ (gS t (bk 0) nb now ++ (gS t (bk 1) pb pr ++ (gE t (bk 2) eb ex ++ (gJ t oa o9))))) sz) := by
  refine met_ofL (Qf := fun A => qI D t (gBo bh bk bo ++ (gS t (bk 0) nb now ++ (gS t (bk 1) pb out.2.1 ++ (gE t (bk 2) eb out.2.2.1 ++ (gJ t oa out.2.2.2))))) out.1 A) (cc := cL_ifShot) (maxL := 6) (ret := some .int) (hh := [(0, 12, 15, 13), (0, 12, 19, 15)]) (by decide) rfl (Nat.le_of_ble_eq_true rfl) ?_
  intro p e s m args below meth c A hx hb hr hml hts hown hlocks hA hP hK hD hE hS hX hXW hTab ls hl
  have htB : ∀ w ∈ BIG, w.before args s = true := fun w h => hts w (List.mem_cons_of_mem _ h)
  have hown : s.vm.findClass RL = some m.cls := hown
  have hl : lv_has ls 6 [(0, .ref bh), (1, .int v), (2, .int n), (3, .int w), (4, .ref oa)] := hl
  unfold fL_ifShot at h
  obtain ⟨z, hz, h⟩ := ob h
  refine lv_aload hx hb dL_ifShot_0 (lv_at hl 4 rfl) ?_
  refine lv_iconst (v := 0) hx hb dL_ifShot_2 (by decide) ?_
  refine lv_aload_n hx hb dL_ifShot_3 rfl (lv_at hl 0 rfl) ?_
  refine lv_iload_n hx hb dL_ifShot_4 rfl (lv_at hl 1 rfl) ?_
  refine lv_iload_n hx hb dL_ifShot_5 rfl (lv_at hl 2 rfl) ?_
  refine lv_iload_n hx hb dL_ifShot_6 rfl (lv_at hl 3 rfl) ?_
  cases z with
  | inr r =>
    dsimp only at h
    refine call_i (v := r.1) (wc := (gBo bh bk bo ++ (gS t (bk 0) nb now ++ (gS t (bk 1) pb pr ++ (gE t (bk 2) eb ex))))) (wc' := (gBo bh bk bo ++ (gS t (bk 0) nb now ++ (gS t (bk 1) pb r.2.1 ++ (gE t (bk 2) eb r.2.2))))) (ws' := (gBo bh bk bo ++ (gS t (bk 0) nb now ++ (gS t (bk 1) pb r.2.1 ++ (gE t (bk 2) eb r.2.2 ++ (gJ t oa o9)))))) (cutB (bs := [gBo bh bk bo, gS t (bk 0) nb now, gS t (bk 1) pb pr, gE t (bk 2) eb ex, gJ t oa o9]) (cs := [gBo bh bk bo, gS t (bk 0) nb now, gS t (bk 1) pb pr, gE t (bk 2) eb ex]) (cs' := [gBo bh bk bo, gS t (bk 0) nb now, gS t (bk 1) pb r.2.1, gE t (bk 2) eb r.2.2]) (bs' := [gBo bh bk bo, gS t (bk 0) nb now, gS t (bk 1) pb r.2.1, gE t (bk 2) eb r.2.2, gJ t oa o9]) [0, 1, 2, 3] hP hD hS hA rfl rfl rfl rfl) hS (fun hPc hDc => va_runV (As := [.int v, .int n, .int w]) (rest := [.int 0, .ref oa]) ⟨hx, hb, hml, hown, hts⟩ (mtX2_ifShot l D t bh bk bo nb now pb pr eb ex v n w r hz _) (cwV 3 hts (gBV kw552 kw553 kw554 kw2 kw555) rfl rfl rfl (by decide +kernel) ⟨Nat.le_of_ble_eq_true rfl, Nat.le_of_ble_eq_true rfl⟩) (sPc_V hPc hK hDc hE (va_recv hK hP (ci := 2) (q0 := 0) rfl rfl)) rfl rfl hl.1 rfl (lv_room (Nat.le_of_ble_eq_true rfl)) dL_ifShot_7 ⟨Nat.zero_le _, Nat.zero_le _⟩) (fun H locs hP hD hS => ?_)
    refine lv_i2l (v := Int32.toInt64 r.1) hx hb dL_ifShot_10 rfl ?_
    refine va_last hx hb hK hP hD hS 21 2 rfl rfl (pin_in (by decide)) dL_ifShot_11 (fun H locs hP hD hS => ?_)
    have hP : va_P D vwCl (gBo bh bk bo ++ (gS t (bk 0) nb now ++ (gS t (bk 1) pb r.2.1 ++ (gE t (bk 2) eb r.2.2 ++ (gJ t oa (vp_updL o9 (Int32.toNatClampNeg 0) (Int32.toInt64 r.1))))))) H := hP
    have hD : va_D A (gBo bh bk bo ++ (gS t (bk 0) nb now ++ (gS t (bk 1) pb r.2.1 ++ (gE t (bk 2) eb r.2.2 ++ (gJ t oa (vp_updL o9 (Int32.toNatClampNeg 0) (Int32.toInt64 r.1))))))) := hD
    refine lv_goto (tgt := 23) hx hb dL_ifShot_12 (by decide) ?_
    refine lv_iconst (v := 0) hx hb dL_ifShot_23 (by decide) ?_
    obtain rfl := os h
    refine W.widen (k := 1) (n := 6) (by omega) (by omega) ?_
    exact ret_i hx hb hr hlocks hP hK hD hS dL_ifShot_24
  | inl E =>
    dsimp only at h
    by_cases e0 : E = 0
    · have h := it_p e0 h
      subst e0
      refine call_c (E := 0) (wc := (gBo bh bk bo ++ (gS t (bk 0) nb now ++ (gS t (bk 1) pb pr ++ (gE t (bk 2) eb ex))))) (ws := (gBo bh bk bo ++ (gS t (bk 0) nb now ++ (gS t (bk 1) pb pr ++ (gE t (bk 2) eb ex ++ (gJ t oa o9)))))) (cutB (bs := [gBo bh bk bo, gS t (bk 0) nb now, gS t (bk 1) pb pr, gE t (bk 2) eb ex, gJ t oa o9]) (cs := [gBo bh bk bo, gS t (bk 0) nb now, gS t (bk 1) pb pr, gE t (bk 2) eb ex]) (cs' := [gBo bh bk bo, gS t (bk 0) nb now, gS t (bk 1) pb pr, gE t (bk 2) eb ex]) (bs' := [gBo bh bk bo, gS t (bk 0) nb now, gS t (bk 1) pb pr, gE t (bk 2) eb ex, gJ t oa o9]) [0, 1, 2, 3] hP hD hS hA rfl rfl rfl rfl) hS (fun hPc hDc hAB => vx_runV (As := [.int v, .int n, .int w]) (rest := [.int 0, .ref oa]) ⟨hx, hb, hml, hown, hts⟩ (xmX2_ifShot l hfl D t bh bk bo nb now pb pr eb ex v n w 0 hz _) (cwV 3 hts (gBV kw552 kw553 kw554 kw2 kw555) rfl rfl rfl (by decide +kernel) ⟨Nat.le_of_ble_eq_true rfl, Nat.le_of_ble_eq_true rfl⟩) (xPc_V hPc hK hDc hE (va_recv hK hP (ci := 2) (q0 := 0) rfl rfl) hX hS hAB) rfl rfl hl.1 rfl (lv_room (Nat.le_of_ble_eq_true rfl)) dL_ifShot_7 ⟨Nat.le_of_ble_eq_true rfl, Nat.le_of_ble_eq_true rfl⟩) (fun ce q9 H locs hP hD hS hcell hv hcl => ?_)
      refine vx_catch (name := xname 0) hown [] ⟨0, 12, 15, 13⟩ [⟨0, 12, 19, 15⟩] hTab (fun z hz => nomatch hz) (by decide) (by decide) (htB _ kw66) (va_Nw.use rfl hX.2.2.1.2.2.2) hcell hv hcl ?_
      refine lv_astore (lv' := [(5, .ref q9), (0, .ref bh), (1, .int v), (2, .int n), (3, .int w), (4, .ref oa)]) hx hb dL_ifShot_15 hl (by decide) rfl (fun ls hl => ?_)
      refine lv_iconst (v := 1) hx hb dL_ifShot_17 (by decide) ?_
      obtain rfl := os h
      exact ret_i hx hb hr hlocks hP hK hD hS dL_ifShot_18
    · have h := it_n e0 h
      by_cases e1 : E = 1
      · have h := it_p e1 h
        subst e1
        refine call_c (E := 1) (wc := (gBo bh bk bo ++ (gS t (bk 0) nb now ++ (gS t (bk 1) pb pr ++ (gE t (bk 2) eb ex))))) (ws := (gBo bh bk bo ++ (gS t (bk 0) nb now ++ (gS t (bk 1) pb pr ++ (gE t (bk 2) eb ex ++ (gJ t oa o9)))))) (cutB (bs := [gBo bh bk bo, gS t (bk 0) nb now, gS t (bk 1) pb pr, gE t (bk 2) eb ex, gJ t oa o9]) (cs := [gBo bh bk bo, gS t (bk 0) nb now, gS t (bk 1) pb pr, gE t (bk 2) eb ex]) (cs' := [gBo bh bk bo, gS t (bk 0) nb now, gS t (bk 1) pb pr, gE t (bk 2) eb ex]) (bs' := [gBo bh bk bo, gS t (bk 0) nb now, gS t (bk 1) pb pr, gE t (bk 2) eb ex, gJ t oa o9]) [0, 1, 2, 3] hP hD hS hA rfl rfl rfl rfl) hS (fun hPc hDc hAB => vx_runV (As := [.int v, .int n, .int w]) (rest := [.int 0, .ref oa]) ⟨hx, hb, hml, hown, hts⟩ (xmX2_ifShot l hfl D t bh bk bo nb now pb pr eb ex v n w 1 hz _) (cwV 3 hts (gBV kw552 kw553 kw554 kw2 kw555) rfl rfl rfl (by decide +kernel) ⟨Nat.le_of_ble_eq_true rfl, Nat.le_of_ble_eq_true rfl⟩) (xPc_V hPc hK hDc hE (va_recv hK hP (ci := 2) (q0 := 0) rfl rfl) hX hS hAB) rfl rfl hl.1 rfl (lv_room (Nat.le_of_ble_eq_true rfl)) dL_ifShot_7 ⟨Nat.le_of_ble_eq_true rfl, Nat.le_of_ble_eq_true rfl⟩) (fun ce q9 H locs hP hD hS hcell hv hcl => ?_)
        refine vx_catch (name := xname 1) hown [⟨0, 12, 15, 13⟩] ⟨0, 12, 19, 15⟩ [] hTab (fun z hz => by rcases List.mem_cons.mp hz with rfl | hz; exact Or.inr ⟨by decide, _, (htB _ kw66), hXW.1⟩; cases hz) (by decide) (by decide) (htB _ kw67) (va_Nw.use rfl hX.2.2.2.1.2.2.2) hcell hv hcl ?_
        refine lv_astore (lv' := [(5, .ref q9), (0, .ref bh), (1, .int v), (2, .int n), (3, .int w), (4, .ref oa)]) hx hb dL_ifShot_19 hl (by decide) rfl (fun ls hl => ?_)
        refine lv_iconst (v := 2) hx hb dL_ifShot_21 (by decide) ?_
        obtain rfl := os h
        exact ret_i hx hb hr hlocks hP hK hD hS dL_ifShot_22
      · have h := it_n e1 h
        cases h

theorem dL_goodFor_0 : decode cL_goodFor 0 = .ok (.aload_n 3, 1) := by decide +kernel
theorem dL_goodFor_1 : decode cL_goodFor 1 = .ok (.iconst 0, 1) := by decide +kernel
theorem dL_goodFor_2 : decode cL_goodFor 2 = .ok (.aload_n 0, 1) := by decide +kernel
theorem dL_goodFor_3 : decode cL_goodFor 3 = .ok (.iload_n 1, 1) := by decide +kernel
theorem dL_goodFor_4 : decode cL_goodFor 4 = .ok (.iload_n 2, 1) := by decide +kernel
theorem dL_goodFor_5 : decode cL_goodFor 5 = .ok (.invokevirtual 71, 3) := by decide +kernel
theorem dL_goodFor_8 : decode cL_goodFor 8 = .ok (.i2l, 1) := by decide +kernel
theorem dL_goodFor_9 : decode cL_goodFor 9 = .ok (.lastore, 1) := by decide +kernel
theorem dL_goodFor_10 : decode cL_goodFor 10 = .ok (.goto 11, 3) := by decide +kernel
theorem dL_goodFor_13 : decode cL_goodFor 13 = .ok (.astore 4, 2) := by decide +kernel
theorem dL_goodFor_15 : decode cL_goodFor 15 = .ok (.iconst 1, 1) := by decide +kernel
theorem dL_goodFor_16 : decode cL_goodFor 16 = .ok (.ireturn, 1) := by decide +kernel
theorem dL_goodFor_17 : decode cL_goodFor 17 = .ok (.astore 4, 2) := by decide +kernel
theorem dL_goodFor_19 : decode cL_goodFor 19 = .ok (.iconst 2, 1) := by decide +kernel
theorem dL_goodFor_20 : decode cL_goodFor 20 = .ok (.ireturn, 1) := by decide +kernel
theorem dL_goodFor_21 : decode cL_goodFor 21 = .ok (.iconst 0, 1) := by decide +kernel
theorem dL_goodFor_22 : decode cL_goodFor 22 = .ok (.ireturn, 1) := by decide +kernel
abbrev zL_goodFor : List Cond := .codeWith yL_goodFor cL_goodFor 5 (some .int) [(0, 10, 13, 13), (0, 10, 17, 15)] :: BIG
def fL_goodFor (bo : BoT) (now : ShT) (pr : ShT) (ex : ExT) (v : Int32) (n : Int32) (o9 : (Nat → Int64)) : Option (Int32 × ShT × ExT × (Nat → Int64)) := (fX2_goodFor bo now pr ex v n).bind (fun z => match z with | .inr r => some (0, r.2.1, r.2.2, vp_updL o9 (Int32.toNatClampNeg 0) (Int32.toInt64 r.1)) | .inl E => if E = 0 then some (1, pr, ex, o9) else if E = 1 then some (2, pr, ex, o9) else none)
set_option maxHeartbeats 4000000 in
set_option maxRecDepth 100000 in
theorem mtL_goodFor (l : Launch) (hfl : l.stackTraces = false) (D : va_G) (t : Nat → ClassId) (bh : Nat) (bk : Nat → Nat) (bo : BoT) (nb : Nat → Nat) (now : ShT) (pb : Nat → Nat) (pr : ShT) (eb : Nat → Nat) (ex : ExT) (v : Int32) (n : Int32) (oa : Nat) (o9 : (Nat → Int64)) (out : Int32 × ShT × ExT × (Nat → Int64)) (h : fL_goodFor bo now pr ex v n o9 = some out) (sz : Nat) : Met l yL_goodFor zL_goodFor ({ frames := 9, cells := 1, slots := 6, locals := 146 }) (wPc D t (gBo bh bk bo ++ (gS t (bk 0) nb now ++ (gS t (bk 1) pb pr ++ (gE t (bk 2) eb ex ++ (gJ t oa o9))))) sz [.ref bh, .int v, .int n, .ref oa]) (qI D t (gBo bh bk bo ++ (gS t (bk 0) nb now ++ (gS t (bk 1) pb out.2.1 ++ (gE t (bk 2) eb out.2.2.1 ++ (gJ t oa out.2.2.2))))) out.1 (va_A (gBo bh bk bo ++ (gS t (bk 0) nb now ++ (gS t (bk 1) pb pr ++ (gE t (bk 2) eb ex ++ (gJ t oa o9))))) sz)) 1 6 (va_A (gBo bh bk bo ++ (gS t (bk 0) nb now ++ (gS t (bk 1) pb pr ++ (gE t (bk 2) eb ex ++ (gJ t oa o9))))) sz) := by
  refine met_ofL (Qf := fun A => qI D t (gBo bh bk bo ++ (gS t (bk 0) nb now ++ (gS t (bk 1) pb out.2.1 ++ (gE t (bk 2) eb out.2.2.1 ++ (gJ t oa out.2.2.2))))) out.1 A) (cc := cL_goodFor) (maxL := 5) (ret := some .int) (hh := [(0, 10, 13, 13), (0, 10, 17, 15)]) (by decide) rfl (Nat.le_of_ble_eq_true rfl) ?_
  intro p e s m args below meth c A hx hb hr hml hts hown hlocks hA hP hK hD hE hS hX hXW hTab ls hl
  have htB : ∀ w ∈ BIG, w.before args s = true := fun w h => hts w (List.mem_cons_of_mem _ h)
  have hown : s.vm.findClass RL = some m.cls := hown
  have hl : lv_has ls 5 [(0, .ref bh), (1, .int v), (2, .int n), (3, .ref oa)] := hl
  unfold fL_goodFor at h
  obtain ⟨z, hz, h⟩ := ob h
  refine lv_aload_n hx hb dL_goodFor_0 rfl (lv_at hl 3 rfl) ?_
  refine lv_iconst (v := 0) hx hb dL_goodFor_1 (by decide) ?_
  refine lv_aload_n hx hb dL_goodFor_2 rfl (lv_at hl 0 rfl) ?_
  refine lv_iload_n hx hb dL_goodFor_3 rfl (lv_at hl 1 rfl) ?_
  refine lv_iload_n hx hb dL_goodFor_4 rfl (lv_at hl 2 rfl) ?_
  cases z with
  | inr r =>
    dsimp only at h
    refine call_i (v := r.1) (wc := (gBo bh bk bo ++ (gS t (bk 0) nb now ++ (gS t (bk 1) pb pr ++ (gE t (bk 2) eb ex))))) (wc' := (gBo bh bk bo ++ (gS t (bk 0) nb now ++ (gS t (bk 1) pb r.2.1 ++ (gE t (bk 2) eb r.2.2))))) (ws' := (gBo bh bk bo ++ (gS t (bk 0) nb now ++ (gS t (bk 1) pb r.2.1 ++ (gE t (bk 2) eb r.2.2 ++ (gJ t oa o9)))))) (cutB (bs := [gBo bh bk bo, gS t (bk 0) nb now, gS t (bk 1) pb pr, gE t (bk 2) eb ex, gJ t oa o9]) (cs := [gBo bh bk bo, gS t (bk 0) nb now, gS t (bk 1) pb pr, gE t (bk 2) eb ex]) (cs' := [gBo bh bk bo, gS t (bk 0) nb now, gS t (bk 1) pb r.2.1, gE t (bk 2) eb r.2.2]) (bs' := [gBo bh bk bo, gS t (bk 0) nb now, gS t (bk 1) pb r.2.1, gE t (bk 2) eb r.2.2, gJ t oa o9]) [0, 1, 2, 3] hP hD hS hA rfl rfl rfl rfl) hS (fun hPc hDc => va_runV (As := [.int v, .int n]) (rest := [.int 0, .ref oa]) ⟨hx, hb, hml, hown, hts⟩ (mtX2_goodFor l D t bh bk bo nb now pb pr eb ex v n r hz _) (cwV 2 hts (gBV kw567 kw568 kw569 kw2 kw570) rfl rfl rfl (by decide +kernel) ⟨Nat.le_of_ble_eq_true rfl, Nat.le_of_ble_eq_true rfl⟩) (sPc_V hPc hK hDc hE (va_recv hK hP (ci := 2) (q0 := 0) rfl rfl)) rfl rfl hl.1 rfl (lv_room (Nat.le_of_ble_eq_true rfl)) dL_goodFor_5 ⟨Nat.zero_le _, Nat.zero_le _⟩) (fun H locs hP hD hS => ?_)
    refine lv_i2l (v := Int32.toInt64 r.1) hx hb dL_goodFor_8 rfl ?_
    refine va_last hx hb hK hP hD hS 21 2 rfl rfl (pin_in (by decide)) dL_goodFor_9 (fun H locs hP hD hS => ?_)
    have hP : va_P D vwCl (gBo bh bk bo ++ (gS t (bk 0) nb now ++ (gS t (bk 1) pb r.2.1 ++ (gE t (bk 2) eb r.2.2 ++ (gJ t oa (vp_updL o9 (Int32.toNatClampNeg 0) (Int32.toInt64 r.1))))))) H := hP
    have hD : va_D A (gBo bh bk bo ++ (gS t (bk 0) nb now ++ (gS t (bk 1) pb r.2.1 ++ (gE t (bk 2) eb r.2.2 ++ (gJ t oa (vp_updL o9 (Int32.toNatClampNeg 0) (Int32.toInt64 r.1))))))) := hD
    refine lv_goto (tgt := 21) hx hb dL_goodFor_10 (by decide) ?_
    refine lv_iconst (v := 0) hx hb dL_goodFor_21 (by decide) ?_
    obtain rfl := os h
    refine W.widen (k := 1) (n := 6) (by omega) (by omega) ?_
    exact ret_i hx hb hr hlocks hP hK hD hS dL_goodFor_22
  | inl E =>
    dsimp only at h
    by_cases e0 : E = 0
    · have h := it_p e0 h
      subst e0
      refine call_c (E := 0) (wc := (gBo bh bk bo ++ (gS t (bk 0) nb now ++ (gS t (bk 1) pb pr ++ (gE t (bk 2) eb ex))))) (ws := (gBo bh bk bo ++ (gS t (bk 0) nb now ++ (gS t (bk 1) pb pr ++ (gE t (bk 2) eb ex ++ (gJ t oa o9)))))) (cutB (bs := [gBo bh bk bo, gS t (bk 0) nb now, gS t (bk 1) pb pr, gE t (bk 2) eb ex, gJ t oa o9]) (cs := [gBo bh bk bo, gS t (bk 0) nb now, gS t (bk 1) pb pr, gE t (bk 2) eb ex]) (cs' := [gBo bh bk bo, gS t (bk 0) nb now, gS t (bk 1) pb pr, gE t (bk 2) eb ex]) (bs' := [gBo bh bk bo, gS t (bk 0) nb now, gS t (bk 1) pb pr, gE t (bk 2) eb ex, gJ t oa o9]) [0, 1, 2, 3] hP hD hS hA rfl rfl rfl rfl) hS (fun hPc hDc hAB => vx_runV (As := [.int v, .int n]) (rest := [.int 0, .ref oa]) ⟨hx, hb, hml, hown, hts⟩ (xmX2_goodFor l hfl D t bh bk bo nb now pb pr eb ex v n 0 hz _) (cwV 2 hts (gBV kw567 kw568 kw569 kw2 kw570) rfl rfl rfl (by decide +kernel) ⟨Nat.le_of_ble_eq_true rfl, Nat.le_of_ble_eq_true rfl⟩) (xPc_V hPc hK hDc hE (va_recv hK hP (ci := 2) (q0 := 0) rfl rfl) hX hS hAB) rfl rfl hl.1 rfl (lv_room (Nat.le_of_ble_eq_true rfl)) dL_goodFor_5 ⟨Nat.le_of_ble_eq_true rfl, Nat.le_of_ble_eq_true rfl⟩) (fun ce q9 H locs hP hD hS hcell hv hcl => ?_)
      refine vx_catch (name := xname 0) hown [] ⟨0, 10, 13, 13⟩ [⟨0, 10, 17, 15⟩] hTab (fun z hz => nomatch hz) (by decide) (by decide) (htB _ kw66) (va_Nw.use rfl hX.2.2.1.2.2.2) hcell hv hcl ?_
      refine lv_astore (lv' := [(4, .ref q9), (0, .ref bh), (1, .int v), (2, .int n), (3, .ref oa)]) hx hb dL_goodFor_13 hl (by decide) rfl (fun ls hl => ?_)
      refine lv_iconst (v := 1) hx hb dL_goodFor_15 (by decide) ?_
      obtain rfl := os h
      exact ret_i hx hb hr hlocks hP hK hD hS dL_goodFor_16
    · have h := it_n e0 h
      by_cases e1 : E = 1
      · have h := it_p e1 h
        subst e1
        refine call_c (E := 1) (wc := (gBo bh bk bo ++ (gS t (bk 0) nb now ++ (gS t (bk 1) pb pr ++ (gE t (bk 2) eb ex))))) (ws := (gBo bh bk bo ++ (gS t (bk 0) nb now ++ (gS t (bk 1) pb pr ++ (gE t (bk 2) eb ex ++ (gJ t oa o9)))))) (cutB (bs := [gBo bh bk bo, gS t (bk 0) nb now, gS t (bk 1) pb pr, gE t (bk 2) eb ex, gJ t oa o9]) (cs := [gBo bh bk bo, gS t (bk 0) nb now, gS t (bk 1) pb pr, gE t (bk 2) eb ex]) (cs' := [gBo bh bk bo, gS t (bk 0) nb now, gS t (bk 1) pb pr, gE t (bk 2) eb ex]) (bs' := [gBo bh bk bo, gS t (bk 0) nb now, gS t (bk 1) pb pr, gE t (bk 2) eb ex, gJ t oa o9]) [0, 1, 2, 3] hP hD hS hA rfl rfl rfl rfl) hS (fun hPc hDc hAB => vx_runV (As := [.int v, .int n]) (rest := [.int 0, .ref oa]) ⟨hx, hb, hml, hown, hts⟩ (xmX2_goodFor l hfl D t bh bk bo nb now pb pr eb ex v n 1 hz _) (cwV 2 hts (gBV kw567 kw568 kw569 kw2 kw570) rfl rfl rfl (by decide +kernel) ⟨Nat.le_of_ble_eq_true rfl, Nat.le_of_ble_eq_true rfl⟩) (xPc_V hPc hK hDc hE (va_recv hK hP (ci := 2) (q0 := 0) rfl rfl) hX hS hAB) rfl rfl hl.1 rfl (lv_room (Nat.le_of_ble_eq_true rfl)) dL_goodFor_5 ⟨Nat.le_of_ble_eq_true rfl, Nat.le_of_ble_eq_true rfl⟩) (fun ce q9 H locs hP hD hS hcell hv hcl => ?_)
        refine vx_catch (name := xname 1) hown [⟨0, 10, 13, 13⟩] ⟨0, 10, 17, 15⟩ [] hTab (fun z hz => by rcases List.mem_cons.mp hz with rfl | hz; exact Or.inr ⟨by decide, _, (htB _ kw66), hXW.1⟩; cases hz) (by decide) (by decide) (htB _ kw67) (va_Nw.use rfl hX.2.2.2.1.2.2.2) hcell hv hcl ?_
        refine lv_astore (lv' := [(4, .ref q9), (0, .ref bh), (1, .int v), (2, .int n), (3, .ref oa)]) hx hb dL_goodFor_17 hl (by decide) rfl (fun ls hl => ?_)
        refine lv_iconst (v := 2) hx hb dL_goodFor_19 (by decide) ?_
        obtain rfl := os h
        exact ret_i hx hb hr hlocks hP hK hD hS dL_goodFor_20
      · have h := it_n e1 h
        cases h

theorem dL_evenness_0 : decode cL_evenness 0 = .ok (.aload_n 2, 1) := by decide +kernel
theorem dL_evenness_1 : decode cL_evenness 1 = .ok (.iconst 0, 1) := by decide +kernel
theorem dL_evenness_2 : decode cL_evenness 2 = .ok (.aload_n 0, 1) := by decide +kernel
theorem dL_evenness_3 : decode cL_evenness 3 = .ok (.iload_n 1, 1) := by decide +kernel
theorem dL_evenness_4 : decode cL_evenness 4 = .ok (.invokevirtual 74, 3) := by decide +kernel
theorem dL_evenness_7 : decode cL_evenness 7 = .ok (.dastore, 1) := by decide +kernel
theorem dL_evenness_8 : decode cL_evenness 8 = .ok (.goto 6, 3) := by decide +kernel
theorem dL_evenness_11 : decode cL_evenness 11 = .ok (.astore_n 3, 1) := by decide +kernel
theorem dL_evenness_12 : decode cL_evenness 12 = .ok (.iconst 1, 1) := by decide +kernel
theorem dL_evenness_13 : decode cL_evenness 13 = .ok (.ireturn, 1) := by decide +kernel
theorem dL_evenness_14 : decode cL_evenness 14 = .ok (.iconst 0, 1) := by decide +kernel
theorem dL_evenness_15 : decode cL_evenness 15 = .ok (.ireturn, 1) := by decide +kernel
abbrev zL_evenness : List Cond := .codeWith yL_evenness cL_evenness 4 (some .int) [(0, 8, 11, 13)] :: BIG
def fL_evenness (bo : BoT) (now : ShT) (ex : ExT) (v : Int32) (o9 : (Nat → UInt64)) : Option (Int32 × ExT × (Nat → UInt64)) := (fX2_evenness bo now ex v).bind (fun z => match z with | .inr r => some (0, r.2, vf_upd o9 (Int32.toNatClampNeg 0) r.1) | .inl E => if E = 0 then some (1, ex, o9) else none)
set_option maxHeartbeats 4000000 in
set_option maxRecDepth 100000 in
theorem mtL_evenness (l : Launch) (hfl : l.stackTraces = false) (D : va_G) (t : Nat → ClassId) (bh : Nat) (bk : Nat → Nat) (bo : BoT) (nb : Nat → Nat) (now : ShT) (eb : Nat → Nat) (ex : ExT) (v : Int32) (oa : Nat) (o9 : (Nat → UInt64)) (out : Int32 × ExT × (Nat → UInt64)) (h : fL_evenness bo now ex v o9 = some out) (sz : Nat) : Met l yL_evenness zL_evenness ({ frames := 9, cells := 1, slots := 6, locals := 144 }) (wPc D t (gBo bh bk bo ++ (gS t (bk 0) nb now ++ (gE t (bk 2) eb ex ++ (gD t oa o9)))) sz [.ref bh, .int v, .ref oa]) (qI D t (gBo bh bk bo ++ (gS t (bk 0) nb now ++ (gE t (bk 2) eb out.2.1 ++ (gD t oa out.2.2)))) out.1 (va_A (gBo bh bk bo ++ (gS t (bk 0) nb now ++ (gE t (bk 2) eb ex ++ (gD t oa o9)))) sz)) 1 6 (va_A (gBo bh bk bo ++ (gS t (bk 0) nb now ++ (gE t (bk 2) eb ex ++ (gD t oa o9)))) sz) := by
  refine met_ofL (Qf := fun A => qI D t (gBo bh bk bo ++ (gS t (bk 0) nb now ++ (gE t (bk 2) eb out.2.1 ++ (gD t oa out.2.2)))) out.1 A) (cc := cL_evenness) (maxL := 4) (ret := some .int) (hh := [(0, 8, 11, 13)]) (by decide) rfl (Nat.le_of_ble_eq_true rfl) ?_
  intro p e s m args below meth c A hx hb hr hml hts hown hlocks hA hP hK hD hE hS hX hXW hTab ls hl
  have htB : ∀ w ∈ BIG, w.before args s = true := fun w h => hts w (List.mem_cons_of_mem _ h)
  have hown : s.vm.findClass RL = some m.cls := hown
  have hl : lv_has ls 4 [(0, .ref bh), (1, .int v), (2, .ref oa)] := hl
  unfold fL_evenness at h
  obtain ⟨z, hz, h⟩ := ob h
  refine lv_aload_n hx hb dL_evenness_0 rfl (lv_at hl 2 rfl) ?_
  refine lv_iconst (v := 0) hx hb dL_evenness_1 (by decide) ?_
  refine lv_aload_n hx hb dL_evenness_2 rfl (lv_at hl 0 rfl) ?_
  refine lv_iload_n hx hb dL_evenness_3 rfl (lv_at hl 1 rfl) ?_
  cases z with
  | inr r =>
    dsimp only at h
    refine call_d (v := r.1) (wc := (gBo bh bk bo ++ (gS t (bk 0) nb now ++ (gE t (bk 2) eb ex)))) (wc' := (gBo bh bk bo ++ (gS t (bk 0) nb now ++ (gE t (bk 2) eb r.2)))) (ws' := (gBo bh bk bo ++ (gS t (bk 0) nb now ++ (gE t (bk 2) eb r.2 ++ (gD t oa o9))))) (cutB (bs := [gBo bh bk bo, gS t (bk 0) nb now, gE t (bk 2) eb ex, gD t oa o9]) (cs := [gBo bh bk bo, gS t (bk 0) nb now, gE t (bk 2) eb ex]) (cs' := [gBo bh bk bo, gS t (bk 0) nb now, gE t (bk 2) eb r.2]) (bs' := [gBo bh bk bo, gS t (bk 0) nb now, gE t (bk 2) eb r.2, gD t oa o9]) [0, 1, 2] hP hD hS hA rfl rfl rfl rfl) hS (fun hPc hDc => va_runV (As := [.int v]) (rest := [.int 0, .ref oa]) ⟨hx, hb, hml, hown, hts⟩ (mtX2_evenness l D t bh bk bo nb now eb ex v r hz _) (cwV 1 hts (gBV kw582 kw583 kw584 kw2 kw585) rfl rfl rfl (by decide +kernel) ⟨Nat.le_of_ble_eq_true rfl, Nat.le_of_ble_eq_true rfl⟩) (sPc_V hPc hK hDc hE (va_recv hK hP (ci := 2) (q0 := 0) rfl rfl)) rfl rfl hl.1 rfl (lv_room (Nat.le_of_ble_eq_true rfl)) dL_evenness_4 ⟨Nat.zero_le _, Nat.zero_le _⟩) (fun H locs hP hD hS => ?_)
    refine va_dast hx hb hK hP hD hS 13 3 rfl rfl (pin_in (by decide)) dL_evenness_7 (fun H locs hP hD hS => ?_)
    have hP : va_P D vwCl (gBo bh bk bo ++ (gS t (bk 0) nb now ++ (gE t (bk 2) eb r.2 ++ (gD t oa (vf_upd o9 (Int32.toNatClampNeg 0) r.1))))) H := hP
    have hD : va_D A (gBo bh bk bo ++ (gS t (bk 0) nb now ++ (gE t (bk 2) eb r.2 ++ (gD t oa (vf_upd o9 (Int32.toNatClampNeg 0) r.1))))) := hD
    refine lv_goto (tgt := 14) hx hb dL_evenness_8 (by decide) ?_
    refine lv_iconst (v := 0) hx hb dL_evenness_14 (by decide) ?_
    obtain rfl := os h
    refine W.widen (k := 1) (n := 6) (by omega) (by omega) ?_
    exact ret_i hx hb hr hlocks hP hK hD hS dL_evenness_15
  | inl E =>
    dsimp only at h
    by_cases e0 : E = 0
    · have h := it_p e0 h
      subst e0
      refine call_c (E := 0) (wc := (gBo bh bk bo ++ (gS t (bk 0) nb now ++ (gE t (bk 2) eb ex)))) (ws := (gBo bh bk bo ++ (gS t (bk 0) nb now ++ (gE t (bk 2) eb ex ++ (gD t oa o9))))) (cutB (bs := [gBo bh bk bo, gS t (bk 0) nb now, gE t (bk 2) eb ex, gD t oa o9]) (cs := [gBo bh bk bo, gS t (bk 0) nb now, gE t (bk 2) eb ex]) (cs' := [gBo bh bk bo, gS t (bk 0) nb now, gE t (bk 2) eb ex]) (bs' := [gBo bh bk bo, gS t (bk 0) nb now, gE t (bk 2) eb ex, gD t oa o9]) [0, 1, 2] hP hD hS hA rfl rfl rfl rfl) hS (fun hPc hDc hAB => vx_runV (As := [.int v]) (rest := [.int 0, .ref oa]) ⟨hx, hb, hml, hown, hts⟩ (xmX2_evenness l hfl D t bh bk bo nb now eb ex v 0 hz _) (cwV 1 hts (gBV kw582 kw583 kw584 kw2 kw585) rfl rfl rfl (by decide +kernel) ⟨Nat.le_of_ble_eq_true rfl, Nat.le_of_ble_eq_true rfl⟩) (xPc_V hPc hK hDc hE (va_recv hK hP (ci := 2) (q0 := 0) rfl rfl) hX hS hAB) rfl rfl hl.1 rfl (lv_room (Nat.le_of_ble_eq_true rfl)) dL_evenness_4 ⟨Nat.le_of_ble_eq_true rfl, Nat.le_of_ble_eq_true rfl⟩) (fun ce q9 H locs hP hD hS hcell hv hcl => ?_)
      refine vx_catch (name := xname 0) hown [] ⟨0, 8, 11, 13⟩ [] hTab (fun z hz => nomatch hz) (by decide) (by decide) (htB _ kw66) (va_Nw.use rfl hX.2.2.1.2.2.2) hcell hv hcl ?_
      refine lv_astore_n (lv' := [(3, .ref q9), (0, .ref bh), (1, .int v), (2, .ref oa)]) hx hb dL_evenness_11 rfl hl (by decide) rfl (fun ls hl => ?_)
      refine lv_iconst (v := 1) hx hb dL_evenness_12 (by decide) ?_
      obtain rfl := os h
      exact ret_i hx hb hr hlocks hP hK hD hS dL_evenness_13
    · have h := it_n e0 h
      cases h
