/-! THE CLAIM OUT OF ONE WALK OF THE LAW'S BODY. Your part is whole_start (and what it stands on); all else here is the same for every law, but numbers. -/
def R_law : String := "ShutterBenchLaw"
def lw_P (b : Addr) (xs : List Int32) (args : Array Value) (s : State) : Prop := args = #[.ref b] ∧ s.IntsAt b xs ∧ xs.length ≤ 260 ∧ (Jvm.Cond.and given_1 narrow_1).before args s = true
/-- what a walk over the start with the record d0 says of its end, said of the start itself -/
theorem lw_closed {s t : State} {o : Outcome} {d0 : Drawn} {L : List Loc} {k n : Nat} (hd0 : s.drawn.sameBut d0 lw_cs) (hv : ∃ v, o = .returned v) (hW : (s.setDrawn d0).WarmedH t.vm) (hs : (s.setDrawn d0).sameButNew ({ t with vm := s.vm } : State) L k n) : State.butDraws s t lw_cs (fun t1 => Framed s o t1 L k n) := by
  have h2 : t.drawn = d0 := congrArg State.drawn hs.1
  refine ⟨⟨hv, hW, State.sameButNew.setDrawn hs s.drawn⟩, ?_, by decide⟩
  rw [h2]
  exact hd0
def lw_Q (_ : Array Value) (s : State) (o : Outcome) (t : State) : Prop := o = .returned (some (.int 1)) ∧ State.butDraws s t lw_cs (fun t1 => Framed s o t1 [] 600104 7301314)
def lw_Z (below : List Frame) (a : Array Value) (s : State) : State → Prop := fun t => ∃ o, t.status = .running ∧ Ended t below o ∧ lw_Q a s o t
/-- the law's own end, with 1 on the stack, nothing written that was there before, its room as the claim has it; d0: the record of draws at this point (at the entry s.drawn: begin with 'refine W.base ?_' and 'have hd0 := Drawn.sameBut.refl s.drawn lw_cs') -/
theorem lw_ret {p : Program} {l : Launch} {e : Env} {s : State} {m : MethodId} {below : List Frame} {meth : Method} {c : Code} {b : Nat} {d0 : Drawn} (hd0 : s.drawn.sameBut d0 lw_cs) (hx : p.tables.exec = Jvm.exec) (hb : c.code = code) (hr : meth.sig.returnType = ret) (hlocks : meth.locks = false) {pc : Nat} {H : Heap} {ls : Array Slot} (hdg : decode code pc = .ok (.ireturn, 1)) : W p l e room_1 (s.setDrawn d0) m #[Value.ref b] below meth c H [] 600104 7301314 (lw_Z below #[Value.ref b] s) (F0 m pc ls [.int 1]) := by
  intro T hT X
  obtain ⟨fs, hret, hrun, hended, hW, hframe⟩ := X.leave (v := some (.int 1)) (hlocks := hlocks) (fun h => by rw [hr] at h; cases h)
  have hmeth' : T.vm.method? m = some meth := X.method'
  refine ⟨T.setFrames fs, ?_, .returned (some (.int 1)), hrun, hended, rfl, lw_closed hd0 ⟨_, rfl⟩ hW hframe⟩
  jvm_step X.here [X.here.top, hx, hb, hdg, hmeth', hr, ret, narrow_b1]
  (try refine ⟨rfl, ?_⟩); (try refine ⟨rfl, ?_⟩)
  first | (intro acts; rw [hret _ acts rfl rfl rfl]) | rw [hret _ _ rfl rfl rfl]
  exact Steps.refl _
/-- what holds at the law's entry: the machine, the code, the tables' words (any of lw_tbl by 'hts w (by decide +kernel)'), the script of L ints xs at the cell b, what the Statement gives of the start (any of its parts by flat_of_before) -/
def lw_At (p : Program) (s : State) (m : MethodId) (meth : Method) (c : Code) (b L : Nat) (xs : Nat → Int32) : Prop :=
  p.tables.exec = Jvm.exec ∧ c.code = code ∧ meth.sig.returnType = ret ∧ c.maxLocals = 19 ∧ s.vm.findClass R_law = some m.cls ∧ (∀ w ∈ lw_tbl, w.before #[Value.ref b] s = true) ∧ va_X b L xs s s.heap ∧ b < s.heap.size ∧ meth.locks = false ∧ (Jvm.Cond.and given_1 narrow_1).before #[Value.ref b] s = true
theorem st_str {A : Array Value} {s : State} {own tx : String} {k : Nat} (h1 : (Cond.stringRef own k tx).before A s = true) (h2 : (Cond.exactly (.string own k) "java/lang/String").before A s = true) : ∃ sa, vk_R own k tx sa s := by
  obtain ⟨a, _, _, _, ha, -⟩ := Cond.exactly_spec h2
  exact ⟨a, vk_R.of h1 ha⟩

theorem st_xE {A : Array Value} {s : State} (h : ∀ w ∈ lw_tbl, w.before A s = true) : xE s :=
  ⟨va_Nw.of rfl (h _ (by decide +kernel)), va_Nw.of rfl (h _ (by decide +kernel)), va_Nw.of rfl (h _ (by decide +kernel)), va_Nw.of rfl (h _ (by decide +kernel)), va_Nw.of rfl (h _ (by decide +kernel)), va_Nw.of rfl (h _ (by decide +kernel))⟩

theorem st_xN {A : Array Value} {s : State} (X : String) (h : ∀ w ∈ lw_tbl, w.before A s = true) (hc : Cond.castable X X ∈ lw_tbl) : xN X s :=
  ⟨va_Nw.of rfl (h _ (by decide +kernel)), va_Nw.of rfl (h _ (by decide +kernel)), va_Nw.of rfl (h _ (by decide +kernel)), va_Nw.of rfl (h _ hc)⟩

theorem st_xT {A : Array Value} {s : State} (h : ∀ w ∈ lw_tbl, w.before A s = true) (hg : ∀ c ∈ flatC (Jvm.Cond.and given_1 narrow_1), c.before A s = true) : xT s :=
  st_str (h _ (by decide +kernel)) (hg _ (by decide +kernel))
theorem st_xS {A : Array Value} {s : State} (h : ∀ w ∈ lw_tbl, w.before A s = true) (hg : ∀ c ∈ flatC (Jvm.Cond.and given_1 narrow_1), c.before A s = true) : xS (fun q : Nat => s.heap.size ≤ q) s s.heap :=
  ⟨⟨vx_Zqof (h _ (by decide +kernel)) (h _ (by decide +kernel)) (hg _ (by decide +kernel)) (fun a h1 h2 => absurd h1 (Nat.not_lt.mpr h2)), vx_Zqof (h _ (by decide +kernel)) (h _ (by decide +kernel)) (hg _ (by decide +kernel)) (fun a h1 h2 => absurd h1 (Nat.not_lt.mpr h2))⟩,
   st_xT h hg, st_xN (xname 2) h (by decide +kernel)⟩

theorem st_arr {A : Array Value} {s : State} {ty : FieldType} (h : (Cond.arrayClass ty).before A s = true) : ∃ c, ArrOfT s c ty ∧ s.vm.findClass ("[" ++ ty.toString) = some c := by
  obtain ⟨c, k, comp, h1, h2, h3⟩ := Cond.arrayClass_spec h
  exact ⟨c, fun n z => ⟨fun k h => (by cases h), k, h2, comp, h3⟩, h1⟩

theorem st_K {A : Array Value} {s : State} (h : ∀ w ∈ lw_tbl, w.before A s = true) : ∃ (D : va_G) (t : Nat → ClassId), va_K D vwCl (TY t) s := by
  obtain ⟨c0, i0, k0⟩ := u_known (C := RX0) (T := TX0) (N := 10) (n := 10) h blX0 (h (.instantiable RX0 10) (by decide +kernel))
  obtain ⟨c1, i1, k1⟩ := u_known (C := RX1) (T := TX1) (N := 10) (n := 10) h blX1 (h (.instantiable RX1 10) (by decide +kernel))
  obtain ⟨c2, i2, k2⟩ := u_known (C := RX2) (T := TX2) (N := 8) (n := 8) h blX2 (h (.instantiable RX2 8) (by decide +kernel))
  obtain ⟨a0, h0, r0⟩ := st_arr (h (.arrayClass .int) (by decide +kernel))
  obtain ⟨comp, a1, kA, f1, -, f2, f3, f4⟩ := Cond.arrayOver_spec (h (.arrayOver (.object RX1)) (by decide +kernel))
  refine ⟨(fun k => if k = 0 then c0 else if k = 1 then c1 else c2, fun k => if k = 0 then i0 else if k = 1 then i1 else i2), fun k => if k = 0 then a0 else a1, fun k q hq => ?_, fun k q hq => ?_⟩
  · match k, hq with
    | 0, hq => cases hq; exact k0
    | 1, hq => cases hq; exact k1
    | 2, hq => cases hq; exact k2
    | k + 3, hq => simp at hq
  · match k, hq with
    | 0, hq => cases hq; exact ⟨h0, r0⟩
    | 1, hq => cases hq; exact ⟨fun N z => ⟨(fun k h => by cases h), kA, f2, comp, f3⟩, kA, comp, f2, f3, f1, f4⟩
    | k + 2, hq => simp at hq

def tn (L : Nat) : Int32 := if Int32.ofNat L / 3 ≤ 40 then Int32.ofNat L / 3 else 40
abbrev iniL (L : Nat) : LwT := ((0, 0, 0), iniS, iniS, iniE, (fun _ => iniS), 1, tn L, 0)
def fL_law (L : Nat) (xs : Nat → Int32) : Option Bool := lp (fL_law_l32 L xs) 2000 (iniL L)
set_option maxHeartbeats 8000000 in
set_option maxRecDepth 100000 in
theorem start_of {p : Program} {e : Env} {s : State} {m : MethodId} {below : List Frame} {meth : Method} {c : Code} (l : Launch) (hflags : l.flags = flags0) {b L : Nat} {xs : Nat → Int32} (hF : fL_law L xs = some true) (C0 : lw_At p s m meth c b L xs) : W p l e room_1 s m #[Value.ref b] below meth c s.heap [] 0 0 (lw_Z below #[Value.ref b] s) (entryFrame m ([Value.ref b] : List Value).toArray 19) := by
  obtain ⟨hx, hb, hr, hml, hown0, hts0, hXs, hbl, hlocks, hgv⟩ := id C0
  have hfl : l.stackTraces = false := by first | (unfold Launch.stackTraces; rw [hflags]; decide +kernel) | (simp [Launch.stackTraces, hflags]; done) | (simp [Launch.stackTraces, hflags, flags0]; decide +kernel)
  have hg := flat_of_before _ hgv
  have hA : ∀ q : Nat, s.heap.size ≤ q → (fun q : Nat => s.heap.size ≤ q) q := fun _ h => h
  have hbA : ¬ (fun q : Nat => s.heap.size ≤ q) b := Nat.not_le.mpr hbl
  have hd0 := Drawn.sameBut.refl s.drawn lw_cs
  obtain ⟨D, t, hK0⟩ := st_K hts0
  refine W.base ?_
  have htl := dr_words hts0 s.drawn
  have hK : va_K D vwCl (TY t) (s.setDrawn s.drawn) := hK0
  have hE : xE (s.setDrawn s.drawn) := st_xE htl
  have hX : xS (fun q : Nat => s.heap.size ≤ q) (s.setDrawn s.drawn) (s.setDrawn s.drawn).heap := st_xS hts0 hg
  have hAO : va_AO RX1 (s.setDrawn s.drawn) := va_AO.of (htl _ (by decide +kernel))
  have htB : ∀ w ∈ BIG, w.before #[Value.ref b] (s.setDrawn s.drawn) = true := fun w h => htl w (big_in w h)
  have hown : (s.setDrawn s.drawn).vm.findClass RL = some m.cls := hown0
  have hts : ∀ w ∈ Cond.initialized RL :: BIG, w.before #[Value.ref b] (s.setDrawn s.drawn) = true := fun w h => (List.mem_cons.mp h).elim (fun e9 => by rw [e9]; exact htB _ kw69) (htB w)
  have hS : va_S (fun q : Nat => s.heap.size ≤ q) (s.setDrawn s.drawn).heap s.heap [] := va_S.rf
  have hP : va_P D vwCl [] s.heap := fun k q h => by simp at h
  have hD : va_D (fun q : Nat => s.heap.size ≤ q) [] := ⟨fun i j p q h => by simp at h, fun k q h => by simp at h⟩
  have hl := lv_entry ([.ref b]) (n := 19) (Nat.le_of_ble_eq_true rfl)
  rw [lg_entry_eq]
  generalize (lg_sl ([.ref b]) ++ List.replicate (19 - (lg_sl ([.ref b])).length) Slot.unset).toArray = ls at hl ⊢
  have hl : lv_has ls 19 [(0, .ref b)] := hl
  refine va_new (ci := 2) (fs := [.null, .null, .null, .null, .int 0, .int 0, .null, .int 0]) (C := RX2) (T := TX2) (N := 8) hx hb htB inlX2 tyX2 tyX2_ok hown (htB _ kw0) (htB _ kw1) (htB _ kw2) hK hP hD hS hA rfl (by decide +kernel) (Nat.le_of_ble_eq_true rfl) (Nat.le_of_ble_eq_true rfl) dL_law_0 (fun q1 H hP hD hS => ?_)
  have hP : va_P D vwCl [(q1, .inr (2, [.null, .null, .null, .null, .int 0, .int 0, .null, .int 0]))] H := hP
  have hD : va_D (fun q : Nat => s.heap.size ≤ q) [(q1, .inr (2, [.null, .null, .null, .null, .int 0, .int 0, .null, .int 0]))] := hD
  refine lv_dup hx hb dL_law_3 rfl ?_
  have hFc := va_free (wc := [(q1, .inr (2, [.null, .null, .null, .null, .int 0, .int 0, .null, .int 0]))]) hD hS hA [0] rfl
  refine va_callv (va_runI (As := []) (rest := [.ref q1]) ⟨hx, hb, hml, hown, hts⟩ (mtX2_init l D t q1 H.size) (cwI 0 hts (gB kw5) rfl rfl rfl (htB _ kw2) (htB _ kw3) (htB _ kw4) rfl (by decide +kernel) ⟨Nat.le_of_ble_eq_true rfl, Nat.le_of_ble_eq_true rfl⟩) (sPcO_S hP hK hD hE hAO) rfl rfl hl.1 rfl (lv_room (Nat.le_of_ble_eq_true rfl)) dL_law_4 ⟨Nat.le_of_ble_eq_true rfl, Nat.le_of_ble_eq_true rfl⟩) hS (fun q9 _ h9 => hFc q9 h9) hFc (fun u t9 H9 locs9 ht9 hvm9 hw9 hB9 hz9 hk9 hS => ?_)
  obtain ⟨hP9, -, hD9⟩ := hB9
  rw [ht9] at hP9
  obtain ⟨hP, hD⟩ := va_join (wr := []) (w1 := gBo q1 u.1 (0, 0, 0) ++ (gS t (u.1 0) u.2.1 iniS ++ (gS t (u.1 1) u.2.2.1 iniS ++ (gE t (u.1 2) u.2.2.2.1 iniE ++ (gQ t (u.1 3) u.2.2.2.2.1 ++ (g6 t u.2.2.2.2.1 u.2.2.2.2.2 (fun _ => iniS) ++ gA t (u.1 4) 60 (fun _ => 0))))))) hP hD [0] [] rfl rfl rfl (by decide) hk9 hFc hP9 hD9
  generalize H9 = H at hP hS ⊢
  have hP : va_P D vwCl (gBo q1 u.1 (0, 0, 0) ++ (gS t (u.1 0) u.2.1 iniS ++ (gS t (u.1 1) u.2.2.1 iniS ++ (gE t (u.1 2) u.2.2.2.1 iniE ++ (gQ t (u.1 3) u.2.2.2.2.1 ++ (g6 t u.2.2.2.2.1 u.2.2.2.2.2 (fun _ => iniS) ++ gA t (u.1 4) 60 (fun _ => 0))))))) H := hP
  have hD : va_D (fun q : Nat => s.heap.size ≤ q) (gBo q1 u.1 (0, 0, 0) ++ (gS t (u.1 0) u.2.1 iniS ++ (gS t (u.1 1) u.2.2.1 iniS ++ (gE t (u.1 2) u.2.2.2.1 iniE ++ (gQ t (u.1 3) u.2.2.2.2.1 ++ (g6 t u.2.2.2.2.1 u.2.2.2.2.2 (fun _ => iniS) ++ gA t (u.1 4) 60 (fun _ => 0))))))) := hD
  have hP : va_P D vwCl (gBo q1 u.1 ((iniL L).1) ++ (gS t (u.1 0) u.2.1 ((iniL L).2.1) ++ (gS t (u.1 1) u.2.2.1 ((iniL L).2.2.1) ++ (gE t (u.1 2) u.2.2.2.1 ((iniL L).2.2.2.1) ++ (gQ t (u.1 3) u.2.2.2.2.1 ++ (g6 t u.2.2.2.2.1 u.2.2.2.2.2 ((iniL L).2.2.2.2.1))))))) H := hP.pick0 (List.range 70) rfl
  have hD : va_D (fun q : Nat => s.heap.size ≤ q) (gBo q1 u.1 ((iniL L).1) ++ (gS t (u.1 0) u.2.1 ((iniL L).2.1) ++ (gS t (u.1 1) u.2.2.1 ((iniL L).2.2.1) ++ (gE t (u.1 2) u.2.2.2.1 ((iniL L).2.2.2.1) ++ (gQ t (u.1 3) u.2.2.2.2.1 ++ (g6 t u.2.2.2.2.1 u.2.2.2.2.2 ((iniL L).2.2.2.2.1))))))) := hD.sub (List.range 70) (by decide +kernel) rfl
  refine lv_astore_n (lv' := [(1, .ref q1), (0, .ref b)]) hx hb dL_law_7 rfl hl (by decide) rfl (fun ls hl => ?_)
  refine lv_iconst (v := 1) hx hb dL_law_8 (by decide) ?_
  refine lv_istore_n (lv' := [(2, .int 1), (1, .ref q1), (0, .ref b)]) hx hb dL_law_9 rfl hl (by decide) rfl (fun ls hl => ?_)
  refine lv_aload_n hx hb dL_law_10 rfl (lv_at hl 2 rfl) ?_
  refine va_slen hx hb hXs hbl hbA hS dL_law_11 ?_
  refine lv_iconst (v := 3) hx hb dL_law_12 (by decide) ?_
  refine lv_idiv hx hb dL_law_13 (by decide) ?_
  refine lv_bipush (v := 40) hx hb dL_law_14 (by decide) ?_
  refine lv_icmp_le (tgt := 24) hx hb dL_law_16 (by decide) (fun c1 => ?_) (fun c1 => ?_)
  · refine lv_aload_n hx hb dL_law_24 rfl (lv_at hl 2 rfl) ?_
    refine va_slen hx hb hXs hbl hbA hS dL_law_25 ?_
    refine lv_iconst (v := 3) hx hb dL_law_26 (by decide) ?_
    refine lv_idiv hx hb dL_law_27 (by decide) ?_
    rw [show Int32.ofNat L / 3 = tn L from (if_pos c1).symm]
    refine lv_istore_n (lv' := [(3, .int (tn L)), (2, .int 1), (1, .ref q1), (0, .ref b)]) hx hb dL_law_28 rfl hl (by decide) rfl (fun ls hl => ?_)
    refine lv_iconst (v := 0) hx hb dL_law_29 (by decide) ?_
    refine lv_istore (lv' := [(4, .int 0), (3, .int (tn L)), (2, .int 1), (1, .ref q1), (0, .ref b)]) hx hb dL_law_30 hl (by decide) rfl (fun ls hl => ?_)
    refine la_loop (A := (fun q : Nat => s.heap.size ≤ q)) hfl q1 u.1 u.2.1 u.2.2.1 u.2.2.2.1 u.2.2.2.2.1 u.2.2.2.2.2 hx hb hml hown htB hA hK hE hX hXs hbl hbA (fun v H locs cc ss hc hs hP hD hS ls => ?_) 2000 (iniL L) _ _ (Nat.le_of_ble_eq_true rfl) (Nat.le_of_ble_eq_true rfl) hF H _ hP hD hS ls (lv_sub hl [4, 3, 2, 1, 0] rfl)
    refine va_forget (fun q hq => hS.2.2 q hq) ?_
    refine W.widen (k := 600104) (n := 7301314) hc hs ?_
    exact lw_ret hd0 hx hb hr hlocks dL_law_439
  · refine lv_bipush (v := 40) hx hb dL_law_19 (by decide) ?_
    refine lv_goto (tgt := 28) hx hb dL_law_21 (by decide) ?_
    have e9 : tn L = 40 := if_neg c1
    refine W.eq (g2 := F0 m 28 ls [.int (tn L)]) (by rw [e9]) ?_
    refine lv_istore_n (lv' := [(3, .int (tn L)), (2, .int 1), (1, .ref q1), (0, .ref b)]) hx hb dL_law_28 rfl hl (by decide) rfl (fun ls hl => ?_)
    refine lv_iconst (v := 0) hx hb dL_law_29 (by decide) ?_
    refine lv_istore (lv' := [(4, .int 0), (3, .int (tn L)), (2, .int 1), (1, .ref q1), (0, .ref b)]) hx hb dL_law_30 hl (by decide) rfl (fun ls hl => ?_)
    refine la_loop (A := (fun q : Nat => s.heap.size ≤ q)) hfl q1 u.1 u.2.1 u.2.2.1 u.2.2.2.1 u.2.2.2.2.1 u.2.2.2.2.2 hx hb hml hown htB hA hK hE hX hXs hbl hbA (fun v H locs cc ss hc hs hP hD hS ls => ?_) 2000 (iniL L) _ _ (Nat.le_of_ble_eq_true rfl) (Nat.le_of_ble_eq_true rfl) hF H _ hP hD hS ls (lv_sub hl [4, 3, 2, 1, 0] rfl)
    refine va_forget (fun q hq => hS.2.2 q hq) ?_
    refine W.widen (k := 600104) (n := 7301314) hc hs ?_
    exact lw_ret hd0 hx hb hr hlocks dL_law_439
