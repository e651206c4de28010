/-! THE CLAIM OUT OF ONE WALK OF THE LAW'S BODY. Your part is whole_start (and what it stands on); all else here is the same for every law, but numbers. -/
def R_law : String := "ShutterBenchLaw"
def lw_P (b : Addr) (xs : List Int32) (args : Array Value) (s : State) : Prop := args = #[.ref b] ∧ s.IntsAt b xs ∧ xs.length ≤ 2560 ∧ (Jvm.Cond.and given_1 narrow_1).before args s = true
/-- what a walk over the start with the record d0 says of its end, said of the start itself -/
theorem lw_closed {s t : State} {o : Outcome} {d0 : Drawn} {L : List Loc} {k n : Nat} (hd0 : s.drawn.sameBut d0 lw_cs) (hv : ∃ v, o = .returned v) (hW : (s.setDrawn d0).WarmedH t.vm) (hs : (s.setDrawn d0).sameButNew ({ t with vm := s.vm } : State) L k n) : State.butDraws s t lw_cs (fun t1 => Framed s o t1 L k n) := by
  have h2 : t.drawn = d0 := congrArg State.drawn hs.1
  refine ⟨⟨hv, hW, State.sameButNew.setDrawn hs s.drawn⟩, ?_, by decide⟩
  rw [h2]
  exact hd0
def lw_Q (_ : Array Value) (s : State) (o : Outcome) (t : State) : Prop := o = .returned (some (.int 1)) ∧ State.butDraws s t lw_cs (fun t1 => Framed s o t1 [] 601024 7293034)
def lw_Z (below : List Frame) (a : Array Value) (s : State) : State → Prop := fun t => ∃ o, t.status = .running ∧ Ended t below o ∧ lw_Q a s o t
/-- the law's own end, with 1 on the stack, nothing written that was there before, its room as the claim has it; d0: the record of draws at this point (at the entry s.drawn: begin with 'refine W.base ?_' and 'have hd0 := Drawn.sameBut.refl s.drawn lw_cs') -/
theorem lw_ret {p : Program} {l : Launch} {e : Env} {s : State} {m : MethodId} {below : List Frame} {meth : Method} {c : Code} {b : Nat} {d0 : Drawn} (hd0 : s.drawn.sameBut d0 lw_cs) (hx : p.tables.exec = Jvm.exec) (hb : c.code = code) (hr : meth.sig.returnType = ret) (hlocks : meth.locks = false) {pc : Nat} {H : Heap} {ls : Array Slot} (hdg : decode code pc = .ok (.ireturn, 1)) : W p l e room_1 (s.setDrawn d0) m #[Value.ref b] below meth c H [] 601024 7293034 (lw_Z below #[Value.ref b] s) (F0 m pc ls [.int 1]) := by
  intro T hT X
  obtain ⟨fs, hret, hrun, hended, hW, hframe⟩ := X.leave (v := some (.int 1)) (hlocks := hlocks) (fun h => by rw [hr] at h; cases h)
  have hmeth' : T.vm.method? m = some meth := X.method'
  refine ⟨T.setFrames fs, ?_, .returned (some (.int 1)), hrun, hended, rfl, lw_closed hd0 ⟨_, rfl⟩ hW hframe⟩
  jvm_step X.here [X.here.top, hx, hb, hdg, hmeth', hr, ret, narrow_b1]
  (try refine ⟨rfl, ?_⟩); (try refine ⟨rfl, ?_⟩)
  first | (intro acts; rw [hret _ acts rfl rfl rfl]) | rw [hret _ _ rfl rfl rfl]
  exact Steps.refl _
/-- what holds at the law's entry: the machine, the code, the tables' words (any of lw_tbl by 'hts w (by decide +kernel)'), the script of L ints xs at the cell b, what the Statement gives of the start (any of its parts by flat_of_before) -/
def lw_At (p : Program) (s : State) (m : MethodId) (meth : Method) (c : Code) (b L : Nat) (xs : Nat → Int32) : Prop :=
  p.tables.exec = Jvm.exec ∧ c.code = code ∧ meth.sig.returnType = ret ∧ c.maxLocals = 9 ∧ s.vm.findClass R_law = some m.cls ∧ (∀ w ∈ lw_tbl, w.before #[Value.ref b] s = true) ∧ va_X b L xs s s.heap ∧ b < s.heap.size ∧ meth.locks = false ∧ (Jvm.Cond.and given_1 narrow_1).before #[Value.ref b] s = true
theorem k_long {D : va_G} {cl : List vw_C} {t : Nat → ClassId} {cA : ClassId} {s : State} (h : va_K D cl (TY t ++ [(cA, .long)]) s) : t 2 = cA := by
  have h1 := va_nm_long (h.2 2 (t 2, .long) rfl).2
  have h2 := va_nm_long (h.2 4 (cA, .long) rfl).2
  exact Option.some.inj (h1.symm.trans h2)
theorem k_dbl {D : va_G} {cl : List vw_C} {t : Nat → ClassId} {cA : ClassId} {s : State} (h : va_K D cl (TY t ++ [(cA, .double)]) s) : t 3 = cA := by
  have h1 : s.vm.findClass ("[" ++ FieldType.double.toString) = some (t 3) := (h.2 3 (t 3, .double) rfl).2
  have h2 : s.vm.findClass ("[" ++ FieldType.double.toString) = some cA := (h.2 4 (cA, .double) rfl).2
  exact Option.some.inj (h1.symm.trans h2)
theorem st_str {A : Array Value} {s : State} {own tx : String} {k : Nat} (h1 : (Cond.stringRef own k tx).before A s = true) (h2 : (Cond.exactly (.string own k) "java/lang/String").before A s = true) : ∃ sa, vk_R own k tx sa s := by
  obtain ⟨a, _, _, _, ha, -⟩ := Cond.exactly_spec h2
  exact ⟨a, vk_R.of h1 ha⟩
theorem st_xE {A : Array Value} {s : State} (h : ∀ w ∈ lw_tbl, w.before A s = true) : xE s :=
  ⟨va_Nw.of rfl (h _ (by decide +kernel)), va_Nw.of rfl (h _ (by decide +kernel)), va_Nw.of rfl (h _ (by decide +kernel)), va_Nw.of rfl (h _ (by decide +kernel)), va_Nw.of rfl (h _ (by decide +kernel)), va_Nw.of rfl (h _ (by decide +kernel))⟩
theorem st_xN {A : Array Value} {s : State} (X : String) (h : ∀ w ∈ lw_tbl, w.before A s = true) (hc : Cond.castable X X ∈ lw_tbl) : xN X s :=
  ⟨va_Nw.of rfl (h _ (by decide +kernel)), va_Nw.of rfl (h _ (by decide +kernel)), va_Nw.of rfl (h _ (by decide +kernel)), va_Nw.of rfl (h _ hc)⟩
theorem st_xT {A : Array Value} {s : State} (h : ∀ w ∈ lw_tbl, w.before A s = true) (hg : ∀ c ∈ flatC (Jvm.Cond.and given_1 narrow_1), c.before A s = true) : xT s :=
  ⟨st_str (h _ (by decide +kernel)) (hg _ (by decide +kernel)), st_str (h _ (by decide +kernel)) (hg _ (by decide +kernel)), st_str (h _ (by decide +kernel)) (hg _ (by decide +kernel)), st_str (h _ (by decide +kernel)) (hg _ (by decide +kernel)), st_str (h _ (by decide +kernel)) (hg _ (by decide +kernel))⟩
theorem st_xS {A : Array Value} {s : State} (h : ∀ w ∈ lw_tbl, w.before A s = true) (hg : ∀ c ∈ flatC (Jvm.Cond.and given_1 narrow_1), c.before A s = true) : xS (fun q : Nat => s.heap.size ≤ q) s s.heap :=
  ⟨⟨vx_Zqof (h _ (by decide +kernel)) (h _ (by decide +kernel)) (hg _ (by decide +kernel)) (fun a h1 h2 => absurd h1 (Nat.not_lt.mpr h2)), vx_Zqof (h _ (by decide +kernel)) (h _ (by decide +kernel)) (hg _ (by decide +kernel)) (fun a h1 h2 => absurd h1 (Nat.not_lt.mpr h2))⟩,
   st_xT h hg, st_xN (xname 0) h (by decide +kernel), st_xN (xname 1) h (by decide +kernel), st_xN (xname 2) h (by decide +kernel)⟩
theorem st_xW {A : Array Value} {s : State} (hg : ∀ c ∈ flatC (Jvm.Cond.and given_1 narrow_1), c.before A s = true) : xW s := ⟨va_Nc.of (args := A) (hg _ (by decide +kernel)), va_Nc.of (args := A) (hg _ (by decide +kernel))⟩
theorem st_arr {A : Array Value} {s : State} {ty : FieldType} (h : (Cond.arrayClass ty).before A s = true) : ∃ c, ArrOfT s c ty ∧ s.vm.findClass ("[" ++ ty.toString) = some c := by
  obtain ⟨c, k, comp, h1, h2, h3⟩ := Cond.arrayClass_spec h
  exact ⟨c, fun n z => ⟨fun k h => (by cases h), k, h2, comp, h3⟩, h1⟩
theorem st_K {A : Array Value} {s : State} (h : ∀ w ∈ lw_tbl, w.before A s = true) : ∃ (D : va_G) (t : Nat → ClassId), va_K D vwCl (TY t) s := by
  obtain ⟨c0, i0, k0⟩ := u_known (C := RX0) (T := TX0) (N := 10) (n := 10) h blX0 (h (.instantiable RX0 10) (by decide +kernel))
  obtain ⟨c1, i1, k1⟩ := u_known (C := RX1) (T := TX1) (N := 10) (n := 10) h blX1 (h (.instantiable RX1 10) (by decide +kernel))
  obtain ⟨c2, i2, k2⟩ := u_known (C := RX2) (T := TX2) (N := 8) (n := 8) h blX2 (h (.instantiable RX2 8) (by decide +kernel))
  obtain ⟨c3, i3, k3⟩ := u_known (C := RX3) (T := TX3) (N := 14) (n := 14) h blX3 (h (.instantiable RX3 14) (by decide +kernel))
  obtain ⟨a0, h0, r0⟩ := st_arr (h (.arrayClass .int) (by decide +kernel))
  obtain ⟨a2, h2, r2⟩ := st_arr (h (.arrayClass .long) (by decide +kernel))
  obtain ⟨a3, h3, r3⟩ := st_arr (h (.arrayClass .double) (by decide +kernel))
  obtain ⟨comp, a1, kA, f1, -, f2, f3, f4⟩ := Cond.arrayOver_spec (h (.arrayOver (.object RX1)) (by decide +kernel))
  refine ⟨(fun k => if k = 0 then c0 else if k = 1 then c1 else if k = 2 then c2 else c3, fun k => if k = 0 then i0 else if k = 1 then i1 else if k = 2 then i2 else i3), fun k => if k = 0 then a0 else if k = 1 then a1 else if k = 2 then a2 else a3, fun k q hq => ?_, fun k q hq => ?_⟩
  · match k, hq with
    | 0, hq => cases hq; exact k0
    | 1, hq => cases hq; exact k1
    | 2, hq => cases hq; exact k2
    | 3, hq => cases hq; exact k3
    | k + 4, hq => simp at hq
  · match k, hq with
    | 0, hq => cases hq; exact ⟨h0, r0⟩
    | 1, hq => cases hq; exact ⟨fun N z => ⟨(fun k h => by cases h), kA, f2, comp, f3⟩, kA, comp, f2, f3, f1, f4⟩
    | 2, hq => cases hq; exact ⟨h2, r2⟩
    | 3, hq => cases hq; exact ⟨h3, r3⟩
    | k + 4, hq => simp at hq

abbrev iniL : LwT := ((0, 0, 0), iniS, iniS, iniE, (fun _ => iniS), (fun _ => 0), iniMo, iniN, (fun _ => 0), (fun _ => 0), (fun _ => 0), (fun _ => 0), (fun _ => 0), (fun _ => 0), (fun _ => 0), (fun _ => 0), (fun _ => 0), 0)
def fL_law (L : Nat) (xs : Nat → Int32) : Option Bool := lp (fL_law_l28 L xs) 2000 iniL
set_option maxHeartbeats 8000000 in
set_option maxRecDepth 100000 in
theorem start_of {p : Program} {e : Env} {s : State} {m : MethodId} {below : List Frame} {meth : Method} {c : Code} (l : Launch) (hflags : l.flags = flags0) {b L : Nat} {xs : Nat → Int32} (hF : fL_law L xs = some true) (C0 : lw_At p s m meth c b L xs) : W p l e room_1 s m #[Value.ref b] below meth c s.heap [] 0 0 (lw_Z below #[Value.ref b] s) (entryFrame m ([Value.ref b] : List Value).toArray 9) := by
  obtain ⟨hx, hb, hr, hml, hown0, hts0, hXs, hbl, hlocks, hgv⟩ := id C0
  have hfl : l.stackTraces = false := by first | (unfold Launch.stackTraces; rw [hflags]; decide +kernel) | (simp [Launch.stackTraces, hflags]; done) | (simp [Launch.stackTraces, hflags, flags0]; decide +kernel)
  have hg := flat_of_before _ hgv
  have hA : ∀ q : Nat, s.heap.size ≤ q → (fun q : Nat => s.heap.size ≤ q) q := fun _ h => h
  have hbA : ¬ (fun q : Nat => s.heap.size ≤ q) b := Nat.not_le.mpr hbl
  have hd0 := Drawn.sameBut.refl s.drawn lw_cs
  obtain ⟨D, t, hK0⟩ := st_K hts0
  refine W.base ?_
  have htl := dr_words hts0 s.drawn
  have hK : va_K D vwCl (TY t) (s.setDrawn s.drawn) := hK0
  have hE : xE (s.setDrawn s.drawn) := st_xE htl
  have hX : xS (fun q : Nat => s.heap.size ≤ q) (s.setDrawn s.drawn) (s.setDrawn s.drawn).heap := st_xS hts0 hg
  have hXW : xW (s.setDrawn s.drawn) := st_xW hg
  have hAO : va_AO RX1 (s.setDrawn s.drawn) := va_AO.of (htl _ (by decide +kernel))
  have htB : ∀ w ∈ BIG, w.before #[Value.ref b] (s.setDrawn s.drawn) = true := fun w h => htl w (big_in w h)
  have hown : (s.setDrawn s.drawn).vm.findClass RL = some m.cls := hown0
  have hts : ∀ w ∈ Cond.initialized RL :: BIG, w.before #[Value.ref b] (s.setDrawn s.drawn) = true := fun w h => (List.mem_cons.mp h).elim (fun e9 => by rw [e9]; exact htB _ kw64) (htB w)
  have hS : va_S (fun q : Nat => s.heap.size ≤ q) (s.setDrawn s.drawn).heap s.heap [] := va_S.rf
  have hP : va_P D vwCl [] s.heap := fun k q h => by simp at h
  have hD : va_D (fun q : Nat => s.heap.size ≤ q) [] := ⟨fun i j p q h => by simp at h, fun k q h => by simp at h⟩
  have hl := lv_entry ([.ref b]) (n := 9) (Nat.le_of_ble_eq_true rfl)
  rw [lg_entry_eq]
  generalize (lg_sl ([.ref b]) ++ List.replicate (9 - (lg_sl ([.ref b])).length) Slot.unset).toArray = ls at hl ⊢
  have hl : lv_has ls 9 [(0, .ref b)] := hl
  refine va_new (ci := 2) (fs := [.null, .null, .null, .null, .int 0, .int 0, .null, .int 0]) (C := RX2) (T := TX2) (N := 8) hx hb htB inlX2 tyX2 tyX2_ok hown (htB _ kw0) (htB _ kw1) (htB _ kw2) hK hP hD hS hA rfl (by decide +kernel) (Nat.le_of_ble_eq_true rfl) (Nat.le_of_ble_eq_true rfl) dL_law_0 (fun q1 H hP hD hS => ?_)
  have hP : va_P D vwCl [(q1, .inr (2, [.null, .null, .null, .null, .int 0, .int 0, .null, .int 0]))] H := hP
  have hD : va_D (fun q : Nat => s.heap.size ≤ q) [(q1, .inr (2, [.null, .null, .null, .null, .int 0, .int 0, .null, .int 0]))] := hD
  refine lv_dup hx hb dL_law_3 rfl ?_
  have hFc := va_free (wc := [(q1, .inr (2, [.null, .null, .null, .null, .int 0, .int 0, .null, .int 0]))]) hD hS hA [0] rfl
  refine va_callv (va_runI (As := []) (rest := [.ref q1]) ⟨hx, hb, hml, hown, hts⟩ (mtX2_init l D t q1 H.size) (cwI 0 hts (gB kw10) rfl rfl rfl (htB _ kw2) (htB _ kw8) (htB _ kw9) rfl (by decide +kernel) ⟨Nat.le_of_ble_eq_true rfl, Nat.le_of_ble_eq_true rfl⟩) (sPcO_S hP hK hD hE hAO) rfl rfl hl.1 rfl (lv_room (Nat.le_of_ble_eq_true rfl)) dL_law_4 ⟨Nat.le_of_ble_eq_true rfl, Nat.le_of_ble_eq_true rfl⟩) hS (fun q9 _ h9 => hFc q9 h9) hFc (fun u t9 H9 locs9 ht9 hvm9 hw9 hB9 hz9 hk9 hS => ?_)
  obtain ⟨hP9, -, hD9⟩ := hB9
  rw [ht9] at hP9
  obtain ⟨hP, hD⟩ := va_join (wr := []) (w1 := gBo q1 u.1 (0, 0, 0) ++ (gS t (u.1 0) u.2.1 iniS ++ (gS t (u.1 1) u.2.2.1 iniS ++ (gE t (u.1 2) u.2.2.2.1 iniE ++ (gQ t (u.1 3) u.2.2.2.2.1 ++ (g6 t u.2.2.2.2.1 u.2.2.2.2.2 (fun _ => iniS) ++ gA t (u.1 4) 60 (fun _ => 0))))))) hP hD [0] [] rfl rfl rfl (by decide) hk9 hFc hP9 hD9
  generalize H9 = H at hP hS ⊢
  have hP : va_P D vwCl (gBo q1 u.1 (0, 0, 0) ++ (gS t (u.1 0) u.2.1 iniS ++ (gS t (u.1 1) u.2.2.1 iniS ++ (gE t (u.1 2) u.2.2.2.1 iniE ++ (gQ t (u.1 3) u.2.2.2.2.1 ++ (g6 t u.2.2.2.2.1 u.2.2.2.2.2 (fun _ => iniS) ++ gA t (u.1 4) 60 (fun _ => 0))))))) H := hP
  have hD : va_D (fun q : Nat => s.heap.size ≤ q) (gBo q1 u.1 (0, 0, 0) ++ (gS t (u.1 0) u.2.1 iniS ++ (gS t (u.1 1) u.2.2.1 iniS ++ (gE t (u.1 2) u.2.2.2.1 iniE ++ (gQ t (u.1 3) u.2.2.2.2.1 ++ (g6 t u.2.2.2.2.1 u.2.2.2.2.2 (fun _ => iniS) ++ gA t (u.1 4) 60 (fun _ => 0))))))) := hD
  refine lv_astore_n (lv' := [(1, .ref q1), (0, .ref b)]) hx hb dL_law_7 rfl hl (by decide) rfl (fun ls hl => ?_)
  refine va_new (ci := 3) (fs := [.null, .null, .null, .int 0, .null, .int 0, .int 0, .int 0, .int 0, .null, .int 0, .null, .null, .null]) (C := RX3) (T := TX3) (N := 14) hx hb htB inlX3 tyX3 tyX3_ok hown (htB _ kw3) (htB _ kw4) (htB _ kw5) hK hP hD hS hA rfl (by decide +kernel) (Nat.le_of_ble_eq_true rfl) (Nat.le_of_ble_eq_true rfl) dL_law_8 (fun q2 H hP hD hS => ?_)
  refine lv_dup hx hb dL_law_11 rfl ?_
  have hFc := va_free (wc := [(q2, .inr (3, [.null, .null, .null, .int 0, .null, .int 0, .int 0, .int 0, .int 0, .null, .int 0, .null, .null, .null]))]) hD hS hA [71] rfl
  refine va_callv (va_runI (As := []) (rest := [.ref q2]) ⟨hx, hb, hml, hown, hts⟩ (mtX3_init l D t q2 H.size) (cwI 0 hts (gB kw52) rfl rfl rfl (htB _ kw5) (htB _ kw50) (htB _ kw51) rfl (by decide +kernel) ⟨Nat.le_of_ble_eq_true rfl, Nat.le_of_ble_eq_true rfl⟩) (sPc_S (hP.pick0 [71] rfl) hK (hD.sub [71] rfl rfl) hE) rfl rfl hl.1 rfl (lv_room (Nat.le_of_ble_eq_true rfl)) dL_law_12 ⟨Nat.le_of_ble_eq_true rfl, Nat.le_of_ble_eq_true rfl⟩) hS (fun q9 _ h9 => hFc q9 h9) hFc (fun mb t9 H9 locs9 ht9 hvm9 hw9 hB9 hz9 hk9 hS => ?_)
  obtain ⟨hP9, -, hD9⟩ := hB9
  rw [ht9] at hP9
  obtain ⟨hP, hD⟩ := va_join (wr := gBo q1 u.1 (0, 0, 0) ++ (gS t (u.1 0) u.2.1 iniS ++ (gS t (u.1 1) u.2.2.1 iniS ++ (gE t (u.1 2) u.2.2.2.1 iniE ++ (gQ t (u.1 3) u.2.2.2.2.1 ++ (g6 t u.2.2.2.2.1 u.2.2.2.2.2 (fun _ => iniS) ++ gA t (u.1 4) 60 (fun _ => 0))))))) (w1 := gMo q2 mb iniMo ++ (gA t (mb 0) 71 iniN ++ (gA t (mb 1) 71 (fun _ => 0) ++ (gA t (mb 2) 426 (fun _ => 0) ++ (gA t (mb 3) 60 (fun _ => 0) ++ (gA t (mb 4) 93 (fun _ => 0) ++ (gA t (mb 5) 24 (fun _ => 0) ++ (gA t (mb 6) 24 (fun _ => 0) ++ gA t (mb 7) 24 (fun _ => 0))))))))) hP hD [71] (List.range 71) rfl rfl (by decide +kernel) (by decide +kernel) hk9 hFc hP9 hD9
  generalize H9 = H at hP hS ⊢
  refine lv_astore_n (lv' := [(2, .ref q2), (1, .ref q1), (0, .ref b)]) hx hb dL_law_15 rfl hl (by decide) rfl (fun ls hl => ?_)
  refine lv_iconst (v := 1) hx hb dL_law_16 (by decide) ?_
  refine va_newa (atype := .long) (ty := .long) (a0 := (1, .inr (.inl (fun _ => 0)))) (N' := 1) hx hb (htB _ kw6) rfl hK hP hD hS hA (fun _ => rfl) (by decide) (by decide) (by decide) (Nat.le_of_ble_eq_true rfl) (Nat.le_of_ble_eq_true rfl) dL_law_17 (fun q3 cA9 H hK9 hP hD hS => ?_)
  obtain rfl := k_long hK9
  refine lv_astore_n (lv' := [(3, .ref q3), (2, .ref q2), (1, .ref q1), (0, .ref b)]) hx hb dL_law_19 rfl hl (by decide) rfl (fun ls hl => ?_)
  refine lv_iconst (v := 1) hx hb dL_law_20 (by decide) ?_
  refine va_newa (atype := .double) (ty := .double) (a0 := (1, .inr (.inr (.inr (.inl (fun _ => 0)))))) (N' := 1) hx hb (htB _ kw7) rfl hK hP hD hS hA (fun _ => rfl) (by decide) (by decide) (by decide) (Nat.le_of_ble_eq_true rfl) (Nat.le_of_ble_eq_true rfl) dL_law_21 (fun q4 cA9 H hK9 hP hD hS => ?_)
  obtain rfl := k_dbl hK9
  refine lv_astore (lv' := [(4, .ref q4), (3, .ref q3), (2, .ref q2), (1, .ref q1), (0, .ref b)]) hx hb dL_law_23 hl (by decide) rfl (fun ls hl => ?_)
  refine lv_iconst (v := 0) hx hb dL_law_25 (by decide) ?_
  refine lv_istore (lv' := [(5, .int 0), (4, .ref q4), (3, .ref q3), (2, .ref q2), (1, .ref q1), (0, .ref b)]) hx hb dL_law_26 hl (by decide) rfl (fun ls hl => ?_)
  have hP : va_P D vwCl (gBo q1 u.1 iniL.1 ++ (gS t (u.1 0) u.2.1 iniL.2.1 ++ (gS t (u.1 1) u.2.2.1 iniL.2.2.1 ++ (gE t (u.1 2) u.2.2.2.1 iniL.2.2.2.1 ++ (gQ t (u.1 3) u.2.2.2.2.1 ++ (g6 t u.2.2.2.2.1 u.2.2.2.2.2 iniL.2.2.2.2.1 ++ (gA t (u.1 4) 60 iniL.2.2.2.2.2.1 ++ (gMo q2 mb iniL.2.2.2.2.2.2.1 ++ (gA t (mb 0) 71 iniL.2.2.2.2.2.2.2.1 ++ (gA t (mb 1) 71 iniL.2.2.2.2.2.2.2.2.1 ++ (gA t (mb 2) 426 iniL.2.2.2.2.2.2.2.2.2.1 ++ (gA t (mb 3) 60 iniL.2.2.2.2.2.2.2.2.2.2.1 ++ (gA t (mb 4) 93 iniL.2.2.2.2.2.2.2.2.2.2.2.1 ++ (gA t (mb 5) 24 iniL.2.2.2.2.2.2.2.2.2.2.2.2.1 ++ (gA t (mb 6) 24 iniL.2.2.2.2.2.2.2.2.2.2.2.2.2.1 ++ (gA t (mb 7) 24 iniL.2.2.2.2.2.2.2.2.2.2.2.2.2.2.1 ++ (gJ t q3 iniL.2.2.2.2.2.2.2.2.2.2.2.2.2.2.2.1 ++ (gD t q4 iniL.2.2.2.2.2.2.2.2.2.2.2.2.2.2.2.2.1)))))))))))))))))) H := hP.pick0 (List.range 82) rfl
  have hD : va_D (fun q : Nat => s.heap.size ≤ q) (gBo q1 u.1 iniL.1 ++ (gS t (u.1 0) u.2.1 iniL.2.1 ++ (gS t (u.1 1) u.2.2.1 iniL.2.2.1 ++ (gE t (u.1 2) u.2.2.2.1 iniL.2.2.2.1 ++ (gQ t (u.1 3) u.2.2.2.2.1 ++ (g6 t u.2.2.2.2.1 u.2.2.2.2.2 iniL.2.2.2.2.1 ++ (gA t (u.1 4) 60 iniL.2.2.2.2.2.1 ++ (gMo q2 mb iniL.2.2.2.2.2.2.1 ++ (gA t (mb 0) 71 iniL.2.2.2.2.2.2.2.1 ++ (gA t (mb 1) 71 iniL.2.2.2.2.2.2.2.2.1 ++ (gA t (mb 2) 426 iniL.2.2.2.2.2.2.2.2.2.1 ++ (gA t (mb 3) 60 iniL.2.2.2.2.2.2.2.2.2.2.1 ++ (gA t (mb 4) 93 iniL.2.2.2.2.2.2.2.2.2.2.2.1 ++ (gA t (mb 5) 24 iniL.2.2.2.2.2.2.2.2.2.2.2.2.1 ++ (gA t (mb 6) 24 iniL.2.2.2.2.2.2.2.2.2.2.2.2.2.1 ++ (gA t (mb 7) 24 iniL.2.2.2.2.2.2.2.2.2.2.2.2.2.2.1 ++ (gJ t q3 iniL.2.2.2.2.2.2.2.2.2.2.2.2.2.2.2.1 ++ (gD t q4 iniL.2.2.2.2.2.2.2.2.2.2.2.2.2.2.2.2.1)))))))))))))))))) := hD.sub (List.range 82) (by decide +kernel) rfl
  refine la_loop (A := (fun q : Nat => s.heap.size ≤ q)) hfl q1 u.1 u.2.1 u.2.2.1 u.2.2.2.1 u.2.2.2.2.1 u.2.2.2.2.2 q2 mb q3 q4 hx hb hml hown htB hA hK hE hX hXW hXs hbl hbA (fun v H locs cc ss hc hs hP hD hS ls => ?_) 2000 iniL _ _ (Nat.le_of_ble_eq_true rfl) (Nat.le_of_ble_eq_true rfl) hF H _ hP hD hS ls (lv_sub hl [5, 4, 3, 2, 1, 0] rfl)
  refine va_forget (fun q hq => hS.2.2 q hq) ?_
  refine W.widen (k := 601024) (n := 7293034) hc hs ?_
  exact lw_ret hd0 hx hb hr hlocks dL_law_1436
