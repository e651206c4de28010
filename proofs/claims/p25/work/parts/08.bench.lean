theorem dX2_fire_0 : decode cX2_fire 0 = .ok (.iconst 0, 1) := by decide +kernel
theorem dX2_fire_1 : decode cX2_fire 1 = .ok (.istore 4, 2) := by decide +kernel
theorem dX2_fire_3 : decode cX2_fire 3 = .ok (.iload 4, 2) := by decide +kernel
theorem dX2_fire_5 : decode cX2_fire 5 = .ok (.iload_n 3, 1) := by decide +kernel
theorem dX2_fire_6 : decode cX2_fire 6 = .ok (.if_icmp .ge 27, 3) := by decide +kernel
theorem dX2_fire_9 : decode cX2_fire 9 = .ok (.aload_n 0, 1) := by decide +kernel
theorem dX2_fire_10 : decode cX2_fire 10 = .ok (.getfield 22, 3) := by decide +kernel
theorem dX2_fire_13 : decode cX2_fire 13 = .ok (.aload_n 1, 1) := by decide +kernel
theorem dX2_fire_14 : decode cX2_fire 14 = .ok (.iload_n 2, 1) := by decide +kernel
theorem dX2_fire_15 : decode cX2_fire 15 = .ok (.invokevirtual 143, 3) := by decide +kernel
theorem dX2_fire_18 : decode cX2_fire 18 = .ok (.aload_n 1, 1) := by decide +kernel
theorem dX2_fire_19 : decode cX2_fire 19 = .ok (.iload_n 2, 1) := by decide +kernel
theorem dX2_fire_20 : decode cX2_fire 20 = .ok (.aload_n 0, 1) := by decide +kernel
theorem dX2_fire_21 : decode cX2_fire 21 = .ok (.getfield 22, 3) := by decide +kernel
theorem dX2_fire_24 : decode cX2_fire 24 = .ok (.invokevirtual 197, 3) := by decide +kernel
theorem dX2_fire_27 : decode cX2_fire 27 = .ok (.iinc 4 1, 3) := by decide +kernel
theorem dX2_fire_30 : decode cX2_fire 30 = .ok (.goto (-27), 3) := by decide +kernel
theorem dX2_fire_33 : decode cX2_fire 33 = .ok (.return_, 1) := by decide +kernel
abbrev zX2_fire : List Cond := .code yX2_fire cX2_fire 5 none :: BIG
def fX2_fire_l3 (bo : BoT)  (K3 : (ExT × ShT × Int32 × Int32 × Int32) → Option (ExT × ShT)) (v3 : ExT × ShT × Int32 × Int32 × Int32) : Option (ExT × ShT) := (if v3.2.2.2.1 ≤ v3.2.2.2.2 then some (v3.1, v3.2.1) else (fX0_expose v3.1 v3.2.1 v3.2.2.1).bind (fun r2 => (fX1_tally v3.2.1 r2 v3.2.2.1).bind (fun r3 => K3 (r2, r3, v3.2.2.1, v3.2.2.2.1, v3.2.2.2.2 + 1))))
def fX2_fire (bo : BoT) (ex : ExT) (x : ShT) (v : Int32) (n : Int32) : Option (ExT × ShT) := lp (fX2_fire_l3 bo) 2000 (ex, x, v, n, 0)
set_option maxHeartbeats 4000000 in
set_option maxRecDepth 100000 in
theorem mtX2_fire (l : Launch) (D : va_G) (t : Nat → ClassId) (bh : Nat) (bk : Nat → Nat) (bo : BoT) (eb : Nat → Nat) (ex : ExT) (xa : Nat) (xb : Nat → Nat) (x : ShT) (v : Int32) (n : Int32) (out : ExT × ShT) (h : fX2_fire bo ex x v n = some out)  (sz : Nat) : Met l yX2_fire zX2_fire ({ frames := 4, cells := 0, slots := 0, locals := 93 }) (sPc D t (gBo bh bk bo ++ (gE t (bk 2) eb ex ++ (gS t xa xb x))) sz [.ref bh, .ref xa, .int v, .int n]) (qV D t (gBo bh bk bo ++ (gE t (bk 2) eb out.1 ++ (gS t xa xb out.2))) (va_A (gBo bh bk bo ++ (gE t (bk 2) eb ex ++ (gS t xa xb x))) sz)) 0 0 (va_A (gBo bh bk bo ++ (gE t (bk 2) eb ex ++ (gS t xa xb x))) sz) := by
  refine met_of (Qf := fun A => qV D t (gBo bh bk bo ++ (gE t (bk 2) eb out.1 ++ (gS t xa xb out.2))) A) (cc := cX2_fire) (maxL := 5) (ret := none) (by decide) rfl (Nat.le_of_ble_eq_true rfl) ?_
  intro p e s m args below meth c A hx hb hr hml hts hown hlocks hA hP hK hD hE hS ls hl
  have htB : ∀ w ∈ BIG, w.before args s = true := fun w h => hts w (List.mem_cons_of_mem _ h)
  have hown : s.vm.findClass RX2 = some m.cls := hown
  have hl : lv_has ls 5 [(0, .ref bh), (1, .ref xa), (2, .int v), (3, .int n)] := hl
  unfold fX2_fire at h
  have J3 : ∀ (fu3 : Nat) (v3 : ExT × ShT × Int32 × Int32 × Int32), lp (fX2_fire_l3 bo) fu3 v3 = some out → ∀ (H : Heap) (locs : List Loc), va_P D vwCl (gBo bh bk bo ++ (gE t (bk 2) eb v3.1 ++ (gS t xa xb v3.2.1))) H → va_D A (gBo bh bk bo ++ (gE t (bk 2) eb v3.1 ++ (gS t xa xb v3.2.1))) → va_S A s.heap H locs → ∀ ls : Array Slot, lv_has ls 5 [(0, .ref bh), (1, .ref xa), (2, .int v3.2.2.1), (3, .int v3.2.2.2.1), (4, .int v3.2.2.2.2)] → W p l e ({ frames := 4, cells := 0, slots := 0, locals := 93 }) s m args below meth c H locs 0 0 (MQ below (qV D t (gBo bh bk bo ++ (gE t (bk 2) eb out.1 ++ (gS t xa xb out.2))) A) args s 0 0 A) (F0 m 3 ls []) := by
    intro fu3
    induction fu3 with
    | zero => intro v3 h; cases h
    | succ fu3 ih3 =>
      intro v3 h H locs hP hD hS ls hl
      have h : fX2_fire_l3 bo (lp (fX2_fire_l3 bo) fu3) v3 = some out := h
      unfold fX2_fire_l3 at h
      refine lv_iload hx hb dX2_fire_3 (lv_at hl 4 rfl) ?_
      refine lv_iload_n hx hb dX2_fire_5 rfl (lv_at hl 3 rfl) ?_
      refine lv_icmp_ge (tgt := 33) hx hb dX2_fire_6 (by decide) (fun c1 => ?_) (fun c1 => ?_)
      · have h := it_p c1 h
        obtain rfl := os h
        exact ret_v hx hb hr hlocks hP hK hD hS dX2_fire_33
      · have h := it_n c1 h
        refine lv_aload_n hx hb dX2_fire_9 rfl (lv_at hl 0 rfl) ?_
        refine va_get (D := D) (ci := 2) (v := .ref (bk 2)) (C := RX2) (T := TX2) (N := 8) hx hb htB inlX2 hown hK hP 0 rfl rfl 2 (by decide) (htB _ kw17) (fun _ h9 => h9) rfl dX2_fire_10 ?_
        refine lv_aload_n hx hb dX2_fire_13 rfl (lv_at hl 1 rfl) ?_
        refine lv_iload_n hx hb dX2_fire_14 rfl (lv_at hl 2 rfl) ?_
        obtain ⟨r2, h2, h⟩ := ob h
        refine call_v (wc := (gE t (bk 2) eb v3.1 ++ (gS t xa xb v3.2.1))) (wc' := (gE t (bk 2) eb r2 ++ (gS t xa xb v3.2.1))) (ws' := (gBo bh bk bo ++ (gE t (bk 2) eb r2 ++ (gS t xa xb v3.2.1)))) (cutB (bs := [gBo bh bk bo, gE t (bk 2) eb v3.1, gS t xa xb v3.2.1]) (cs := [gE t (bk 2) eb v3.1, gS t xa xb v3.2.1]) (cs' := [gE t (bk 2) eb r2, gS t xa xb v3.2.1]) (bs' := [gBo bh bk bo, gE t (bk 2) eb r2, gS t xa xb v3.2.1]) [1, 2] hP hD hS hA rfl rfl rfl rfl) hS (fun hPc hDc => va_runV (As := [.ref xa, .int v3.2.2.1]) (rest := []) ⟨hx, hb, hml, hown, hts⟩ (mtX0_expose l D t (bk 2) eb v3.1 xa xb v3.2.1 v3.2.2.1 r2 h2 _) (cwV 2 hts (gBV kw100 kw101 kw102 kw16 kw103) rfl rfl rfl (by decide +kernel) ⟨Nat.le_of_ble_eq_true rfl, Nat.le_of_ble_eq_true rfl⟩) (sPc_V hPc hK hDc hE (va_recv hK hP (ci := 0) (q0 := 1) rfl rfl)) rfl rfl hl.1 rfl (lv_room (Nat.le_of_ble_eq_true rfl)) dX2_fire_15 ⟨Nat.zero_le _, Nat.zero_le _⟩) (fun H locs hP hD hS => ?_)
        refine lv_aload_n hx hb dX2_fire_18 rfl (lv_at hl 1 rfl) ?_
        refine lv_iload_n hx hb dX2_fire_19 rfl (lv_at hl 2 rfl) ?_
        refine lv_aload_n hx hb dX2_fire_20 rfl (lv_at hl 0 rfl) ?_
        refine va_get (D := D) (ci := 2) (v := .ref (bk 2)) (C := RX2) (T := TX2) (N := 8) hx hb htB inlX2 hown hK hP 0 rfl rfl 2 (by decide) (htB _ kw17) (fun _ h9 => h9) rfl dX2_fire_21 ?_
        obtain ⟨r3, h3, h⟩ := ob h
        refine call_v (wc := (gS t xa xb v3.2.1 ++ (gE t (bk 2) eb r2))) (wc' := (gS t xa xb r3 ++ (gE t (bk 2) eb r2))) (ws' := (gBo bh bk bo ++ (gE t (bk 2) eb r2 ++ (gS t xa xb r3)))) (cutB (bs := [gBo bh bk bo, gE t (bk 2) eb r2, gS t xa xb v3.2.1]) (cs := [gS t xa xb v3.2.1, gE t (bk 2) eb r2]) (cs' := [gS t xa xb r3, gE t (bk 2) eb r2]) (bs' := [gBo bh bk bo, gE t (bk 2) eb r2, gS t xa xb r3]) [2, 1] hP hD hS hA rfl rfl rfl rfl) hS (fun hPc hDc => va_runV (As := [.int v3.2.2.1, .ref (bk 2)]) (rest := []) ⟨hx, hb, hml, hown, hts⟩ (mtX1_tally l D t xa xb v3.2.1 (bk 2) eb r2 v3.2.2.1 r3 h3 _) (cwV 2 hts (gBV kw145 kw146 kw147 kw11 kw148) rfl rfl rfl (by decide +kernel) ⟨Nat.le_of_ble_eq_true rfl, Nat.le_of_ble_eq_true rfl⟩) (sPc_V hPc hK hDc hE (va_recv hK hP (ci := 1) (q0 := 5) rfl rfl)) rfl rfl hl.1 rfl (lv_room (Nat.le_of_ble_eq_true rfl)) dX2_fire_24 ⟨Nat.zero_le _, Nat.zero_le _⟩) (fun H locs hP hD hS => ?_)
        refine lv_iinc (v := v3.2.2.2.2 + 1) (lv' := [(4, .int (v3.2.2.2.2 + 1)), (0, .ref bh), (1, .ref xa), (2, .int v3.2.2.1), (3, .int v3.2.2.2.1)]) hx hb dX2_fire_27 hl (k := 4) rfl rfl (by decide) rfl (fun ls hl => ?_)
        refine lv_goto (tgt := 3) hx hb dX2_fire_30 (by decide) ?_
        exact ih3 (r2, r3, v3.2.2.1, v3.2.2.2.1, v3.2.2.2.2 + 1) h _ _ hP hD hS _ (lv_sub hl [1, 2, 3, 4, 0] rfl)
  refine lv_iconst (v := 0) hx hb dX2_fire_0 (by decide) ?_
  refine lv_istore (lv' := [(4, .int 0), (0, .ref bh), (1, .ref xa), (2, .int v), (3, .int n)]) hx hb dX2_fire_1 hl (by decide) rfl (fun ls hl => ?_)
  exact J3 2000 (ex, x, v, n, 0) h _ _ hP hD hS _ (lv_sub hl [1, 2, 3, 4, 0] rfl)

abbrev zX2_savedAt : List Cond := .code yX2_savedAt cX2_savedAt 2 (some (.object "ShutterBench$Shutter")) :: BIG
def fX2_savedAt (bo : BoT) (i : Int32) : Option Unit := gd (pin i 6) (some ())
theorem sv_pin {bo : BoT} {i : Int32} {u : Unit} (h : fX2_savedAt bo i = some u) : pin i 6 = true := (og h).1
theorem pin_ge {i : Int32} {n : Nat} (hn : n < 2 ^ 31) (h : vp_in i n) : ¬ nI n ≤ i := by
  intro q
  have h1 := vp_in_iff.mp h
  rw [Int32.le_iff_toInt_le, nI_toInt hn] at q
  omega
theorem dX2_savedAt_0 : decode cX2_savedAt 0 = .ok (.iload_n 1, 1) := by decide +kernel
theorem dX2_savedAt_1 : decode cX2_savedAt 1 = .ok (.ifCond .lt 21, 3) := by decide +kernel
theorem dX2_savedAt_4 : decode cX2_savedAt 4 = .ok (.iload_n 1, 1) := by decide +kernel
theorem dX2_savedAt_5 : decode cX2_savedAt 5 = .ok (.aload_n 0, 1) := by decide +kernel
theorem dX2_savedAt_6 : decode cX2_savedAt 6 = .ok (.getfield 26, 3) := by decide +kernel
theorem dX2_savedAt_9 : decode cX2_savedAt 9 = .ok (.arraylength, 1) := by decide +kernel
theorem dX2_savedAt_10 : decode cX2_savedAt 10 = .ok (.if_icmp .ge 12, 3) := by decide +kernel
theorem dX2_savedAt_13 : decode cX2_savedAt 13 = .ok (.aload_n 0, 1) := by decide +kernel
theorem dX2_savedAt_14 : decode cX2_savedAt 14 = .ok (.getfield 26, 3) := by decide +kernel
theorem dX2_savedAt_17 : decode cX2_savedAt 17 = .ok (.iload_n 1, 1) := by decide +kernel
theorem dX2_savedAt_18 : decode cX2_savedAt 18 = .ok (.aaload, 1) := by decide +kernel
theorem dX2_savedAt_19 : decode cX2_savedAt 19 = .ok (.goto 4, 3) := by decide +kernel
theorem dX2_savedAt_22 : decode cX2_savedAt 22 = .ok (.aconst_null, 1) := by decide +kernel
theorem dX2_savedAt_23 : decode cX2_savedAt 23 = .ok (.areturn, 1) := by decide +kernel
set_option maxHeartbeats 4000000 in
set_option maxRecDepth 100000 in
theorem mtX2_savedAt (l : Launch) (D : va_G) (t : Nat → ClassId) (bh : Nat) (bk : Nat → Nat) (bo : BoT) (sa : Nat → Nat) (i : Int32) (out : Unit) (h : fX2_savedAt bo i = some out)  (sz : Nat) : Met l yX2_savedAt zX2_savedAt ({ frames := 0, cells := 0, slots := 0, locals := 0 }) (sPc D t (gBo bh bk bo ++ (gQ t (bk 3) sa)) sz [.ref bh, .int i]) (qR D t (gBo bh bk bo ++ (gQ t (bk 3) sa)) (sa (Int32.toNatClampNeg i)) (va_A (gBo bh bk bo ++ (gQ t (bk 3) sa)) sz)) 0 0 (va_A (gBo bh bk bo ++ (gQ t (bk 3) sa)) sz) := by
  refine met_of (Qf := fun A => qR D t (gBo bh bk bo ++ (gQ t (bk 3) sa)) (sa (Int32.toNatClampNeg i)) A) (cc := cX2_savedAt) (maxL := 2) (ret := (some (.object "ShutterBench$Shutter"))) (by decide) rfl (Nat.le_of_ble_eq_true rfl) ?_
  intro p e s m args below meth c A hx hb hr hml hts hown hlocks hA hP hK hD hE hS ls hl
  have htB : ∀ w ∈ BIG, w.before args s = true := fun w h => hts w (List.mem_cons_of_mem _ h)
  have hown : s.vm.findClass RX2 = some m.cls := hown
  have hl : lv_has ls 2 [(0, .ref bh), (1, .int i)] := hl
  have hin : vp_in i 6 := pin_in (sv_pin h)
  refine lv_iload_n hx hb dX2_savedAt_0 rfl (lv_at hl 1 rfl) ?_
  refine lv_if_lt (tgt := 22) hx hb dX2_savedAt_1 (by decide) (fun c1 => absurd (Or.inl c1) hin) (fun c1 => ?_)
  refine lv_iload_n hx hb dX2_savedAt_4 rfl (lv_at hl 1 rfl) ?_
  refine lv_aload_n hx hb dX2_savedAt_5 rfl (lv_at hl 0 rfl) ?_
  refine va_get (D := D) (ci := 2) (v := .ref (bk 3)) (C := RX2) (T := TX2) (N := 8) hx hb htB inlX2 hown hK hP 0 rfl rfl 3 (by decide) (htB _ kw18) (fun _ h9 => h9) rfl dX2_savedAt_6 ?_
  refine va_alen (v := 6) hx hb hK hP 1 1 rfl rfl rfl dX2_savedAt_9 ?_
  refine lv_icmp_ge (tgt := 22) hx hb dX2_savedAt_10 (by decide) (fun c2 => absurd c2 (pin_ge (by decide) hin)) (fun c2 => ?_)
  refine lv_aload_n hx hb dX2_savedAt_13 rfl (lv_at hl 0 rfl) ?_
  refine va_get (D := D) (ci := 2) (v := .ref (bk 3)) (C := RX2) (T := TX2) (N := 8) hx hb htB inlX2 hown hK hP 0 rfl rfl 3 (by decide) (htB _ kw18) (fun _ h9 => h9) rfl dX2_savedAt_14 ?_
  refine lv_iload_n hx hb dX2_savedAt_17 rfl (lv_at hl 1 rfl) ?_
  refine va_aldq hx hb hK hP 1 1 rfl rfl hin dX2_savedAt_18 ?_
  refine lv_goto (tgt := 23) hx hb dX2_savedAt_19 (by decide) ?_
  exact ret_r (v := sa (Int32.toNatClampNeg i)) rfl hx hb hr (Or.inl ⟨_, rfl⟩) hlocks hP hK hD hS dX2_savedAt_23

theorem dX2_saveState_0 : decode cX2_saveState 0 = .ok (.aload_n 0, 1) := by decide +kernel
theorem dX2_saveState_1 : decode cX2_saveState 1 = .ok (.aload_n 0, 1) := by decide +kernel
theorem dX2_saveState_2 : decode cX2_saveState 2 = .ok (.getfield 34, 3) := by decide +kernel
theorem dX2_saveState_5 : decode cX2_saveState 5 = .ok (.invokevirtual 125, 3) := by decide +kernel
theorem dX2_saveState_8 : decode cX2_saveState 8 = .ok (.astore_n 1, 1) := by decide +kernel
theorem dX2_saveState_9 : decode cX2_saveState 9 = .ok (.aload_n 1, 1) := by decide +kernel
theorem dX2_saveState_10 : decode cX2_saveState 10 = .ok (.ifnull 11, 3) := by decide +kernel
theorem dX2_saveState_13 : decode cX2_saveState 13 = .ok (.aload_n 1, 1) := by decide +kernel
theorem dX2_saveState_14 : decode cX2_saveState 14 = .ok (.aload_n 0, 1) := by decide +kernel
theorem dX2_saveState_15 : decode cX2_saveState 15 = .ok (.getfield 10, 3) := by decide +kernel
theorem dX2_saveState_18 : decode cX2_saveState 18 = .ok (.invokevirtual 129, 3) := by decide +kernel
theorem dX2_saveState_21 : decode cX2_saveState 21 = .ok (.aload_n 0, 1) := by decide +kernel
theorem dX2_saveState_22 : decode cX2_saveState 22 = .ok (.aload_n 0, 1) := by decide +kernel
theorem dX2_saveState_23 : decode cX2_saveState 23 = .ok (.getfield 34, 3) := by decide +kernel
theorem dX2_saveState_26 : decode cX2_saveState 26 = .ok (.iconst 5, 1) := by decide +kernel
theorem dX2_saveState_27 : decode cX2_saveState 27 = .ok (.if_icmp .ge 12, 3) := by decide +kernel
theorem dX2_saveState_30 : decode cX2_saveState 30 = .ok (.aload_n 0, 1) := by decide +kernel
theorem dX2_saveState_31 : decode cX2_saveState 31 = .ok (.getfield 34, 3) := by decide +kernel
theorem dX2_saveState_34 : decode cX2_saveState 34 = .ok (.iconst 1, 1) := by decide +kernel
theorem dX2_saveState_35 : decode cX2_saveState 35 = .ok (.iadd, 1) := by decide +kernel
theorem dX2_saveState_36 : decode cX2_saveState 36 = .ok (.goto 4, 3) := by decide +kernel
theorem dX2_saveState_39 : decode cX2_saveState 39 = .ok (.iconst 0, 1) := by decide +kernel
theorem dX2_saveState_40 : decode cX2_saveState 40 = .ok (.putfield 34, 3) := by decide +kernel
theorem dX2_saveState_43 : decode cX2_saveState 43 = .ok (.aload_n 0, 1) := by decide +kernel
theorem dX2_saveState_44 : decode cX2_saveState 44 = .ok (.aload_n 0, 1) := by decide +kernel
theorem dX2_saveState_45 : decode cX2_saveState 45 = .ok (.getfield 30, 3) := by decide +kernel
theorem dX2_saveState_48 : decode cX2_saveState 48 = .ok (.iconst 1, 1) := by decide +kernel
theorem dX2_saveState_49 : decode cX2_saveState 49 = .ok (.iadd, 1) := by decide +kernel
theorem dX2_saveState_50 : decode cX2_saveState 50 = .ok (.bipush 6, 2) := by decide +kernel
theorem dX2_saveState_52 : decode cX2_saveState 52 = .ok (.invokestatic 268, 3) := by decide +kernel
theorem dX2_saveState_55 : decode cX2_saveState 55 = .ok (.putfield 30, 3) := by decide +kernel
theorem dX2_saveState_58 : decode cX2_saveState 58 = .ok (.return_, 1) := by decide +kernel
abbrev zX2_saveState : List Cond := .code yX2_saveState cX2_saveState 2 none :: BIG
def fX2_saveState_j40 (now : ShT)  (v40 : BoT × (Nat → ShT) × Int32) : Option (BoT × (Nat → ShT)) := some (((imin (v40.1.1 + 1) 6), v40.2.2, v40.1.2.2), v40.2.1)
def fX2_saveState_j21 (now : ShT)  (v21 : BoT × (Nat → ShT)) : Option (BoT × (Nat → ShT)) := (if 5 ≤ v21.1.2.1 then fX2_saveState_j40 now (v21.1, v21.2, 0) else fX2_saveState_j40 now (v21.1, v21.2, v21.1.2.1 + 1))
def fX2_saveState (bo : BoT) (now : ShT) (sv : (Nat → ShT)) : Option (BoT × (Nat → ShT)) := (fX2_savedAt bo bo.2.1).bind (fun r1 => (fX1_become (sv (Int32.toNatClampNeg bo.2.1)) now).bind (fun r2 => fX2_saveState_j21 now (bo, (va_up sv (Int32.toNatClampNeg bo.2.1) r2))))
set_option maxHeartbeats 4000000 in
set_option maxRecDepth 100000 in
theorem mtX2_saveState (l : Launch) (D : va_G) (t : Nat → ClassId) (bh : Nat) (bk : Nat → Nat) (bo : BoT) (nb : Nat → Nat) (now : ShT) (sa : Nat → Nat) (sb : Nat → Nat → Nat) (sv : (Nat → ShT)) (out : BoT × (Nat → ShT)) (h : fX2_saveState bo now sv = some out)  (sz : Nat) : Met l yX2_saveState zX2_saveState ({ frames := 2, cells := 0, slots := 0, locals := 43 }) (sPc D t (gBo bh bk bo ++ (gS t (bk 0) nb now ++ (gQ t (bk 3) sa ++ (g6 t sa sb sv)))) sz [.ref bh]) (qV D t (gBo bh bk out.1 ++ (gS t (bk 0) nb now ++ (gQ t (bk 3) sa ++ (g6 t sa sb out.2)))) (va_A (gBo bh bk bo ++ (gS t (bk 0) nb now ++ (gQ t (bk 3) sa ++ (g6 t sa sb sv)))) sz)) 0 0 (va_A (gBo bh bk bo ++ (gS t (bk 0) nb now ++ (gQ t (bk 3) sa ++ (g6 t sa sb sv)))) sz) := by
  refine met_of (Qf := fun A => qV D t (gBo bh bk out.1 ++ (gS t (bk 0) nb now ++ (gQ t (bk 3) sa ++ (g6 t sa sb out.2)))) A) (cc := cX2_saveState) (maxL := 2) (ret := none) (by decide) rfl (Nat.le_of_ble_eq_true rfl) ?_
  intro p e s m args below meth c A hx hb hr hml hts hown hlocks hA hP hK hD hE hS ls hl
  have htB : ∀ w ∈ BIG, w.before args s = true := fun w h => hts w (List.mem_cons_of_mem _ h)
  have hown : s.vm.findClass RX2 = some m.cls := hown
  have hl : lv_has ls 2 [(0, .ref bh)] := hl
  unfold fX2_saveState at h
  have J40 : ∀ v40 : BoT × (Nat → ShT) × Int32, fX2_saveState_j40 now v40 = some out → ∀ (H : Heap) (locs : List Loc), va_P D vwCl (gBo bh bk v40.1 ++ (gS t (bk 0) nb now ++ (gQ t (bk 3) sa ++ (g6 t sa sb v40.2.1)))) H → va_D A (gBo bh bk v40.1 ++ (gS t (bk 0) nb now ++ (gQ t (bk 3) sa ++ (g6 t sa sb v40.2.1)))) → va_S A s.heap H locs → ∀ ls : Array Slot, lv_has ls 2 [(0, .ref bh)] → W p l e ({ frames := 2, cells := 0, slots := 0, locals := 43 }) s m args below meth c H locs 0 0 (MQ below (qV D t (gBo bh bk out.1 ++ (gS t (bk 0) nb now ++ (gQ t (bk 3) sa ++ (g6 t sa sb out.2)))) A) args s 0 0 A) (F0 m 40 ls [.int v40.2.2, .ref bh]) := by
    intro v40 h H locs hP hD hS ls hl
    unfold fX2_saveState_j40 at h
    refine va_put (D := D) (ci := 2) (v := .int v40.2.2) (ty := .int) (C := RX2) (T := TX2) (N := 8) hx hb htB inlX2 tyX2 tyX2_ok nmX2 hown hK hP hD hS 0 rfl rfl 5 (by decide) (htB _ kw20) (fun _ h9 => h9) rfl (by decide +kernel) rfl rfl (Nat.le_of_ble_eq_true rfl) dX2_saveState_40 (fun H locs hP hD hS => ?_)
    have hP : va_P D vwCl (gBo bh bk (v40.1.1, v40.2.2, v40.1.2.2) ++ (gS t (bk 0) nb now ++ (gQ t (bk 3) sa ++ (g6 t sa sb v40.2.1)))) H := hP
    have hD : va_D A (gBo bh bk (v40.1.1, v40.2.2, v40.1.2.2) ++ (gS t (bk 0) nb now ++ (gQ t (bk 3) sa ++ (g6 t sa sb v40.2.1)))) := hD
    refine lv_aload_n hx hb dX2_saveState_43 rfl (lv_at hl 0 rfl) ?_
    refine lv_aload_n hx hb dX2_saveState_44 rfl (lv_at hl 0 rfl) ?_
    refine va_get (D := D) (ci := 2) (v := .int v40.1.1) (C := RX2) (T := TX2) (N := 8) hx hb htB inlX2 hown hK hP 0 rfl rfl 4 (by decide) (htB _ kw19) (fun _ h9 => h9) rfl dX2_saveState_45 ?_
    refine lv_iconst (v := 1) hx hb dX2_saveState_48 (by decide) ?_
    refine lv_iadd hx hb dX2_saveState_49 ?_
    refine lv_bipush (v := 6) hx hb dX2_saveState_50 (by decide) ?_
    refine va_mmin hx hb (by rw [hml]; exact hl.1.symm) hown (htB _ kw205) (htB _ kw62) (htB _ kw63) (htB _ kw64) (Nat.le_of_ble_eq_true rfl) (Nat.le_of_ble_eq_true rfl) (Nat.zero_le _) (Nat.zero_le _) dX2_saveState_52 ?_
    refine va_put (D := D) (ci := 2) (v := .int (imin (v40.1.1 + 1) 6)) (ty := .int) (C := RX2) (T := TX2) (N := 8) hx hb htB inlX2 tyX2 tyX2_ok nmX2 hown hK hP hD hS 0 rfl rfl 4 (by decide) (htB _ kw19) (fun _ h9 => h9) rfl (by decide +kernel) rfl rfl (Nat.le_of_ble_eq_true rfl) dX2_saveState_55 (fun H locs hP hD hS => ?_)
    have hP : va_P D vwCl (gBo bh bk ((imin (v40.1.1 + 1) 6), v40.2.2, v40.1.2.2) ++ (gS t (bk 0) nb now ++ (gQ t (bk 3) sa ++ (g6 t sa sb v40.2.1)))) H := hP
    have hD : va_D A (gBo bh bk ((imin (v40.1.1 + 1) 6), v40.2.2, v40.1.2.2) ++ (gS t (bk 0) nb now ++ (gQ t (bk 3) sa ++ (g6 t sa sb v40.2.1)))) := hD
    obtain rfl := os h
    exact ret_v hx hb hr hlocks hP hK hD hS dX2_saveState_58
  have J21 : ∀ v21 : BoT × (Nat → ShT), fX2_saveState_j21 now v21 = some out → ∀ (H : Heap) (locs : List Loc), va_P D vwCl (gBo bh bk v21.1 ++ (gS t (bk 0) nb now ++ (gQ t (bk 3) sa ++ (g6 t sa sb v21.2)))) H → va_D A (gBo bh bk v21.1 ++ (gS t (bk 0) nb now ++ (gQ t (bk 3) sa ++ (g6 t sa sb v21.2)))) → va_S A s.heap H locs → ∀ ls : Array Slot, lv_has ls 2 [(0, .ref bh)] → W p l e ({ frames := 2, cells := 0, slots := 0, locals := 43 }) s m args below meth c H locs 0 0 (MQ below (qV D t (gBo bh bk out.1 ++ (gS t (bk 0) nb now ++ (gQ t (bk 3) sa ++ (g6 t sa sb out.2)))) A) args s 0 0 A) (F0 m 21 ls []) := by
    intro v21 h H locs hP hD hS ls hl
    unfold fX2_saveState_j21 at h
    refine lv_aload_n hx hb dX2_saveState_21 rfl (lv_at hl 0 rfl) ?_
    refine lv_aload_n hx hb dX2_saveState_22 rfl (lv_at hl 0 rfl) ?_
    refine va_get (D := D) (ci := 2) (v := .int v21.1.2.1) (C := RX2) (T := TX2) (N := 8) hx hb htB inlX2 hown hK hP 0 rfl rfl 5 (by decide) (htB _ kw20) (fun _ h9 => h9) rfl dX2_saveState_23 ?_
    refine lv_iconst (v := 5) hx hb dX2_saveState_26 (by decide) ?_
    refine lv_icmp_ge (tgt := 39) hx hb dX2_saveState_27 (by decide) (fun c3 => ?_) (fun c3 => ?_)
    · have h := it_p c3 h
      refine lv_iconst (v := 0) hx hb dX2_saveState_39 (by decide) ?_
      exact J40 (v21.1, v21.2, 0) h _ _ hP hD hS _ (lv_sub hl [0] rfl)
    · have h := it_n c3 h
      refine lv_aload_n hx hb dX2_saveState_30 rfl (lv_at hl 0 rfl) ?_
      refine va_get (D := D) (ci := 2) (v := .int v21.1.2.1) (C := RX2) (T := TX2) (N := 8) hx hb htB inlX2 hown hK hP 0 rfl rfl 5 (by decide) (htB _ kw20) (fun _ h9 => h9) rfl dX2_saveState_31 ?_
      refine lv_iconst (v := 1) hx hb dX2_saveState_34 (by decide) ?_
      refine lv_iadd hx hb dX2_saveState_35 ?_
      refine lv_goto (tgt := 40) hx hb dX2_saveState_36 (by decide) ?_
      exact J40 (v21.1, v21.2, v21.1.2.1 + 1) h _ _ hP hD hS _ (lv_sub hl [0] rfl)
  refine lv_aload_n hx hb dX2_saveState_0 rfl (lv_at hl 0 rfl) ?_
  refine lv_aload_n hx hb dX2_saveState_1 rfl (lv_at hl 0 rfl) ?_
  refine va_get (D := D) (ci := 2) (v := .int bo.2.1) (C := RX2) (T := TX2) (N := 8) hx hb htB inlX2 hown hK hP 0 rfl rfl 5 (by decide) (htB _ kw20) (fun _ h9 => h9) rfl dX2_saveState_2 ?_
  obtain ⟨r1, h1, h⟩ := ob h
  refine call_r (v := sa (Int32.toNatClampNeg bo.2.1)) (wc := (gBo bh bk bo ++ (gQ t (bk 3) sa))) (wc' := (gBo bh bk bo ++ (gQ t (bk 3) sa))) (ws' := (gBo bh bk bo ++ (gS t (bk 0) nb now ++ (gQ t (bk 3) sa ++ (g6 t sa sb sv))))) (cutB (bs := [gBo bh bk bo, gS t (bk 0) nb now, gQ t (bk 3) sa, g6 t sa sb sv]) (cs := [gBo bh bk bo, gQ t (bk 3) sa]) (cs' := [gBo bh bk bo, gQ t (bk 3) sa]) (bs' := [gBo bh bk bo, gS t (bk 0) nb now, gQ t (bk 3) sa, g6 t sa sb sv]) [0, 2] hP hD hS hA rfl rfl rfl rfl) hS (fun hPc hDc => va_runV (As := [.int bo.2.1]) (rest := []) ⟨hx, hb, hml, hown, hts⟩ (mtX2_savedAt l D t bh bk bo sa bo.2.1 r1 h1 _) (cwV 1 hts (gBV kw206 kw207 kw208 kw2 kw209) rfl rfl rfl (by decide +kernel) ⟨Nat.le_of_ble_eq_true rfl, Nat.le_of_ble_eq_true rfl⟩) (sPc_V hPc hK hDc hE (va_recv hK hP (ci := 2) (q0 := 0) rfl rfl)) rfl rfl hl.1 rfl (lv_room (Nat.le_of_ble_eq_true rfl)) dX2_saveState_5 ⟨Nat.zero_le _, Nat.zero_le _⟩) (fun H locs hP hD hS => ?_)
  have hj6 := pin6 (sv_pin h1)
  refine lv_astore_n (lv' := [(1, .ref (sa (Int32.toNatClampNeg bo.2.1))), (0, .ref bh)]) hx hb dX2_saveState_8 rfl hl (by decide) rfl (fun ls hl => ?_)
  refine lv_aload_n hx hb dX2_saveState_9 rfl (lv_at hl 0 rfl) ?_
  refine lv_ifnull hx hb dX2_saveState_10 ?_
  refine lv_aload_n hx hb dX2_saveState_13 rfl (lv_at hl 0 rfl) ?_
  refine lv_aload_n hx hb dX2_saveState_14 rfl (lv_at hl 1 rfl) ?_
  refine va_get (D := D) (ci := 2) (v := .ref (bk 0)) (C := RX2) (T := TX2) (N := 8) hx hb htB inlX2 hown hK hP 0 rfl rfl 0 (by decide) (htB _ kw12) (fun _ h9 => h9) rfl dX2_saveState_15 ?_
  obtain ⟨r2, h2, h⟩ := ob h
  refine call_v (wc := (gS t (sa (Int32.toNatClampNeg bo.2.1)) (sb (Int32.toNatClampNeg bo.2.1)) (sv (Int32.toNatClampNeg bo.2.1)) ++ (gS t (bk 0) nb now))) (wc' := (gS t (sa (Int32.toNatClampNeg bo.2.1)) (sb (Int32.toNatClampNeg bo.2.1)) r2 ++ (gS t (bk 0) nb now))) (ws' := (gBo bh bk bo ++ (gS t (bk 0) nb now ++ (gQ t (bk 3) sa ++ (g6 t sa sb (va_up sv (Int32.toNatClampNeg bo.2.1) r2)))))) (cutB (bs := [gBo bh bk bo, gS t (bk 0) nb now, gQ t (bk 3) sa, gS t (sa 0) (sb 0) (sv 0), gS t (sa 1) (sb 1) (sv 1), gS t (sa 2) (sb 2) (sv 2), gS t (sa 3) (sb 3) (sv 3), gS t (sa 4) (sb 4) (sv 4), gS t (sa 5) (sb 5) (sv 5)]) (cs := [gS t (sa (Int32.toNatClampNeg bo.2.1)) (sb (Int32.toNatClampNeg bo.2.1)) (sv (Int32.toNatClampNeg bo.2.1)), gS t (bk 0) nb now]) (cs' := [gS t (sa (Int32.toNatClampNeg bo.2.1)) (sb (Int32.toNatClampNeg bo.2.1)) r2, gS t (bk 0) nb now]) (bs' := [gBo bh bk bo, gS t (bk 0) nb now, gQ t (bk 3) sa, gS t (sa 0) (sb 0) ((va_up sv (Int32.toNatClampNeg bo.2.1) r2) 0), gS t (sa 1) (sb 1) ((va_up sv (Int32.toNatClampNeg bo.2.1) r2) 1), gS t (sa 2) (sb 2) ((va_up sv (Int32.toNatClampNeg bo.2.1) r2) 2), gS t (sa 3) (sb 3) ((va_up sv (Int32.toNatClampNeg bo.2.1) r2) 3), gS t (sa 4) (sb 4) ((va_up sv (Int32.toNatClampNeg bo.2.1) r2) 4), gS t (sa 5) (sb 5) ((va_up sv (Int32.toNatClampNeg bo.2.1) r2) 5)]) [3 + (Int32.toNatClampNeg bo.2.1), 1] hP hD hS hA (by rcases hj6 with e9 | e9 | e9 | e9 | e9 | e9 <;> rw [e9] <;> rfl) (by rcases hj6 with e9 | e9 | e9 | e9 | e9 | e9 <;> rw [e9] <;> rfl) (by rcases hj6 with e9 | e9 | e9 | e9 | e9 | e9 <;> rw [e9] <;> rfl) rfl) hS (fun hPc hDc => va_runV (As := [.ref (bk 0)]) (rest := []) ⟨hx, hb, hml, hown, hts⟩ (mtX1_become l D t (sa (Int32.toNatClampNeg bo.2.1)) (sb (Int32.toNatClampNeg bo.2.1)) (sv (Int32.toNatClampNeg bo.2.1)) (bk 0) nb now r2 h2 _) (cwV 1 hts (gBV kw90 kw91 kw92 kw11 kw93) rfl rfl rfl (by decide +kernel) ⟨Nat.le_of_ble_eq_true rfl, Nat.le_of_ble_eq_true rfl⟩) (sPc_V hPc hK hDc hE (va_recv hK hPc (ci := 1) (q0 := 0) rfl rfl)) rfl rfl hl.1 rfl (lv_room (Nat.le_of_ble_eq_true rfl)) dX2_saveState_18 ⟨Nat.zero_le _, Nat.zero_le _⟩) (fun H locs hP hD hS => ?_)
  exact J21 (bo, (va_up sv (Int32.toNatClampNeg bo.2.1) r2)) h _ _ hP hD hS _ (lv_sub hl [1] rfl)

theorem dX2_needIndex_0 : decode cX2_needIndex 0 = .ok (.iload_n 0, 1) := by decide +kernel
theorem dX2_needIndex_1 : decode cX2_needIndex 1 = .ok (.ifCond .lt 8, 3) := by decide +kernel
theorem dX2_needIndex_4 : decode cX2_needIndex 4 = .ok (.iload_n 0, 1) := by decide +kernel
theorem dX2_needIndex_5 : decode cX2_needIndex 5 = .ok (.iload_n 1, 1) := by decide +kernel
theorem dX2_needIndex_6 : decode cX2_needIndex 6 = .ok (.if_icmp .lt 14, 3) := by decide +kernel
theorem dX2_needIndex_9 : decode cX2_needIndex 9 = .ok (.new 287, 3) := by decide +kernel
theorem dX2_needIndex_20 : decode cX2_needIndex 20 = .ok (.return_, 1) := by decide +kernel
abbrev zX2_needIndex : List Cond := .code yX2_needIndex cX2_needIndex 2 none :: BIG
def fX2_needIndex (i : Int32) (b : Int32) : Option (Nat ⊕ (Unit)) := (if i < 0 then some (.inl 0) else (if i < b then some (.inr ()) else some (.inl 0)))
set_option maxHeartbeats 4000000 in
set_option maxRecDepth 100000 in
theorem mtX2_needIndex (l : Launch) (D : va_G) (t : Nat → ClassId) (i : Int32) (b : Int32) (out : Unit) (h : fX2_needIndex i b = some (.inr out))  (sz : Nat) : Met l yX2_needIndex zX2_needIndex ({ frames := 0, cells := 0, slots := 0, locals := 0 }) (sPc D t ([] : va_W) sz [.int i, .int b]) (qV D t ([] : va_W) (va_A ([] : va_W) sz)) 0 0 (va_A ([] : va_W) sz) := by
  refine met_of (Qf := fun A => qV D t ([] : va_W) A) (cc := cX2_needIndex) (maxL := 2) (ret := none) (by decide) rfl (Nat.le_of_ble_eq_true rfl) ?_
  intro p e s m args below meth c A hx hb hr hml hts hown hlocks hA hP hK hD hE hS ls hl
  have htB : ∀ w ∈ BIG, w.before args s = true := fun w h => hts w (List.mem_cons_of_mem _ h)
  have hown : s.vm.findClass RX2 = some m.cls := hown
  have hl : lv_has ls 2 [(0, .int i), (1, .int b)] := hl
  unfold fX2_needIndex at h
  refine lv_iload_n hx hb dX2_needIndex_0 rfl (lv_at hl 0 rfl) ?_
  refine lv_if_lt (tgt := 9) hx hb dX2_needIndex_1 (by decide) (fun c1 => ?_) (fun c1 => ?_)
  · have h := it_p c1 h
    cases h
  · have h := it_n c1 h
    refine lv_iload_n hx hb dX2_needIndex_4 rfl (lv_at hl 0 rfl) ?_
    refine lv_iload_n hx hb dX2_needIndex_5 rfl (lv_at hl 1 rfl) ?_
    refine lv_icmp_lt (tgt := 20) hx hb dX2_needIndex_6 (by decide) (fun c2 => ?_) (fun c2 => ?_)
    · have h := it_p c2 h
      obtain rfl := oi h
      exact ret_v hx hb hr hlocks hP hK hD hS dX2_needIndex_20
    · have h := it_n c2 h
      cases h

theorem dX2_needCurtain_0 : decode cX2_needCurtain 0 = .ok (.iload_n 0, 1) := by decide +kernel
theorem dX2_needCurtain_1 : decode cX2_needCurtain 1 = .ok (.iconst 2, 1) := by decide +kernel
theorem dX2_needCurtain_2 : decode cX2_needCurtain 2 = .ok (.invokestatic 139, 3) := by decide +kernel
theorem dX2_needCurtain_5 : decode cX2_needCurtain 5 = .ok (.return_, 1) := by decide +kernel
abbrev zX2_needCurtain : List Cond := .code yX2_needCurtain cX2_needCurtain 1 none :: BIG
def fX2_needCurtain (i : Int32) : Option (Nat ⊕ (Unit)) := tb (fX2_needIndex i 2) (fun r1 => some (.inr ()))
set_option maxHeartbeats 4000000 in
set_option maxRecDepth 100000 in
theorem mtX2_needCurtain (l : Launch) (D : va_G) (t : Nat → ClassId) (i : Int32) (out : Unit) (h : fX2_needCurtain i = some (.inr out))  (sz : Nat) : Met l yX2_needCurtain zX2_needCurtain ({ frames := 1, cells := 0, slots := 0, locals := 21 }) (sPc D t ([] : va_W) sz [.int i]) (qV D t ([] : va_W) (va_A ([] : va_W) sz)) 0 0 (va_A ([] : va_W) sz) := by
  refine met_of (Qf := fun A => qV D t ([] : va_W) A) (cc := cX2_needCurtain) (maxL := 1) (ret := none) (by decide) rfl (Nat.le_of_ble_eq_true rfl) ?_
  intro p e s m args below meth c A hx hb hr hml hts hown hlocks hA hP hK hD hE hS ls hl
  have htB : ∀ w ∈ BIG, w.before args s = true := fun w h => hts w (List.mem_cons_of_mem _ h)
  have hown : s.vm.findClass RX2 = some m.cls := hown
  have hl : lv_has ls 1 [(0, .int i)] := hl
  unfold fX2_needCurtain at h
  refine lv_iload_n hx hb dX2_needCurtain_0 rfl (lv_at hl 0 rfl) ?_
  refine lv_iconst (v := 2) hx hb dX2_needCurtain_1 (by decide) ?_
  obtain ⟨r1, h1, h⟩ := tb_r h
  refine call_v (wc := ([] : va_W)) (wc' := ([] : va_W)) (ws' := ([] : va_W)) (cutB (bs := []) (cs := []) (cs' := []) (bs' := []) [] hP hD hS hA rfl rfl rfl rfl) hS (fun hPc hDc => va_runS (As := [.int i, .int 2]) (rest := []) ⟨hx, hb, hml, hown, hts⟩ (mtX2_needIndex l D t i 2 r1 h1 _) (va_cwS 2 hts (gBS kw85 kw86 kw2 kw87) rfl rfl rfl (by decide +kernel) ⟨Nat.le_of_ble_eq_true rfl, Nat.le_of_ble_eq_true rfl⟩) (sPc_S hPc hK hDc hE) rfl rfl hl.1 rfl (lv_room (Nat.le_of_ble_eq_true rfl)) dX2_needCurtain_2 ⟨Nat.zero_le _, Nat.zero_le _⟩) (fun H locs hP hD hS => ?_)
  obtain rfl := oi h
  exact ret_v hx hb hr hlocks hP hK hD hS dX2_needCurtain_5

theorem dX2_needSpeed_0 : decode cX2_needSpeed 0 = .ok (.iload_n 0, 1) := by decide +kernel
theorem dX2_needSpeed_1 : decode cX2_needSpeed 1 = .ok (.bipush 6, 2) := by decide +kernel
theorem dX2_needSpeed_3 : decode cX2_needSpeed 3 = .ok (.invokestatic 139, 3) := by decide +kernel
theorem dX2_needSpeed_6 : decode cX2_needSpeed 6 = .ok (.return_, 1) := by decide +kernel
abbrev zX2_needSpeed : List Cond := .code yX2_needSpeed cX2_needSpeed 1 none :: BIG
def fX2_needSpeed (i : Int32) : Option (Nat ⊕ (Unit)) := tb (fX2_needIndex i 6) (fun r1 => some (.inr ()))
set_option maxHeartbeats 4000000 in
set_option maxRecDepth 100000 in
theorem mtX2_needSpeed (l : Launch) (D : va_G) (t : Nat → ClassId) (i : Int32) (out : Unit) (h : fX2_needSpeed i = some (.inr out))  (sz : Nat) : Met l yX2_needSpeed zX2_needSpeed ({ frames := 1, cells := 0, slots := 0, locals := 21 }) (sPc D t ([] : va_W) sz [.int i]) (qV D t ([] : va_W) (va_A ([] : va_W) sz)) 0 0 (va_A ([] : va_W) sz) := by
  refine met_of (Qf := fun A => qV D t ([] : va_W) A) (cc := cX2_needSpeed) (maxL := 1) (ret := none) (by decide) rfl (Nat.le_of_ble_eq_true rfl) ?_
  intro p e s m args below meth c A hx hb hr hml hts hown hlocks hA hP hK hD hE hS ls hl
  have htB : ∀ w ∈ BIG, w.before args s = true := fun w h => hts w (List.mem_cons_of_mem _ h)
  have hown : s.vm.findClass RX2 = some m.cls := hown
  have hl : lv_has ls 1 [(0, .int i)] := hl
  unfold fX2_needSpeed at h
  refine lv_iload_n hx hb dX2_needSpeed_0 rfl (lv_at hl 0 rfl) ?_
  refine lv_bipush (v := 6) hx hb dX2_needSpeed_1 (by decide) ?_
  obtain ⟨r1, h1, h⟩ := tb_r h
  refine call_v (wc := ([] : va_W)) (wc' := ([] : va_W)) (ws' := ([] : va_W)) (cutB (bs := []) (cs := []) (cs' := []) (bs' := []) [] hP hD hS hA rfl rfl rfl rfl) hS (fun hPc hDc => va_runS (As := [.int i, .int 6]) (rest := []) ⟨hx, hb, hml, hown, hts⟩ (mtX2_needIndex l D t i 6 r1 h1 _) (va_cwS 2 hts (gBS kw85 kw86 kw2 kw87) rfl rfl rfl (by decide +kernel) ⟨Nat.le_of_ble_eq_true rfl, Nat.le_of_ble_eq_true rfl⟩) (sPc_S hPc hK hDc hE) rfl rfl hl.1 rfl (lv_room (Nat.le_of_ble_eq_true rfl)) dX2_needSpeed_3 ⟨Nat.zero_le _, Nat.zero_le _⟩) (fun H locs hP hD hS => ?_)
  obtain rfl := oi h
  exact ret_v hx hb hr hlocks hP hK hD hS dX2_needSpeed_6

theorem dX2_needSetting_0 : decode cX2_needSetting 0 = .ok (.iload_n 0, 1) := by decide +kernel
theorem dX2_needSetting_1 : decode cX2_needSetting 1 = .ok (.iconst 4, 1) := by decide +kernel
theorem dX2_needSetting_2 : decode cX2_needSetting 2 = .ok (.invokestatic 139, 3) := by decide +kernel
theorem dX2_needSetting_5 : decode cX2_needSetting 5 = .ok (.return_, 1) := by decide +kernel
abbrev zX2_needSetting : List Cond := .code yX2_needSetting cX2_needSetting 1 none :: BIG
def fX2_needSetting (i : Int32) : Option (Nat ⊕ (Unit)) := tb (fX2_needIndex i 4) (fun r1 => some (.inr ()))
set_option maxHeartbeats 4000000 in
set_option maxRecDepth 100000 in
theorem mtX2_needSetting (l : Launch) (D : va_G) (t : Nat → ClassId) (i : Int32) (out : Unit) (h : fX2_needSetting i = some (.inr out))  (sz : Nat) : Met l yX2_needSetting zX2_needSetting ({ frames := 1, cells := 0, slots := 0, locals := 21 }) (sPc D t ([] : va_W) sz [.int i]) (qV D t ([] : va_W) (va_A ([] : va_W) sz)) 0 0 (va_A ([] : va_W) sz) := by
  refine met_of (Qf := fun A => qV D t ([] : va_W) A) (cc := cX2_needSetting) (maxL := 1) (ret := none) (by decide) rfl (Nat.le_of_ble_eq_true rfl) ?_
  intro p e s m args below meth c A hx hb hr hml hts hown hlocks hA hP hK hD hE hS ls hl
  have htB : ∀ w ∈ BIG, w.before args s = true := fun w h => hts w (List.mem_cons_of_mem _ h)
  have hown : s.vm.findClass RX2 = some m.cls := hown
  have hl : lv_has ls 1 [(0, .int i)] := hl
  unfold fX2_needSetting at h
  refine lv_iload_n hx hb dX2_needSetting_0 rfl (lv_at hl 0 rfl) ?_
  refine lv_iconst (v := 4) hx hb dX2_needSetting_1 (by decide) ?_
  obtain ⟨r1, h1, h⟩ := tb_r h
  refine call_v (wc := ([] : va_W)) (wc' := ([] : va_W)) (ws' := ([] : va_W)) (cutB (bs := []) (cs := []) (cs' := []) (bs' := []) [] hP hD hS hA rfl rfl rfl rfl) hS (fun hPc hDc => va_runS (As := [.int i, .int 4]) (rest := []) ⟨hx, hb, hml, hown, hts⟩ (mtX2_needIndex l D t i 4 r1 h1 _) (va_cwS 2 hts (gBS kw85 kw86 kw2 kw87) rfl rfl rfl (by decide +kernel) ⟨Nat.le_of_ble_eq_true rfl, Nat.le_of_ble_eq_true rfl⟩) (sPc_S hPc hK hDc hE) rfl rfl hl.1 rfl (lv_room (Nat.le_of_ble_eq_true rfl)) dX2_needSetting_2 ⟨Nat.zero_le _, Nat.zero_le _⟩) (fun H locs hP hD hS => ?_)
  obtain rfl := oi h
  exact ret_v hx hb hr hlocks hP hK hD hS dX2_needSetting_5

theorem dX2_needRange_0 : decode cX2_needRange 0 = .ok (.iload_n 0, 1) := by decide +kernel
theorem dX2_needRange_1 : decode cX2_needRange 1 = .ok (.iload_n 1, 1) := by decide +kernel
theorem dX2_needRange_2 : decode cX2_needRange 2 = .ok (.if_icmp .lt 8, 3) := by decide +kernel
theorem dX2_needRange_5 : decode cX2_needRange 5 = .ok (.iload_n 0, 1) := by decide +kernel
theorem dX2_needRange_6 : decode cX2_needRange 6 = .ok (.iload_n 2, 1) := by decide +kernel
theorem dX2_needRange_7 : decode cX2_needRange 7 = .ok (.if_icmp .le 14, 3) := by decide +kernel
theorem dX2_needRange_10 : decode cX2_needRange 10 = .ok (.new 115, 3) := by decide +kernel
theorem dX2_needRange_21 : decode cX2_needRange 21 = .ok (.return_, 1) := by decide +kernel
abbrev zX2_needRange : List Cond := .code yX2_needRange cX2_needRange 3 none :: BIG
def fX2_needRange (v : Int32) (lo : Int32) (hi : Int32) : Option (Nat ⊕ (Unit)) := (if v < lo then some (.inl 1) else (if v ≤ hi then some (.inr ()) else some (.inl 1)))
set_option maxHeartbeats 4000000 in
set_option maxRecDepth 100000 in
theorem mtX2_needRange (l : Launch) (D : va_G) (t : Nat → ClassId) (v : Int32) (lo : Int32) (hi : Int32) (out : Unit) (h : fX2_needRange v lo hi = some (.inr out))  (sz : Nat) : Met l yX2_needRange zX2_needRange ({ frames := 0, cells := 0, slots := 0, locals := 0 }) (sPc D t ([] : va_W) sz [.int v, .int lo, .int hi]) (qV D t ([] : va_W) (va_A ([] : va_W) sz)) 0 0 (va_A ([] : va_W) sz) := by
  refine met_of (Qf := fun A => qV D t ([] : va_W) A) (cc := cX2_needRange) (maxL := 3) (ret := none) (by decide) rfl (Nat.le_of_ble_eq_true rfl) ?_
  intro p e s m args below meth c A hx hb hr hml hts hown hlocks hA hP hK hD hE hS ls hl
  have htB : ∀ w ∈ BIG, w.before args s = true := fun w h => hts w (List.mem_cons_of_mem _ h)
  have hown : s.vm.findClass RX2 = some m.cls := hown
  have hl : lv_has ls 3 [(0, .int v), (1, .int lo), (2, .int hi)] := hl
  unfold fX2_needRange at h
  refine lv_iload_n hx hb dX2_needRange_0 rfl (lv_at hl 0 rfl) ?_
  refine lv_iload_n hx hb dX2_needRange_1 rfl (lv_at hl 1 rfl) ?_
  refine lv_icmp_lt (tgt := 10) hx hb dX2_needRange_2 (by decide) (fun c1 => ?_) (fun c1 => ?_)
  · have h := it_p c1 h
    cases h
  · have h := it_n c1 h
    refine lv_iload_n hx hb dX2_needRange_5 rfl (lv_at hl 0 rfl) ?_
    refine lv_iload_n hx hb dX2_needRange_6 rfl (lv_at hl 2 rfl) ?_
    refine lv_icmp_le (tgt := 21) hx hb dX2_needRange_7 (by decide) (fun c2 => ?_) (fun c2 => ?_)
    · have h := it_p c2 h
      obtain rfl := oi h
      exact ret_v hx hb hr hlocks hP hK hD hS dX2_needRange_21
    · have h := it_n c2 h
      cases h

theorem dX2_leastValue_0 : decode cX2_leastValue 0 = .ok (.iload_n 0, 1) := by decide +kernel
theorem dX2_leastValue_1 : decode cX2_leastValue 1 = .ok (.ifCond .eq 8, 3) := by decide +kernel
theorem dX2_leastValue_4 : decode cX2_leastValue 4 = .ok (.iload_n 0, 1) := by decide +kernel
theorem dX2_leastValue_5 : decode cX2_leastValue 5 = .ok (.iconst 2, 1) := by decide +kernel
theorem dX2_leastValue_6 : decode cX2_leastValue 6 = .ok (.if_icmp .ne 7, 3) := by decide +kernel
theorem dX2_leastValue_9 : decode cX2_leastValue 9 = .ok (.iconst 0, 1) := by decide +kernel
theorem dX2_leastValue_10 : decode cX2_leastValue 10 = .ok (.goto 4, 3) := by decide +kernel
theorem dX2_leastValue_13 : decode cX2_leastValue 13 = .ok (.iconst 1, 1) := by decide +kernel
theorem dX2_leastValue_14 : decode cX2_leastValue 14 = .ok (.ireturn, 1) := by decide +kernel
abbrev zX2_leastValue : List Cond := .code yX2_leastValue cX2_leastValue 1 (some .int) :: BIG
def fX2_leastValue (v : Int32) : Option (Int32) := (if v = 0 then some 0 else (if v = 2 then some 0 else some 1))
set_option maxHeartbeats 4000000 in
set_option maxRecDepth 100000 in
theorem mtX2_leastValue (l : Launch) (D : va_G) (t : Nat → ClassId) (v : Int32) (out : Int32) (h : fX2_leastValue v = some out)  (sz : Nat) : Met l yX2_leastValue zX2_leastValue ({ frames := 0, cells := 0, slots := 0, locals := 0 }) (sPc D t ([] : va_W) sz [.int v]) (qI D t ([] : va_W) out (va_A ([] : va_W) sz)) 0 0 (va_A ([] : va_W) sz) := by
  refine met_of (Qf := fun A => qI D t ([] : va_W) out A) (cc := cX2_leastValue) (maxL := 1) (ret := some .int) (by decide) rfl (Nat.le_of_ble_eq_true rfl) ?_
  intro p e s m args below meth c A hx hb hr hml hts hown hlocks hA hP hK hD hE hS ls hl
  have htB : ∀ w ∈ BIG, w.before args s = true := fun w h => hts w (List.mem_cons_of_mem _ h)
  have hown : s.vm.findClass RX2 = some m.cls := hown
  have hl : lv_has ls 1 [(0, .int v)] := hl
  unfold fX2_leastValue at h
  refine lv_iload_n hx hb dX2_leastValue_0 rfl (lv_at hl 0 rfl) ?_
  refine lv_if_eq (tgt := 9) hx hb dX2_leastValue_1 (by decide) (fun c1 => ?_) (fun c1 => ?_)
  · have h := it_p c1 h
    refine lv_iconst (v := 0) hx hb dX2_leastValue_9 (by decide) ?_
    refine lv_goto (tgt := 14) hx hb dX2_leastValue_10 (by decide) ?_
    obtain rfl := os h
    exact ret_i hx hb hr hlocks hP hK hD hS dX2_leastValue_14
  · have h := it_n c1 h
    refine lv_iload_n hx hb dX2_leastValue_4 rfl (lv_at hl 0 rfl) ?_
    refine lv_iconst (v := 2) hx hb dX2_leastValue_5 (by decide) ?_
    refine lv_icmp_ne (tgt := 13) hx hb dX2_leastValue_6 (by decide) (fun c2 => ?_) (fun c2 => ?_)
    · have h := it_n c2 h
      refine lv_iconst (v := 1) hx hb dX2_leastValue_13 (by decide) ?_
      obtain rfl := os h
      exact ret_i hx hb hr hlocks hP hK hD hS dX2_leastValue_14
    · have h := it_p c2 h
      refine lv_iconst (v := 0) hx hb dX2_leastValue_9 (by decide) ?_
      refine lv_goto (tgt := 14) hx hb dX2_leastValue_10 (by decide) ?_
      obtain rfl := os h
      exact ret_i hx hb hr hlocks hP hK hD hS dX2_leastValue_14

theorem dX2_mostValue_0 : decode cX2_mostValue 0 = .ok (.iload_n 0, 1) := by decide +kernel
theorem dX2_mostValue_1 : decode cX2_mostValue 1 = .ok (.lookupswitch 34 #[(0, 27), (2, 30)], 27) := by decide +kernel
theorem dX2_mostValue_28 : decode cX2_mostValue 28 = .ok (.bipush 20, 2) := by decide +kernel
theorem dX2_mostValue_30 : decode cX2_mostValue 30 = .ok (.ireturn, 1) := by decide +kernel
theorem dX2_mostValue_31 : decode cX2_mostValue 31 = .ok (.sipush 200, 3) := by decide +kernel
theorem dX2_mostValue_34 : decode cX2_mostValue 34 = .ok (.ireturn, 1) := by decide +kernel
theorem dX2_mostValue_35 : decode cX2_mostValue 35 = .ok (.bipush 99, 2) := by decide +kernel
theorem dX2_mostValue_37 : decode cX2_mostValue 37 = .ok (.ireturn, 1) := by decide +kernel
abbrev zX2_mostValue : List Cond := .code yX2_mostValue cX2_mostValue 1 (some .int) :: BIG
def fX2_mostValue (v : Int32) : Option (Int32) := (if v = 0 then some 20 else (if v = 2 then some 200 else some 99))
set_option maxHeartbeats 4000000 in
set_option maxRecDepth 100000 in
theorem mtX2_mostValue (l : Launch) (D : va_G) (t : Nat → ClassId) (v : Int32) (out : Int32) (h : fX2_mostValue v = some out)  (sz : Nat) : Met l yX2_mostValue zX2_mostValue ({ frames := 0, cells := 0, slots := 0, locals := 0 }) (sPc D t ([] : va_W) sz [.int v]) (qI D t ([] : va_W) out (va_A ([] : va_W) sz)) 0 0 (va_A ([] : va_W) sz) := by
  refine met_of (Qf := fun A => qI D t ([] : va_W) out A) (cc := cX2_mostValue) (maxL := 1) (ret := some .int) (by decide) rfl (Nat.le_of_ble_eq_true rfl) ?_
  intro p e s m args below meth c A hx hb hr hml hts hown hlocks hA hP hK hD hE hS ls hl
  have htB : ∀ w ∈ BIG, w.before args s = true := fun w h => hts w (List.mem_cons_of_mem _ h)
  have hown : s.vm.findClass RX2 = some m.cls := hown
  have hl : lv_has ls 1 [(0, .int v)] := hl
  unfold fX2_mostValue at h
  refine lv_iload_n hx hb dX2_mostValue_0 rfl (lv_at hl 0 rfl) ?_
  by_cases c1 : v = 0
  · have h := it_p c1 h
    refine lv_lookup (off := 27) (tgt := 28) hx hb dX2_mostValue_1 (by decide) (by rw [c1]; decide) (by decide) ?_
    refine lv_bipush (v := 20) hx hb dX2_mostValue_28 (by decide) ?_
    obtain rfl := os h
    exact ret_i hx hb hr hlocks hP hK hD hS dX2_mostValue_30
  · have h := it_n c1 h
    by_cases c2 : v = 2
    · have h := it_p c2 h
      refine lv_lookup (off := 30) (tgt := 31) hx hb dX2_mostValue_1 (by decide) (by rw [c2]; decide) (by decide) ?_
      refine lv_sipush (v := 200) hx hb dX2_mostValue_31 (by decide) ?_
      obtain rfl := os h
      exact ret_i hx hb hr hlocks hP hK hD hS dX2_mostValue_34
    · have h := it_n c2 h
      refine lv_lookup (off := 34) (tgt := 35) hx hb dX2_mostValue_1 (by decide) (lk_out2 (lk_ne (by decide) c1) (lk_ne (by decide) c2)) (by decide) ?_
      refine lv_bipush (v := 99) hx hb dX2_mostValue_35 (by decide) ?_
      obtain rfl := os h
      exact ret_i hx hb hr hlocks hP hK hD hS dX2_mostValue_37
