theorem dX2_fire_0 : decode cX2_fire 0 = .ok (.iconst 0, 1) := by decide +kernel
theorem dX2_fire_1 : decode cX2_fire 1 = .ok (.istore 4, 2) := by decide +kernel
theorem dX2_fire_3 : decode cX2_fire 3 = .ok (.iload 4, 2) := by decide +kernel
theorem dX2_fire_5 : decode cX2_fire 5 = .ok (.iload_n 3, 1) := by decide +kernel
theorem dX2_fire_6 : decode cX2_fire 6 = .ok (.if_icmp .ge 27, 3) := by decide +kernel
theorem dX2_fire_9 : decode cX2_fire 9 = .ok (.aload_n 0, 1) := by decide +kernel
theorem dX2_fire_10 : decode cX2_fire 10 = .ok (.getfield 22, 3) := by decide +kernel
theorem dX2_fire_13 : decode cX2_fire 13 = .ok (.aload_n 1, 1) := by decide +kernel
theorem dX2_fire_14 : decode cX2_fire 14 = .ok (.iload_n 2, 1) := by decide +kernel
theorem dX2_fire_15 : decode cX2_fire 15 = .ok (.invokevirtual 143, 3) := by decide +kernel
theorem dX2_fire_18 : decode cX2_fire 18 = .ok (.aload_n 1, 1) := by decide +kernel
theorem dX2_fire_19 : decode cX2_fire 19 = .ok (.iload_n 2, 1) := by decide +kernel
theorem dX2_fire_20 : decode cX2_fire 20 = .ok (.aload_n 0, 1) := by decide +kernel
theorem dX2_fire_21 : decode cX2_fire 21 = .ok (.getfield 22, 3) := by decide +kernel
theorem dX2_fire_24 : decode cX2_fire 24 = .ok (.invokevirtual 197, 3) := by decide +kernel
theorem dX2_fire_27 : decode cX2_fire 27 = .ok (.iinc 4 1, 3) := by decide +kernel
theorem dX2_fire_30 : decode cX2_fire 30 = .ok (.goto (-27), 3) := by decide +kernel
theorem dX2_fire_33 : decode cX2_fire 33 = .ok (.return_, 1) := by decide +kernel
abbrev zX2_fire : List Cond := .code yX2_fire cX2_fire 5 none :: BIG
def fX2_fire_l3 (bo : BoT)  (K3 : (ExT × ShT × Int32 × Int32 × Int32) → Option (ExT × ShT)) (v3 : ExT × ShT × Int32 × Int32 × Int32) : Option (ExT × ShT) := (if v3.2.2.2.1 ≤ v3.2.2.2.2 then some (v3.1, v3.2.1) else (fX0_expose v3.1 v3.2.1 v3.2.2.1).bind (fun r2 => (fX1_tally v3.2.1 r2 v3.2.2.1).bind (fun r3 => K3 (r2, r3, v3.2.2.1, v3.2.2.2.1, v3.2.2.2.2 + 1))))
def fX2_fire (bo : BoT) (ex : ExT) (x : ShT) (v : Int32) (n : Int32) : Option (ExT × ShT) := lp (fX2_fire_l3 bo) 2000 (ex, x, v, n, 0)
set_option maxHeartbeats 4000000 in
set_option maxRecDepth 100000 in
theorem mtX2_fire (l : Launch) (D : va_G) (t : Nat → ClassId) (bh : Nat) (bk : Nat → Nat) (bo : BoT) (eb : Nat → Nat) (ex : ExT) (xa : Nat) (xb : Nat → Nat) (x : ShT) (v : Int32) (n : Int32) (out : ExT × ShT) (h : fX2_fire bo ex x v n = some out)  (sz : Nat) : Met l yX2_fire zX2_fire ({ frames := 4, cells := 0, slots := 0, locals := 93 }) (sPc D t (gBo bh bk bo ++ (gE t (bk 2) eb ex ++ (gS t xa xb x))) sz [.ref bh, .ref xa, .int v, .int n]) (qV D t (gBo bh bk bo ++ (gE t (bk 2) eb out.1 ++ (gS t xa xb out.2))) (va_A (gBo bh bk bo ++ (gE t (bk 2) eb ex ++ (gS t xa xb x))) sz)) 0 0 (va_A (gBo bh bk bo ++ (gE t (bk 2) eb ex ++ (gS t xa xb x))) sz) := by
  refine met_of (Qf := fun A => qV D t (gBo bh bk bo ++ (gE t (bk 2) eb out.1 ++ (gS t xa xb out.2))) A) (cc := cX2_fire) (maxL := 5) (ret := none) (by decide) rfl (Nat.le_of_ble_eq_true rfl) ?_
  intro p e s m args below meth c A hx hb hr hml hts hown hlocks hA hP hK hD hE hS ls hl
  have htB : ∀ w ∈ BIG, w.before args s = true := fun w h => hts w (List.mem_cons_of_mem _ h)
  have hown : s.vm.findClass RX2 = some m.cls := hown
  have hl : lv_has ls 5 [(0, .ref bh), (1, .ref xa), (2, .int v), (3, .int n)] := hl
  unfold fX2_fire at h
  have J3 : ∀ (fu3 : Nat) (v3 : ExT × ShT × Int32 × Int32 × Int32), lp (fX2_fire_l3 bo) fu3 v3 = some out → ∀ (H : Heap) (locs : List Loc), va_P D vwCl (gBo bh bk bo ++ (gE t (bk 2) eb v3.1 ++ (gS t xa xb v3.2.1))) H → va_D A (gBo bh bk bo ++ (gE t (bk 2) eb v3.1 ++ (gS t xa xb v3.2.1))) → va_S A s.heap H locs → ∀ ls : Array Slot, lv_has ls 5 [(0, .ref bh), (1, .ref xa), (2, .int v3.2.2.1), (3, .int v3.2.2.2.1), (4, .int v3.2.2.2.2)] → W p l e ({ frames := 4, cells := 0, slots := 0, locals := 93 }) s m args below meth c H locs 0 0 (MQ below (qV D t (gBo bh bk bo ++ (gE t (bk 2) eb out.1 ++ (gS t xa xb out.2))) A) args s 0 0 A) (F0 m 3 ls []) := by
    intro fu3
    induction fu3 with
    | zero => intro v3 h; cases h
    | succ fu3 ih3 =>
      intro v3 h H locs hP hD hS ls hl
      have h : fX2_fire_l3 bo (lp (fX2_fire_l3 bo) fu3) v3 = some out := h
      unfold fX2_fire_l3 at h
      refine lv_iload hx hb dX2_fire_3 (lv_at hl 4 rfl) ?_
      refine lv_iload_n hx hb dX2_fire_5 rfl (lv_at hl 3 rfl) ?_
      refine lv_icmp_ge (tgt := 33) hx hb dX2_fire_6 (by decide) (fun c1 => ?_) (fun c1 => ?_)
      · have h := it_p c1 h
        obtain rfl := os h
        exact ret_v hx hb hr hlocks hP hK hD hS dX2_fire_33
      · have h := it_n c1 h
        refine lv_aload_n hx hb dX2_fire_9 rfl (lv_at hl 0 rfl) ?_
        refine va_get (D := D) (ci := 2) (v := .ref (bk 2)) (C := RX2) (T := TX2) (N := 8) hx hb htB inlX2 hown hK hP 0 rfl rfl 2 (by decide) (htB _ kw22) (fun _ h9 => h9) rfl dX2_fire_10 ?_
        refine lv_aload_n hx hb dX2_fire_13 rfl (lv_at hl 1 rfl) ?_
        refine lv_iload_n hx hb dX2_fire_14 rfl (lv_at hl 2 rfl) ?_
        obtain ⟨r2, h2, h⟩ := ob h
        refine call_v (wc := (gE t (bk 2) eb v3.1 ++ (gS t xa xb v3.2.1))) (wc' := (gE t (bk 2) eb r2 ++ (gS t xa xb v3.2.1))) (ws' := (gBo bh bk bo ++ (gE t (bk 2) eb r2 ++ (gS t xa xb v3.2.1)))) (cutB (bs := [gBo bh bk bo, gE t (bk 2) eb v3.1, gS t xa xb v3.2.1]) (cs := [gE t (bk 2) eb v3.1, gS t xa xb v3.2.1]) (cs' := [gE t (bk 2) eb r2, gS t xa xb v3.2.1]) (bs' := [gBo bh bk bo, gE t (bk 2) eb r2, gS t xa xb v3.2.1]) [1, 2] hP hD hS hA rfl rfl rfl rfl) hS (fun hPc hDc => va_runV (As := [.ref xa, .int v3.2.2.1]) (rest := []) ⟨hx, hb, hml, hown, hts⟩ (mtX0_expose l D t (bk 2) eb v3.1 xa xb v3.2.1 v3.2.2.1 r2 h2 _) (cwV 2 hts (gBV kw224 kw225 kw226 kw21 kw227) rfl rfl rfl (by decide +kernel) ⟨Nat.le_of_ble_eq_true rfl, Nat.le_of_ble_eq_true rfl⟩) (sPc_V hPc hK hDc hE (va_recv hK hP (ci := 0) (q0 := 1) rfl rfl)) rfl rfl hl.1 rfl (lv_room (Nat.le_of_ble_eq_true rfl)) dX2_fire_15 ⟨Nat.zero_le _, Nat.zero_le _⟩) (fun H locs hP hD hS => ?_)
        refine lv_aload_n hx hb dX2_fire_18 rfl (lv_at hl 1 rfl) ?_
        refine lv_iload_n hx hb dX2_fire_19 rfl (lv_at hl 2 rfl) ?_
        refine lv_aload_n hx hb dX2_fire_20 rfl (lv_at hl 0 rfl) ?_
        refine va_get (D := D) (ci := 2) (v := .ref (bk 2)) (C := RX2) (T := TX2) (N := 8) hx hb htB inlX2 hown hK hP 0 rfl rfl 2 (by decide) (htB _ kw22) (fun _ h9 => h9) rfl dX2_fire_21 ?_
        obtain ⟨r3, h3, h⟩ := ob h
        refine call_v (wc := (gS t xa xb v3.2.1 ++ (gE t (bk 2) eb r2))) (wc' := (gS t xa xb r3 ++ (gE t (bk 2) eb r2))) (ws' := (gBo bh bk bo ++ (gE t (bk 2) eb r2 ++ (gS t xa xb r3)))) (cutB (bs := [gBo bh bk bo, gE t (bk 2) eb r2, gS t xa xb v3.2.1]) (cs := [gS t xa xb v3.2.1, gE t (bk 2) eb r2]) (cs' := [gS t xa xb r3, gE t (bk 2) eb r2]) (bs' := [gBo bh bk bo, gE t (bk 2) eb r2, gS t xa xb r3]) [2, 1] hP hD hS hA rfl rfl rfl rfl) hS (fun hPc hDc => va_runV (As := [.int v3.2.2.1, .ref (bk 2)]) (rest := []) ⟨hx, hb, hml, hown, hts⟩ (mtX1_tally l D t xa xb v3.2.1 (bk 2) eb r2 v3.2.2.1 r3 h3 _) (cwV 2 hts (gBV kw273 kw274 kw275 kw16 kw276) rfl rfl rfl (by decide +kernel) ⟨Nat.le_of_ble_eq_true rfl, Nat.le_of_ble_eq_true rfl⟩) (sPc_V hPc hK hDc hE (va_recv hK hP (ci := 1) (q0 := 5) rfl rfl)) rfl rfl hl.1 rfl (lv_room (Nat.le_of_ble_eq_true rfl)) dX2_fire_24 ⟨Nat.zero_le _, Nat.zero_le _⟩) (fun H locs hP hD hS => ?_)
        refine lv_iinc (v := v3.2.2.2.2 + 1) (lv' := [(4, .int (v3.2.2.2.2 + 1)), (0, .ref bh), (1, .ref xa), (2, .int v3.2.2.1), (3, .int v3.2.2.2.1)]) hx hb dX2_fire_27 hl (k := 4) rfl rfl (by decide) rfl (fun ls hl => ?_)
        refine lv_goto (tgt := 3) hx hb dX2_fire_30 (by decide) ?_
        exact ih3 (r2, r3, v3.2.2.1, v3.2.2.2.1, v3.2.2.2.2 + 1) h _ _ hP hD hS _ (lv_sub hl [1, 2, 3, 4, 0] rfl)
  refine lv_iconst (v := 0) hx hb dX2_fire_0 (by decide) ?_
  refine lv_istore (lv' := [(4, .int 0), (0, .ref bh), (1, .ref xa), (2, .int v), (3, .int n)]) hx hb dX2_fire_1 hl (by decide) rfl (fun ls hl => ?_)
  exact J3 2000 (ex, x, v, n, 0) h _ _ hP hD hS _ (lv_sub hl [1, 2, 3, 4, 0] rfl)

abbrev zX2_savedAt : List Cond := .code yX2_savedAt cX2_savedAt 2 (some (.object "ShutterBench$Shutter")) :: BIG
def fX2_savedAt (bo : BoT) (i : Int32) : Option Unit := gd (pin i 6) (some ())
theorem sv_pin {bo : BoT} {i : Int32} {u : Unit} (h : fX2_savedAt bo i = some u) : pin i 6 = true := (og h).1
theorem pin_ge {i : Int32} {n : Nat} (hn : n < 2 ^ 31) (h : vp_in i n) : ¬ nI n ≤ i := by
  intro q
  have h1 := vp_in_iff.mp h
  rw [Int32.le_iff_toInt_le, nI_toInt hn] at q
  omega
theorem dX2_savedAt_0 : decode cX2_savedAt 0 = .ok (.iload_n 1, 1) := by decide +kernel
theorem dX2_savedAt_1 : decode cX2_savedAt 1 = .ok (.ifCond .lt 21, 3) := by decide +kernel
theorem dX2_savedAt_4 : decode cX2_savedAt 4 = .ok (.iload_n 1, 1) := by decide +kernel
theorem dX2_savedAt_5 : decode cX2_savedAt 5 = .ok (.aload_n 0, 1) := by decide +kernel
theorem dX2_savedAt_6 : decode cX2_savedAt 6 = .ok (.getfield 26, 3) := by decide +kernel
theorem dX2_savedAt_9 : decode cX2_savedAt 9 = .ok (.arraylength, 1) := by decide +kernel
theorem dX2_savedAt_10 : decode cX2_savedAt 10 = .ok (.if_icmp .ge 12, 3) := by decide +kernel
theorem dX2_savedAt_13 : decode cX2_savedAt 13 = .ok (.aload_n 0, 1) := by decide +kernel
theorem dX2_savedAt_14 : decode cX2_savedAt 14 = .ok (.getfield 26, 3) := by decide +kernel
theorem dX2_savedAt_17 : decode cX2_savedAt 17 = .ok (.iload_n 1, 1) := by decide +kernel
theorem dX2_savedAt_18 : decode cX2_savedAt 18 = .ok (.aaload, 1) := by decide +kernel
theorem dX2_savedAt_19 : decode cX2_savedAt 19 = .ok (.goto 4, 3) := by decide +kernel
theorem dX2_savedAt_22 : decode cX2_savedAt 22 = .ok (.aconst_null, 1) := by decide +kernel
theorem dX2_savedAt_23 : decode cX2_savedAt 23 = .ok (.areturn, 1) := by decide +kernel
set_option maxHeartbeats 4000000 in
set_option maxRecDepth 100000 in
theorem mtX2_savedAt (l : Launch) (D : va_G) (t : Nat → ClassId) (bh : Nat) (bk : Nat → Nat) (bo : BoT) (sa : Nat → Nat) (i : Int32) (out : Unit) (h : fX2_savedAt bo i = some out)  (sz : Nat) : Met l yX2_savedAt zX2_savedAt ({ frames := 0, cells := 0, slots := 0, locals := 0 }) (sPc D t (gBo bh bk bo ++ (gQ t (bk 3) sa)) sz [.ref bh, .int i]) (qR D t (gBo bh bk bo ++ (gQ t (bk 3) sa)) (sa (Int32.toNatClampNeg i)) (va_A (gBo bh bk bo ++ (gQ t (bk 3) sa)) sz)) 0 0 (va_A (gBo bh bk bo ++ (gQ t (bk 3) sa)) sz) := by
  refine met_of (Qf := fun A => qR D t (gBo bh bk bo ++ (gQ t (bk 3) sa)) (sa (Int32.toNatClampNeg i)) A) (cc := cX2_savedAt) (maxL := 2) (ret := (some (.object "ShutterBench$Shutter"))) (by decide) rfl (Nat.le_of_ble_eq_true rfl) ?_
  intro p e s m args below meth c A hx hb hr hml hts hown hlocks hA hP hK hD hE hS ls hl
  have htB : ∀ w ∈ BIG, w.before args s = true := fun w h => hts w (List.mem_cons_of_mem _ h)
  have hown : s.vm.findClass RX2 = some m.cls := hown
  have hl : lv_has ls 2 [(0, .ref bh), (1, .int i)] := hl
  have hin : vp_in i 6 := pin_in (sv_pin h)
  refine lv_iload_n hx hb dX2_savedAt_0 rfl (lv_at hl 1 rfl) ?_
  refine lv_if_lt (tgt := 22) hx hb dX2_savedAt_1 (by decide) (fun c1 => absurd (Or.inl c1) hin) (fun c1 => ?_)
  refine lv_iload_n hx hb dX2_savedAt_4 rfl (lv_at hl 1 rfl) ?_
  refine lv_aload_n hx hb dX2_savedAt_5 rfl (lv_at hl 0 rfl) ?_
  refine va_get (D := D) (ci := 2) (v := .ref (bk 3)) (C := RX2) (T := TX2) (N := 8) hx hb htB inlX2 hown hK hP 0 rfl rfl 3 (by decide) (htB _ kw23) (fun _ h9 => h9) rfl dX2_savedAt_6 ?_
  refine va_alen (v := 6) hx hb hK hP 1 1 rfl rfl rfl dX2_savedAt_9 ?_
  refine lv_icmp_ge (tgt := 22) hx hb dX2_savedAt_10 (by decide) (fun c2 => absurd c2 (pin_ge (by decide) hin)) (fun c2 => ?_)
  refine lv_aload_n hx hb dX2_savedAt_13 rfl (lv_at hl 0 rfl) ?_
  refine va_get (D := D) (ci := 2) (v := .ref (bk 3)) (C := RX2) (T := TX2) (N := 8) hx hb htB inlX2 hown hK hP 0 rfl rfl 3 (by decide) (htB _ kw23) (fun _ h9 => h9) rfl dX2_savedAt_14 ?_
  refine lv_iload_n hx hb dX2_savedAt_17 rfl (lv_at hl 1 rfl) ?_
  refine va_aldq hx hb hK hP 1 1 rfl rfl hin dX2_savedAt_18 ?_
  refine lv_goto (tgt := 23) hx hb dX2_savedAt_19 (by decide) ?_
  exact ret_r (v := sa (Int32.toNatClampNeg i)) rfl hx hb hr (Or.inl ⟨_, rfl⟩) hlocks hP hK hD hS dX2_savedAt_23

theorem dX2_saveState_0 : decode cX2_saveState 0 = .ok (.aload_n 0, 1) := by decide +kernel
theorem dX2_saveState_1 : decode cX2_saveState 1 = .ok (.aload_n 0, 1) := by decide +kernel
theorem dX2_saveState_2 : decode cX2_saveState 2 = .ok (.getfield 34, 3) := by decide +kernel
theorem dX2_saveState_5 : decode cX2_saveState 5 = .ok (.invokevirtual 125, 3) := by decide +kernel
theorem dX2_saveState_8 : decode cX2_saveState 8 = .ok (.astore_n 1, 1) := by decide +kernel
theorem dX2_saveState_9 : decode cX2_saveState 9 = .ok (.aload_n 1, 1) := by decide +kernel
theorem dX2_saveState_10 : decode cX2_saveState 10 = .ok (.ifnull 11, 3) := by decide +kernel
theorem dX2_saveState_13 : decode cX2_saveState 13 = .ok (.aload_n 1, 1) := by decide +kernel
theorem dX2_saveState_14 : decode cX2_saveState 14 = .ok (.aload_n 0, 1) := by decide +kernel
theorem dX2_saveState_15 : decode cX2_saveState 15 = .ok (.getfield 10, 3) := by decide +kernel
theorem dX2_saveState_18 : decode cX2_saveState 18 = .ok (.invokevirtual 129, 3) := by decide +kernel
theorem dX2_saveState_21 : decode cX2_saveState 21 = .ok (.aload_n 0, 1) := by decide +kernel
theorem dX2_saveState_22 : decode cX2_saveState 22 = .ok (.aload_n 0, 1) := by decide +kernel
theorem dX2_saveState_23 : decode cX2_saveState 23 = .ok (.getfield 34, 3) := by decide +kernel
theorem dX2_saveState_26 : decode cX2_saveState 26 = .ok (.iconst 5, 1) := by decide +kernel
theorem dX2_saveState_27 : decode cX2_saveState 27 = .ok (.if_icmp .ge 12, 3) := by decide +kernel
theorem dX2_saveState_30 : decode cX2_saveState 30 = .ok (.aload_n 0, 1) := by decide +kernel
theorem dX2_saveState_31 : decode cX2_saveState 31 = .ok (.getfield 34, 3) := by decide +kernel
theorem dX2_saveState_34 : decode cX2_saveState 34 = .ok (.iconst 1, 1) := by decide +kernel
theorem dX2_saveState_35 : decode cX2_saveState 35 = .ok (.iadd, 1) := by decide +kernel
theorem dX2_saveState_36 : decode cX2_saveState 36 = .ok (.goto 4, 3) := by decide +kernel
theorem dX2_saveState_39 : decode cX2_saveState 39 = .ok (.iconst 0, 1) := by decide +kernel
theorem dX2_saveState_40 : decode cX2_saveState 40 = .ok (.putfield 34, 3) := by decide +kernel
theorem dX2_saveState_43 : decode cX2_saveState 43 = .ok (.aload_n 0, 1) := by decide +kernel
theorem dX2_saveState_44 : decode cX2_saveState 44 = .ok (.aload_n 0, 1) := by decide +kernel
theorem dX2_saveState_45 : decode cX2_saveState 45 = .ok (.getfield 30, 3) := by decide +kernel
theorem dX2_saveState_48 : decode cX2_saveState 48 = .ok (.iconst 1, 1) := by decide +kernel
theorem dX2_saveState_49 : decode cX2_saveState 49 = .ok (.iadd, 1) := by decide +kernel
theorem dX2_saveState_50 : decode cX2_saveState 50 = .ok (.bipush 6, 2) := by decide +kernel
theorem dX2_saveState_52 : decode cX2_saveState 52 = .ok (.invokestatic 268, 3) := by decide +kernel
theorem dX2_saveState_55 : decode cX2_saveState 55 = .ok (.putfield 30, 3) := by decide +kernel
theorem dX2_saveState_58 : decode cX2_saveState 58 = .ok (.return_, 1) := by decide +kernel
abbrev zX2_saveState : List Cond := .code yX2_saveState cX2_saveState 2 none :: BIG
def fX2_saveState_j40 (now : ShT)  (v40 : BoT × (Nat → ShT) × Int32) : Option (BoT × (Nat → ShT)) := some (((imin (v40.1.1 + 1) 6), v40.2.2, v40.1.2.2), v40.2.1)
def fX2_saveState_j21 (now : ShT)  (v21 : BoT × (Nat → ShT)) : Option (BoT × (Nat → ShT)) := (if 5 ≤ v21.1.2.1 then fX2_saveState_j40 now (v21.1, v21.2, 0) else fX2_saveState_j40 now (v21.1, v21.2, v21.1.2.1 + 1))
def fX2_saveState (bo : BoT) (now : ShT) (sv : (Nat → ShT)) : Option (BoT × (Nat → ShT)) := (fX2_savedAt bo bo.2.1).bind (fun r1 => (fX1_become (sv (Int32.toNatClampNeg bo.2.1)) now).bind (fun r2 => fX2_saveState_j21 now (bo, (va_up sv (Int32.toNatClampNeg bo.2.1) r2))))
set_option maxHeartbeats 4000000 in
set_option maxRecDepth 100000 in
theorem mtX2_saveState (l : Launch) (D : va_G) (t : Nat → ClassId) (bh : Nat) (bk : Nat → Nat) (bo : BoT) (nb : Nat → Nat) (now : ShT) (sa : Nat → Nat) (sb : Nat → Nat → Nat) (sv : (Nat → ShT)) (out : BoT × (Nat → ShT)) (h : fX2_saveState bo now sv = some out)  (sz : Nat) : Met l yX2_saveState zX2_saveState ({ frames := 2, cells := 0, slots := 0, locals := 43 }) (sPc D t (gBo bh bk bo ++ (gS t (bk 0) nb now ++ (gQ t (bk 3) sa ++ (g6 t sa sb sv)))) sz [.ref bh]) (qV D t (gBo bh bk out.1 ++ (gS t (bk 0) nb now ++ (gQ t (bk 3) sa ++ (g6 t sa sb out.2)))) (va_A (gBo bh bk bo ++ (gS t (bk 0) nb now ++ (gQ t (bk 3) sa ++ (g6 t sa sb sv)))) sz)) 0 0 (va_A (gBo bh bk bo ++ (gS t (bk 0) nb now ++ (gQ t (bk 3) sa ++ (g6 t sa sb sv)))) sz) := by
  refine met_of (Qf := fun A => qV D t (gBo bh bk out.1 ++ (gS t (bk 0) nb now ++ (gQ t (bk 3) sa ++ (g6 t sa sb out.2)))) A) (cc := cX2_saveState) (maxL := 2) (ret := none) (by decide) rfl (Nat.le_of_ble_eq_true rfl) ?_
  intro p e s m args below meth c A hx hb hr hml hts hown hlocks hA hP hK hD hE hS ls hl
  have htB : ∀ w ∈ BIG, w.before args s = true := fun w h => hts w (List.mem_cons_of_mem _ h)
  have hown : s.vm.findClass RX2 = some m.cls := hown
  have hl : lv_has ls 2 [(0, .ref bh)] := hl
  unfold fX2_saveState at h
  have J40 : ∀ v40 : BoT × (Nat → ShT) × Int32, fX2_saveState_j40 now v40 = some out → ∀ (H : Heap) (locs : List Loc), va_P D vwCl (gBo bh bk v40.1 ++ (gS t (bk 0) nb now ++ (gQ t (bk 3) sa ++ (g6 t sa sb v40.2.1)))) H → va_D A (gBo bh bk v40.1 ++ (gS t (bk 0) nb now ++ (gQ t (bk 3) sa ++ (g6 t sa sb v40.2.1)))) → va_S A s.heap H locs → ∀ ls : Array Slot, lv_has ls 2 [(0, .ref bh)] → W p l e ({ frames := 2, cells := 0, slots := 0, locals := 43 }) s m args below meth c H locs 0 0 (MQ below (qV D t (gBo bh bk out.1 ++ (gS t (bk 0) nb now ++ (gQ t (bk 3) sa ++ (g6 t sa sb out.2)))) A) args s 0 0 A) (F0 m 40 ls [.int v40.2.2, .ref bh]) := by
    intro v40 h H locs hP hD hS ls hl
    unfold fX2_saveState_j40 at h
    refine va_put (D := D) (ci := 2) (v := .int v40.2.2) (ty := .int) (C := RX2) (T := TX2) (N := 8) hx hb htB inlX2 tyX2 tyX2_ok nmX2 hown hK hP hD hS 0 rfl rfl 5 (by decide) (htB _ kw25) (fun _ h9 => h9) rfl (by decide +kernel) rfl rfl (Nat.le_of_ble_eq_true rfl) dX2_saveState_40 (fun H locs hP hD hS => ?_)
    have hP : va_P D vwCl (gBo bh bk (v40.1.1, v40.2.2, v40.1.2.2) ++ (gS t (bk 0) nb now ++ (gQ t (bk 3) sa ++ (g6 t sa sb v40.2.1)))) H := hP
    have hD : va_D A (gBo bh bk (v40.1.1, v40.2.2, v40.1.2.2) ++ (gS t (bk 0) nb now ++ (gQ t (bk 3) sa ++ (g6 t sa sb v40.2.1)))) := hD
    refine lv_aload_n hx hb dX2_saveState_43 rfl (lv_at hl 0 rfl) ?_
    refine lv_aload_n hx hb dX2_saveState_44 rfl (lv_at hl 0 rfl) ?_
    refine va_get (D := D) (ci := 2) (v := .int v40.1.1) (C := RX2) (T := TX2) (N := 8) hx hb htB inlX2 hown hK hP 0 rfl rfl 4 (by decide) (htB _ kw24) (fun _ h9 => h9) rfl dX2_saveState_45 ?_
    refine lv_iconst (v := 1) hx hb dX2_saveState_48 (by decide) ?_
    refine lv_iadd hx hb dX2_saveState_49 ?_
    refine lv_bipush (v := 6) hx hb dX2_saveState_50 (by decide) ?_
    refine va_mmin hx hb (by rw [hml]; exact hl.1.symm) hown (htB _ kw90) (htB _ kw91) (htB _ kw92) (htB _ kw93) (Nat.le_of_ble_eq_true rfl) (Nat.le_of_ble_eq_true rfl) (Nat.zero_le _) (Nat.zero_le _) dX2_saveState_52 ?_
    refine va_put (D := D) (ci := 2) (v := .int (imin (v40.1.1 + 1) 6)) (ty := .int) (C := RX2) (T := TX2) (N := 8) hx hb htB inlX2 tyX2 tyX2_ok nmX2 hown hK hP hD hS 0 rfl rfl 4 (by decide) (htB _ kw24) (fun _ h9 => h9) rfl (by decide +kernel) rfl rfl (Nat.le_of_ble_eq_true rfl) dX2_saveState_55 (fun H locs hP hD hS => ?_)
    have hP : va_P D vwCl (gBo bh bk ((imin (v40.1.1 + 1) 6), v40.2.2, v40.1.2.2) ++ (gS t (bk 0) nb now ++ (gQ t (bk 3) sa ++ (g6 t sa sb v40.2.1)))) H := hP
    have hD : va_D A (gBo bh bk ((imin (v40.1.1 + 1) 6), v40.2.2, v40.1.2.2) ++ (gS t (bk 0) nb now ++ (gQ t (bk 3) sa ++ (g6 t sa sb v40.2.1)))) := hD
    obtain rfl := os h
    exact ret_v hx hb hr hlocks hP hK hD hS dX2_saveState_58
  have J21 : ∀ v21 : BoT × (Nat → ShT), fX2_saveState_j21 now v21 = some out → ∀ (H : Heap) (locs : List Loc), va_P D vwCl (gBo bh bk v21.1 ++ (gS t (bk 0) nb now ++ (gQ t (bk 3) sa ++ (g6 t sa sb v21.2)))) H → va_D A (gBo bh bk v21.1 ++ (gS t (bk 0) nb now ++ (gQ t (bk 3) sa ++ (g6 t sa sb v21.2)))) → va_S A s.heap H locs → ∀ ls : Array Slot, lv_has ls 2 [(0, .ref bh)] → W p l e ({ frames := 2, cells := 0, slots := 0, locals := 43 }) s m args below meth c H locs 0 0 (MQ below (qV D t (gBo bh bk out.1 ++ (gS t (bk 0) nb now ++ (gQ t (bk 3) sa ++ (g6 t sa sb out.2)))) A) args s 0 0 A) (F0 m 21 ls []) := by
    intro v21 h H locs hP hD hS ls hl
    unfold fX2_saveState_j21 at h
    refine lv_aload_n hx hb dX2_saveState_21 rfl (lv_at hl 0 rfl) ?_
    refine lv_aload_n hx hb dX2_saveState_22 rfl (lv_at hl 0 rfl) ?_
    refine va_get (D := D) (ci := 2) (v := .int v21.1.2.1) (C := RX2) (T := TX2) (N := 8) hx hb htB inlX2 hown hK hP 0 rfl rfl 5 (by decide) (htB _ kw25) (fun _ h9 => h9) rfl dX2_saveState_23 ?_
    refine lv_iconst (v := 5) hx hb dX2_saveState_26 (by decide) ?_
    refine lv_icmp_ge (tgt := 39) hx hb dX2_saveState_27 (by decide) (fun c3 => ?_) (fun c3 => ?_)
    · have h := it_p c3 h
      refine lv_iconst (v := 0) hx hb dX2_saveState_39 (by decide) ?_
      exact J40 (v21.1, v21.2, 0) h _ _ hP hD hS _ (lv_sub hl [0] rfl)
    · have h := it_n c3 h
      refine lv_aload_n hx hb dX2_saveState_30 rfl (lv_at hl 0 rfl) ?_
      refine va_get (D := D) (ci := 2) (v := .int v21.1.2.1) (C := RX2) (T := TX2) (N := 8) hx hb htB inlX2 hown hK hP 0 rfl rfl 5 (by decide) (htB _ kw25) (fun _ h9 => h9) rfl dX2_saveState_31 ?_
      refine lv_iconst (v := 1) hx hb dX2_saveState_34 (by decide) ?_
      refine lv_iadd hx hb dX2_saveState_35 ?_
      refine lv_goto (tgt := 40) hx hb dX2_saveState_36 (by decide) ?_
      exact J40 (v21.1, v21.2, v21.1.2.1 + 1) h _ _ hP hD hS _ (lv_sub hl [0] rfl)
  refine lv_aload_n hx hb dX2_saveState_0 rfl (lv_at hl 0 rfl) ?_
  refine lv_aload_n hx hb dX2_saveState_1 rfl (lv_at hl 0 rfl) ?_
  refine va_get (D := D) (ci := 2) (v := .int bo.2.1) (C := RX2) (T := TX2) (N := 8) hx hb htB inlX2 hown hK hP 0 rfl rfl 5 (by decide) (htB _ kw25) (fun _ h9 => h9) rfl dX2_saveState_2 ?_
  obtain ⟨r1, h1, h⟩ := ob h
  refine call_r (v := sa (Int32.toNatClampNeg bo.2.1)) (wc := (gBo bh bk bo ++ (gQ t (bk 3) sa))) (wc' := (gBo bh bk bo ++ (gQ t (bk 3) sa))) (ws' := (gBo bh bk bo ++ (gS t (bk 0) nb now ++ (gQ t (bk 3) sa ++ (g6 t sa sb sv))))) (cutB (bs := [gBo bh bk bo, gS t (bk 0) nb now, gQ t (bk 3) sa, g6 t sa sb sv]) (cs := [gBo bh bk bo, gQ t (bk 3) sa]) (cs' := [gBo bh bk bo, gQ t (bk 3) sa]) (bs' := [gBo bh bk bo, gS t (bk 0) nb now, gQ t (bk 3) sa, g6 t sa sb sv]) [0, 2] hP hD hS hA rfl rfl rfl rfl) hS (fun hPc hDc => va_runV (As := [.int bo.2.1]) (rest := []) ⟨hx, hb, hml, hown, hts⟩ (mtX2_savedAt l D t bh bk bo sa bo.2.1 r1 h1 _) (cwV 1 hts (gBV kw94 kw95 kw96 kw2 kw97) rfl rfl rfl (by decide +kernel) ⟨Nat.le_of_ble_eq_true rfl, Nat.le_of_ble_eq_true rfl⟩) (sPc_V hPc hK hDc hE (va_recv hK hP (ci := 2) (q0 := 0) rfl rfl)) rfl rfl hl.1 rfl (lv_room (Nat.le_of_ble_eq_true rfl)) dX2_saveState_5 ⟨Nat.zero_le _, Nat.zero_le _⟩) (fun H locs hP hD hS => ?_)
  have hj6 := pin6 (sv_pin h1)
  refine lv_astore_n (lv' := [(1, .ref (sa (Int32.toNatClampNeg bo.2.1))), (0, .ref bh)]) hx hb dX2_saveState_8 rfl hl (by decide) rfl (fun ls hl => ?_)
  refine lv_aload_n hx hb dX2_saveState_9 rfl (lv_at hl 0 rfl) ?_
  refine lv_ifnull hx hb dX2_saveState_10 ?_
  refine lv_aload_n hx hb dX2_saveState_13 rfl (lv_at hl 0 rfl) ?_
  refine lv_aload_n hx hb dX2_saveState_14 rfl (lv_at hl 1 rfl) ?_
  refine va_get (D := D) (ci := 2) (v := .ref (bk 0)) (C := RX2) (T := TX2) (N := 8) hx hb htB inlX2 hown hK hP 0 rfl rfl 0 (by decide) (htB _ kw17) (fun _ h9 => h9) rfl dX2_saveState_15 ?_
  obtain ⟨r2, h2, h⟩ := ob h
  refine call_v (wc := (gS t (sa (Int32.toNatClampNeg bo.2.1)) (sb (Int32.toNatClampNeg bo.2.1)) (sv (Int32.toNatClampNeg bo.2.1)) ++ (gS t (bk 0) nb now))) (wc' := (gS t (sa (Int32.toNatClampNeg bo.2.1)) (sb (Int32.toNatClampNeg bo.2.1)) r2 ++ (gS t (bk 0) nb now))) (ws' := (gBo bh bk bo ++ (gS t (bk 0) nb now ++ (gQ t (bk 3) sa ++ (g6 t sa sb (va_up sv (Int32.toNatClampNeg bo.2.1) r2)))))) (cutB (bs := [gBo bh bk bo, gS t (bk 0) nb now, gQ t (bk 3) sa, gS t (sa 0) (sb 0) (sv 0), gS t (sa 1) (sb 1) (sv 1), gS t (sa 2) (sb 2) (sv 2), gS t (sa 3) (sb 3) (sv 3), gS t (sa 4) (sb 4) (sv 4), gS t (sa 5) (sb 5) (sv 5)]) (cs := [gS t (sa (Int32.toNatClampNeg bo.2.1)) (sb (Int32.toNatClampNeg bo.2.1)) (sv (Int32.toNatClampNeg bo.2.1)), gS t (bk 0) nb now]) (cs' := [gS t (sa (Int32.toNatClampNeg bo.2.1)) (sb (Int32.toNatClampNeg bo.2.1)) r2, gS t (bk 0) nb now]) (bs' := [gBo bh bk bo, gS t (bk 0) nb now, gQ t (bk 3) sa, gS t (sa 0) (sb 0) ((va_up sv (Int32.toNatClampNeg bo.2.1) r2) 0), gS t (sa 1) (sb 1) ((va_up sv (Int32.toNatClampNeg bo.2.1) r2) 1), gS t (sa 2) (sb 2) ((va_up sv (Int32.toNatClampNeg bo.2.1) r2) 2), gS t (sa 3) (sb 3) ((va_up sv (Int32.toNatClampNeg bo.2.1) r2) 3), gS t (sa 4) (sb 4) ((va_up sv (Int32.toNatClampNeg bo.2.1) r2) 4), gS t (sa 5) (sb 5) ((va_up sv (Int32.toNatClampNeg bo.2.1) r2) 5)]) [3 + (Int32.toNatClampNeg bo.2.1), 1] hP hD hS hA (by rcases hj6 with e9 | e9 | e9 | e9 | e9 | e9 <;> rw [e9] <;> rfl) (by rcases hj6 with e9 | e9 | e9 | e9 | e9 | e9 <;> rw [e9] <;> rfl) (by rcases hj6 with e9 | e9 | e9 | e9 | e9 | e9 <;> rw [e9] <;> rfl) rfl) hS (fun hPc hDc => va_runV (As := [.ref (bk 0)]) (rest := []) ⟨hx, hb, hml, hown, hts⟩ (mtX1_become l D t (sa (Int32.toNatClampNeg bo.2.1)) (sb (Int32.toNatClampNeg bo.2.1)) (sv (Int32.toNatClampNeg bo.2.1)) (bk 0) nb now r2 h2 _) (cwV 1 hts (gBV kw98 kw99 kw100 kw16 kw101) rfl rfl rfl (by decide +kernel) ⟨Nat.le_of_ble_eq_true rfl, Nat.le_of_ble_eq_true rfl⟩) (sPc_V hPc hK hDc hE (va_recv hK hPc (ci := 1) (q0 := 0) rfl rfl)) rfl rfl hl.1 rfl (lv_room (Nat.le_of_ble_eq_true rfl)) dX2_saveState_18 ⟨Nat.zero_le _, Nat.zero_le _⟩) (fun H locs hP hD hS => ?_)
  exact J21 (bo, (va_up sv (Int32.toNatClampNeg bo.2.1) r2)) h _ _ hP hD hS _ (lv_sub hl [1] rfl)

theorem dX2_needIndex_0 : decode cX2_needIndex 0 = .ok (.iload_n 0, 1) := by decide +kernel
theorem dX2_needIndex_1 : decode cX2_needIndex 1 = .ok (.ifCond .lt 8, 3) := by decide +kernel
theorem dX2_needIndex_4 : decode cX2_needIndex 4 = .ok (.iload_n 0, 1) := by decide +kernel
theorem dX2_needIndex_5 : decode cX2_needIndex 5 = .ok (.iload_n 1, 1) := by decide +kernel
theorem dX2_needIndex_6 : decode cX2_needIndex 6 = .ok (.if_icmp .lt 14, 3) := by decide +kernel
theorem dX2_needIndex_9 : decode cX2_needIndex 9 = .ok (.new 287, 3) := by decide +kernel
theorem dX2_needIndex_20 : decode cX2_needIndex 20 = .ok (.return_, 1) := by decide +kernel
abbrev zX2_needIndex : List Cond := .code yX2_needIndex cX2_needIndex 2 none :: BIG
def fX2_needIndex (i : Int32) (b : Int32) : Option (Nat ⊕ (Unit)) := (if i < 0 then some (.inl 0) else (if i < b then some (.inr ()) else some (.inl 0)))
set_option maxHeartbeats 4000000 in
set_option maxRecDepth 100000 in
theorem mtX2_needIndex (l : Launch) (D : va_G) (t : Nat → ClassId) (i : Int32) (b : Int32) (out : Unit) (h : fX2_needIndex i b = some (.inr out))  (sz : Nat) : Met l yX2_needIndex zX2_needIndex ({ frames := 0, cells := 0, slots := 0, locals := 0 }) (sPc D t ([] : va_W) sz [.int i, .int b]) (qV D t ([] : va_W) (va_A ([] : va_W) sz)) 0 0 (va_A ([] : va_W) sz) := by
  refine met_of (Qf := fun A => qV D t ([] : va_W) A) (cc := cX2_needIndex) (maxL := 2) (ret := none) (by decide) rfl (Nat.le_of_ble_eq_true rfl) ?_
  intro p e s m args below meth c A hx hb hr hml hts hown hlocks hA hP hK hD hE hS ls hl
  have htB : ∀ w ∈ BIG, w.before args s = true := fun w h => hts w (List.mem_cons_of_mem _ h)
  have hown : s.vm.findClass RX2 = some m.cls := hown
  have hl : lv_has ls 2 [(0, .int i), (1, .int b)] := hl
  unfold fX2_needIndex at h
  refine lv_iload_n hx hb dX2_needIndex_0 rfl (lv_at hl 0 rfl) ?_
  refine lv_if_lt (tgt := 9) hx hb dX2_needIndex_1 (by decide) (fun c1 => ?_) (fun c1 => ?_)
  · have h := it_p c1 h
    cases h
  · have h := it_n c1 h
    refine lv_iload_n hx hb dX2_needIndex_4 rfl (lv_at hl 0 rfl) ?_
    refine lv_iload_n hx hb dX2_needIndex_5 rfl (lv_at hl 1 rfl) ?_
    refine lv_icmp_lt (tgt := 20) hx hb dX2_needIndex_6 (by decide) (fun c2 => ?_) (fun c2 => ?_)
    · have h := it_p c2 h
      obtain rfl := oi h
      exact ret_v hx hb hr hlocks hP hK hD hS dX2_needIndex_20
    · have h := it_n c2 h
      cases h

theorem dX2_needCurtain_0 : decode cX2_needCurtain 0 = .ok (.iload_n 0, 1) := by decide +kernel
theorem dX2_needCurtain_1 : decode cX2_needCurtain 1 = .ok (.iconst 2, 1) := by decide +kernel
theorem dX2_needCurtain_2 : decode cX2_needCurtain 2 = .ok (.invokestatic 139, 3) := by decide +kernel
theorem dX2_needCurtain_5 : decode cX2_needCurtain 5 = .ok (.return_, 1) := by decide +kernel
abbrev zX2_needCurtain : List Cond := .code yX2_needCurtain cX2_needCurtain 1 none :: BIG
def fX2_needCurtain (i : Int32) : Option (Nat ⊕ (Unit)) := tb (fX2_needIndex i 2) (fun r1 => some (.inr ()))
set_option maxHeartbeats 4000000 in
set_option maxRecDepth 100000 in
theorem mtX2_needCurtain (l : Launch) (D : va_G) (t : Nat → ClassId) (i : Int32) (out : Unit) (h : fX2_needCurtain i = some (.inr out))  (sz : Nat) : Met l yX2_needCurtain zX2_needCurtain ({ frames := 1, cells := 0, slots := 0, locals := 21 }) (sPc D t ([] : va_W) sz [.int i]) (qV D t ([] : va_W) (va_A ([] : va_W) sz)) 0 0 (va_A ([] : va_W) sz) := by
  refine met_of (Qf := fun A => qV D t ([] : va_W) A) (cc := cX2_needCurtain) (maxL := 1) (ret := none) (by decide) rfl (Nat.le_of_ble_eq_true rfl) ?_
  intro p e s m args below meth c A hx hb hr hml hts hown hlocks hA hP hK hD hE hS ls hl
  have htB : ∀ w ∈ BIG, w.before args s = true := fun w h => hts w (List.mem_cons_of_mem _ h)
  have hown : s.vm.findClass RX2 = some m.cls := hown
  have hl : lv_has ls 1 [(0, .int i)] := hl
  unfold fX2_needCurtain at h
  refine lv_iload_n hx hb dX2_needCurtain_0 rfl (lv_at hl 0 rfl) ?_
  refine lv_iconst (v := 2) hx hb dX2_needCurtain_1 (by decide) ?_
  obtain ⟨r1, h1, h⟩ := tb_r h
  refine call_v (wc := ([] : va_W)) (wc' := ([] : va_W)) (ws' := ([] : va_W)) (cutB (bs := []) (cs := []) (cs' := []) (bs' := []) [] hP hD hS hA rfl rfl rfl rfl) hS (fun hPc hDc => va_runS (As := [.int i, .int 2]) (rest := []) ⟨hx, hb, hml, hown, hts⟩ (mtX2_needIndex l D t i 2 r1 h1 _) (va_cwS 2 hts (gBS kw76 kw77 kw2 kw78) rfl rfl rfl (by decide +kernel) ⟨Nat.le_of_ble_eq_true rfl, Nat.le_of_ble_eq_true rfl⟩) (sPc_S hPc hK hDc hE) rfl rfl hl.1 rfl (lv_room (Nat.le_of_ble_eq_true rfl)) dX2_needCurtain_2 ⟨Nat.zero_le _, Nat.zero_le _⟩) (fun H locs hP hD hS => ?_)
  obtain rfl := oi h
  exact ret_v hx hb hr hlocks hP hK hD hS dX2_needCurtain_5

theorem dX2_needSpeed_0 : decode cX2_needSpeed 0 = .ok (.iload_n 0, 1) := by decide +kernel
theorem dX2_needSpeed_1 : decode cX2_needSpeed 1 = .ok (.bipush 6, 2) := by decide +kernel
theorem dX2_needSpeed_3 : decode cX2_needSpeed 3 = .ok (.invokestatic 139, 3) := by decide +kernel
theorem dX2_needSpeed_6 : decode cX2_needSpeed 6 = .ok (.return_, 1) := by decide +kernel
abbrev zX2_needSpeed : List Cond := .code yX2_needSpeed cX2_needSpeed 1 none :: BIG
def fX2_needSpeed (i : Int32) : Option (Nat ⊕ (Unit)) := tb (fX2_needIndex i 6) (fun r1 => some (.inr ()))
set_option maxHeartbeats 4000000 in
set_option maxRecDepth 100000 in
theorem mtX2_needSpeed (l : Launch) (D : va_G) (t : Nat → ClassId) (i : Int32) (out : Unit) (h : fX2_needSpeed i = some (.inr out))  (sz : Nat) : Met l yX2_needSpeed zX2_needSpeed ({ frames := 1, cells := 0, slots := 0, locals := 21 }) (sPc D t ([] : va_W) sz [.int i]) (qV D t ([] : va_W) (va_A ([] : va_W) sz)) 0 0 (va_A ([] : va_W) sz) := by
  refine met_of (Qf := fun A => qV D t ([] : va_W) A) (cc := cX2_needSpeed) (maxL := 1) (ret := none) (by decide) rfl (Nat.le_of_ble_eq_true rfl) ?_
  intro p e s m args below meth c A hx hb hr hml hts hown hlocks hA hP hK hD hE hS ls hl
  have htB : ∀ w ∈ BIG, w.before args s = true := fun w h => hts w (List.mem_cons_of_mem _ h)
  have hown : s.vm.findClass RX2 = some m.cls := hown
  have hl : lv_has ls 1 [(0, .int i)] := hl
  unfold fX2_needSpeed at h
  refine lv_iload_n hx hb dX2_needSpeed_0 rfl (lv_at hl 0 rfl) ?_
  refine lv_bipush (v := 6) hx hb dX2_needSpeed_1 (by decide) ?_
  obtain ⟨r1, h1, h⟩ := tb_r h
  refine call_v (wc := ([] : va_W)) (wc' := ([] : va_W)) (ws' := ([] : va_W)) (cutB (bs := []) (cs := []) (cs' := []) (bs' := []) [] hP hD hS hA rfl rfl rfl rfl) hS (fun hPc hDc => va_runS (As := [.int i, .int 6]) (rest := []) ⟨hx, hb, hml, hown, hts⟩ (mtX2_needIndex l D t i 6 r1 h1 _) (va_cwS 2 hts (gBS kw76 kw77 kw2 kw78) rfl rfl rfl (by decide +kernel) ⟨Nat.le_of_ble_eq_true rfl, Nat.le_of_ble_eq_true rfl⟩) (sPc_S hPc hK hDc hE) rfl rfl hl.1 rfl (lv_room (Nat.le_of_ble_eq_true rfl)) dX2_needSpeed_3 ⟨Nat.zero_le _, Nat.zero_le _⟩) (fun H locs hP hD hS => ?_)
  obtain rfl := oi h
  exact ret_v hx hb hr hlocks hP hK hD hS dX2_needSpeed_6

theorem dX2_needSetting_0 : decode cX2_needSetting 0 = .ok (.iload_n 0, 1) := by decide +kernel
theorem dX2_needSetting_1 : decode cX2_needSetting 1 = .ok (.iconst 4, 1) := by decide +kernel
theorem dX2_needSetting_2 : decode cX2_needSetting 2 = .ok (.invokestatic 139, 3) := by decide +kernel
theorem dX2_needSetting_5 : decode cX2_needSetting 5 = .ok (.return_, 1) := by decide +kernel
abbrev zX2_needSetting : List Cond := .code yX2_needSetting cX2_needSetting 1 none :: BIG
def fX2_needSetting (i : Int32) : Option (Nat ⊕ (Unit)) := tb (fX2_needIndex i 4) (fun r1 => some (.inr ()))
set_option maxHeartbeats 4000000 in
set_option maxRecDepth 100000 in
theorem mtX2_needSetting (l : Launch) (D : va_G) (t : Nat → ClassId) (i : Int32) (out : Unit) (h : fX2_needSetting i = some (.inr out))  (sz : Nat) : Met l yX2_needSetting zX2_needSetting ({ frames := 1, cells := 0, slots := 0, locals := 21 }) (sPc D t ([] : va_W) sz [.int i]) (qV D t ([] : va_W) (va_A ([] : va_W) sz)) 0 0 (va_A ([] : va_W) sz) := by
  refine met_of (Qf := fun A => qV D t ([] : va_W) A) (cc := cX2_needSetting) (maxL := 1) (ret := none) (by decide) rfl (Nat.le_of_ble_eq_true rfl) ?_
  intro p e s m args below meth c A hx hb hr hml hts hown hlocks hA hP hK hD hE hS ls hl
  have htB : ∀ w ∈ BIG, w.before args s = true := fun w h => hts w (List.mem_cons_of_mem _ h)
  have hown : s.vm.findClass RX2 = some m.cls := hown
  have hl : lv_has ls 1 [(0, .int i)] := hl
  unfold fX2_needSetting at h
  refine lv_iload_n hx hb dX2_needSetting_0 rfl (lv_at hl 0 rfl) ?_
  refine lv_iconst (v := 4) hx hb dX2_needSetting_1 (by decide) ?_
  obtain ⟨r1, h1, h⟩ := tb_r h
  refine call_v (wc := ([] : va_W)) (wc' := ([] : va_W)) (ws' := ([] : va_W)) (cutB (bs := []) (cs := []) (cs' := []) (bs' := []) [] hP hD hS hA rfl rfl rfl rfl) hS (fun hPc hDc => va_runS (As := [.int i, .int 4]) (rest := []) ⟨hx, hb, hml, hown, hts⟩ (mtX2_needIndex l D t i 4 r1 h1 _) (va_cwS 2 hts (gBS kw76 kw77 kw2 kw78) rfl rfl rfl (by decide +kernel) ⟨Nat.le_of_ble_eq_true rfl, Nat.le_of_ble_eq_true rfl⟩) (sPc_S hPc hK hDc hE) rfl rfl hl.1 rfl (lv_room (Nat.le_of_ble_eq_true rfl)) dX2_needSetting_2 ⟨Nat.zero_le _, Nat.zero_le _⟩) (fun H locs hP hD hS => ?_)
  obtain rfl := oi h
  exact ret_v hx hb hr hlocks hP hK hD hS dX2_needSetting_5

theorem dX2_needRange_0 : decode cX2_needRange 0 = .ok (.iload_n 0, 1) := by decide +kernel
theorem dX2_needRange_1 : decode cX2_needRange 1 = .ok (.iload_n 1, 1) := by decide +kernel
theorem dX2_needRange_2 : decode cX2_needRange 2 = .ok (.if_icmp .lt 8, 3) := by decide +kernel
theorem dX2_needRange_5 : decode cX2_needRange 5 = .ok (.iload_n 0, 1) := by decide +kernel
theorem dX2_needRange_6 : decode cX2_needRange 6 = .ok (.iload_n 2, 1) := by decide +kernel
theorem dX2_needRange_7 : decode cX2_needRange 7 = .ok (.if_icmp .le 14, 3) := by decide +kernel
theorem dX2_needRange_10 : decode cX2_needRange 10 = .ok (.new 115, 3) := by decide +kernel
theorem dX2_needRange_21 : decode cX2_needRange 21 = .ok (.return_, 1) := by decide +kernel
abbrev zX2_needRange : List Cond := .code yX2_needRange cX2_needRange 3 none :: BIG
def fX2_needRange (v : Int32) (lo : Int32) (hi : Int32) : Option (Nat ⊕ (Unit)) := (if v < lo then some (.inl 1) else (if v ≤ hi then some (.inr ()) else some (.inl 1)))
set_option maxHeartbeats 4000000 in
set_option maxRecDepth 100000 in
theorem mtX2_needRange (l : Launch) (D : va_G) (t : Nat → ClassId) (v : Int32) (lo : Int32) (hi : Int32) (out : Unit) (h : fX2_needRange v lo hi = some (.inr out))  (sz : Nat) : Met l yX2_needRange zX2_needRange ({ frames := 0, cells := 0, slots := 0, locals := 0 }) (sPc D t ([] : va_W) sz [.int v, .int lo, .int hi]) (qV D t ([] : va_W) (va_A ([] : va_W) sz)) 0 0 (va_A ([] : va_W) sz) := by
  refine met_of (Qf := fun A => qV D t ([] : va_W) A) (cc := cX2_needRange) (maxL := 3) (ret := none) (by decide) rfl (Nat.le_of_ble_eq_true rfl) ?_
  intro p e s m args below meth c A hx hb hr hml hts hown hlocks hA hP hK hD hE hS ls hl
  have htB : ∀ w ∈ BIG, w.before args s = true := fun w h => hts w (List.mem_cons_of_mem _ h)
  have hown : s.vm.findClass RX2 = some m.cls := hown
  have hl : lv_has ls 3 [(0, .int v), (1, .int lo), (2, .int hi)] := hl
  unfold fX2_needRange at h
  refine lv_iload_n hx hb dX2_needRange_0 rfl (lv_at hl 0 rfl) ?_
  refine lv_iload_n hx hb dX2_needRange_1 rfl (lv_at hl 1 rfl) ?_
  refine lv_icmp_lt (tgt := 10) hx hb dX2_needRange_2 (by decide) (fun c1 => ?_) (fun c1 => ?_)
  · have h := it_p c1 h
    cases h
  · have h := it_n c1 h
    refine lv_iload_n hx hb dX2_needRange_5 rfl (lv_at hl 0 rfl) ?_
    refine lv_iload_n hx hb dX2_needRange_6 rfl (lv_at hl 2 rfl) ?_
    refine lv_icmp_le (tgt := 21) hx hb dX2_needRange_7 (by decide) (fun c2 => ?_) (fun c2 => ?_)
    · have h := it_p c2 h
      obtain rfl := oi h
      exact ret_v hx hb hr hlocks hP hK hD hS dX2_needRange_21
    · have h := it_n c2 h
      cases h

theorem dX2_leastValue_0 : decode cX2_leastValue 0 = .ok (.iload_n 0, 1) := by decide +kernel
theorem dX2_leastValue_1 : decode cX2_leastValue 1 = .ok (.ifCond .eq 8, 3) := by decide +kernel
theorem dX2_leastValue_4 : decode cX2_leastValue 4 = .ok (.iload_n 0, 1) := by decide +kernel
theorem dX2_leastValue_5 : decode cX2_leastValue 5 = .ok (.iconst 2, 1) := by decide +kernel
theorem dX2_leastValue_6 : decode cX2_leastValue 6 = .ok (.if_icmp .ne 7, 3) := by decide +kernel
theorem dX2_leastValue_9 : decode cX2_leastValue 9 = .ok (.iconst 0, 1) := by decide +kernel
theorem dX2_leastValue_10 : decode cX2_leastValue 10 = .ok (.goto 4, 3) := by decide +kernel
theorem dX2_leastValue_13 : decode cX2_leastValue 13 = .ok (.iconst 1, 1) := by decide +kernel
theorem dX2_leastValue_14 : decode cX2_leastValue 14 = .ok (.ireturn, 1) := by decide +kernel
abbrev zX2_leastValue : List Cond := .code yX2_leastValue cX2_leastValue 1 (some .int) :: BIG
def fX2_leastValue (v : Int32) : Option (Int32) := (if v = 0 then some 0 else (if v = 2 then some 0 else some 1))
set_option maxHeartbeats 4000000 in
set_option maxRecDepth 100000 in
theorem mtX2_leastValue (l : Launch) (D : va_G) (t : Nat → ClassId) (v : Int32) (out : Int32) (h : fX2_leastValue v = some out)  (sz : Nat) : Met l yX2_leastValue zX2_leastValue ({ frames := 0, cells := 0, slots := 0, locals := 0 }) (sPc D t ([] : va_W) sz [.int v]) (qI D t ([] : va_W) out (va_A ([] : va_W) sz)) 0 0 (va_A ([] : va_W) sz) := by
  refine met_of (Qf := fun A => qI D t ([] : va_W) out A) (cc := cX2_leastValue) (maxL := 1) (ret := some .int) (by decide) rfl (Nat.le_of_ble_eq_true rfl) ?_
  intro p e s m args below meth c A hx hb hr hml hts hown hlocks hA hP hK hD hE hS ls hl
  have htB : ∀ w ∈ BIG, w.before args s = true := fun w h => hts w (List.mem_cons_of_mem _ h)
  have hown : s.vm.findClass RX2 = some m.cls := hown
  have hl : lv_has ls 1 [(0, .int v)] := hl
  unfold fX2_leastValue at h
  refine lv_iload_n hx hb dX2_leastValue_0 rfl (lv_at hl 0 rfl) ?_
  refine lv_if_eq (tgt := 9) hx hb dX2_leastValue_1 (by decide) (fun c1 => ?_) (fun c1 => ?_)
  · have h := it_p c1 h
    refine lv_iconst (v := 0) hx hb dX2_leastValue_9 (by decide) ?_
    refine lv_goto (tgt := 14) hx hb dX2_leastValue_10 (by decide) ?_
    obtain rfl := os h
    exact ret_i hx hb hr hlocks hP hK hD hS dX2_leastValue_14
  · have h := it_n c1 h
    refine lv_iload_n hx hb dX2_leastValue_4 rfl (lv_at hl 0 rfl) ?_
    refine lv_iconst (v := 2) hx hb dX2_leastValue_5 (by decide) ?_
    refine lv_icmp_ne (tgt := 13) hx hb dX2_leastValue_6 (by decide) (fun c2 => ?_) (fun c2 => ?_)
    · have h := it_n c2 h
      refine lv_iconst (v := 1) hx hb dX2_leastValue_13 (by decide) ?_
      obtain rfl := os h
      exact ret_i hx hb hr hlocks hP hK hD hS dX2_leastValue_14
    · have h := it_p c2 h
      refine lv_iconst (v := 0) hx hb dX2_leastValue_9 (by decide) ?_
      refine lv_goto (tgt := 14) hx hb dX2_leastValue_10 (by decide) ?_
      obtain rfl := os h
      exact ret_i hx hb hr hlocks hP hK hD hS dX2_leastValue_14

theorem dX2_mostValue_0 : decode cX2_mostValue 0 = .ok (.iload_n 0, 1) := by decide +kernel
theorem dX2_mostValue_1 : decode cX2_mostValue 1 = .ok (.lookupswitch 34 #[(0, 27), (2, 30)], 27) := by decide +kernel
theorem dX2_mostValue_28 : decode cX2_mostValue 28 = .ok (.bipush 20, 2) := by decide +kernel
theorem dX2_mostValue_30 : decode cX2_mostValue 30 = .ok (.ireturn, 1) := by decide +kernel
theorem dX2_mostValue_31 : decode cX2_mostValue 31 = .ok (.sipush 200, 3) := by decide +kernel
theorem dX2_mostValue_34 : decode cX2_mostValue 34 = .ok (.ireturn, 1) := by decide +kernel
theorem dX2_mostValue_35 : decode cX2_mostValue 35 = .ok (.bipush 99, 2) := by decide +kernel
theorem dX2_mostValue_37 : decode cX2_mostValue 37 = .ok (.ireturn, 1) := by decide +kernel
abbrev zX2_mostValue : List Cond := .code yX2_mostValue cX2_mostValue 1 (some .int) :: BIG
def fX2_mostValue (v : Int32) : Option (Int32) := (if v = 0 then some 20 else (if v = 2 then some 200 else some 99))
set_option maxHeartbeats 4000000 in
set_option maxRecDepth 100000 in
theorem mtX2_mostValue (l : Launch) (D : va_G) (t : Nat → ClassId) (v : Int32) (out : Int32) (h : fX2_mostValue v = some out)  (sz : Nat) : Met l yX2_mostValue zX2_mostValue ({ frames := 0, cells := 0, slots := 0, locals := 0 }) (sPc D t ([] : va_W) sz [.int v]) (qI D t ([] : va_W) out (va_A ([] : va_W) sz)) 0 0 (va_A ([] : va_W) sz) := by
  refine met_of (Qf := fun A => qI D t ([] : va_W) out A) (cc := cX2_mostValue) (maxL := 1) (ret := some .int) (by decide) rfl (Nat.le_of_ble_eq_true rfl) ?_
  intro p e s m args below meth c A hx hb hr hml hts hown hlocks hA hP hK hD hE hS ls hl
  have htB : ∀ w ∈ BIG, w.before args s = true := fun w h => hts w (List.mem_cons_of_mem _ h)
  have hown : s.vm.findClass RX2 = some m.cls := hown
  have hl : lv_has ls 1 [(0, .int v)] := hl
  unfold fX2_mostValue at h
  refine lv_iload_n hx hb dX2_mostValue_0 rfl (lv_at hl 0 rfl) ?_
  by_cases c1 : v = 0
  · have h := it_p c1 h
    refine lv_lookup (off := 27) (tgt := 28) hx hb dX2_mostValue_1 (by decide) (by rw [c1]; decide) (by decide) ?_
    refine lv_bipush (v := 20) hx hb dX2_mostValue_28 (by decide) ?_
    obtain rfl := os h
    exact ret_i hx hb hr hlocks hP hK hD hS dX2_mostValue_30
  · have h := it_n c1 h
    by_cases c2 : v = 2
    · have h := it_p c2 h
      refine lv_lookup (off := 30) (tgt := 31) hx hb dX2_mostValue_1 (by decide) (by rw [c2]; decide) (by decide) ?_
      refine lv_sipush (v := 200) hx hb dX2_mostValue_31 (by decide) ?_
      obtain rfl := os h
      exact ret_i hx hb hr hlocks hP hK hD hS dX2_mostValue_34
    · have h := it_n c2 h
      refine lv_lookup (off := 34) (tgt := 35) hx hb dX2_mostValue_1 (by decide) (lk_out2 (lk_ne (by decide) c1) (lk_ne (by decide) c2)) (by decide) ?_
      refine lv_bipush (v := 99) hx hb dX2_mostValue_35 (by decide) ?_
      obtain rfl := os h
      exact ret_i hx hb hr hlocks hP hK hD hS dX2_mostValue_37

theorem dX2_placeAfterFirst_0 : decode cX2_placeAfterFirst 0 = .ok (.iload_n 0, 1) := by decide +kernel
theorem dX2_placeAfterFirst_1 : decode cX2_placeAfterFirst 1 = .ok (.bipush 119, 2) := by decide +kernel
theorem dX2_placeAfterFirst_3 : decode cX2_placeAfterFirst 3 = .ok (.if_icmp .ne 5, 3) := by decide +kernel
theorem dX2_placeAfterFirst_6 : decode cX2_placeAfterFirst 6 = .ok (.iconst 4, 1) := by decide +kernel
theorem dX2_placeAfterFirst_7 : decode cX2_placeAfterFirst 7 = .ok (.ireturn, 1) := by decide +kernel
theorem dX2_placeAfterFirst_8 : decode cX2_placeAfterFirst 8 = .ok (.iload_n 0, 1) := by decide +kernel
theorem dX2_placeAfterFirst_9 : decode cX2_placeAfterFirst 9 = .ok (.bipush 99, 2) := by decide +kernel
theorem dX2_placeAfterFirst_11 : decode cX2_placeAfterFirst 11 = .ok (.if_icmp .ne 6, 3) := by decide +kernel
theorem dX2_placeAfterFirst_14 : decode cX2_placeAfterFirst 14 = .ok (.bipush 8, 2) := by decide +kernel
theorem dX2_placeAfterFirst_16 : decode cX2_placeAfterFirst 16 = .ok (.ireturn, 1) := by decide +kernel
theorem dX2_placeAfterFirst_17 : decode cX2_placeAfterFirst 17 = .ok (.iload_n 0, 1) := by decide +kernel
theorem dX2_placeAfterFirst_18 : decode cX2_placeAfterFirst 18 = .ok (.bipush 48, 2) := by decide +kernel
theorem dX2_placeAfterFirst_20 : decode cX2_placeAfterFirst 20 = .ok (.if_icmp .lt 13, 3) := by decide +kernel
theorem dX2_placeAfterFirst_23 : decode cX2_placeAfterFirst 23 = .ok (.iload_n 0, 1) := by decide +kernel
theorem dX2_placeAfterFirst_24 : decode cX2_placeAfterFirst 24 = .ok (.bipush 54, 2) := by decide +kernel
theorem dX2_placeAfterFirst_26 : decode cX2_placeAfterFirst 26 = .ok (.if_icmp .ge 7, 3) := by decide +kernel
theorem dX2_placeAfterFirst_29 : decode cX2_placeAfterFirst 29 = .ok (.iconst 1, 1) := by decide +kernel
theorem dX2_placeAfterFirst_30 : decode cX2_placeAfterFirst 30 = .ok (.goto 5, 3) := by decide +kernel
theorem dX2_placeAfterFirst_33 : decode cX2_placeAfterFirst 33 = .ok (.bipush 9, 2) := by decide +kernel
theorem dX2_placeAfterFirst_35 : decode cX2_placeAfterFirst 35 = .ok (.ireturn, 1) := by decide +kernel
abbrev zX2_placeAfterFirst : List Cond := .code yX2_placeAfterFirst cX2_placeAfterFirst 1 (some .int) :: BIG
def fX2_placeAfterFirst (v : Int32) : Option (Int32) := (if v = 119 then some 4 else (if v = 99 then some 8 else (if v < 48 then some 9 else (if 54 ≤ v then some 9 else some 1))))
set_option maxHeartbeats 4000000 in
set_option maxRecDepth 100000 in
theorem mtX2_placeAfterFirst (l : Launch) (D : va_G) (t : Nat → ClassId) (v : Int32) (out : Int32) (h : fX2_placeAfterFirst v = some out)  (sz : Nat) : Met l yX2_placeAfterFirst zX2_placeAfterFirst ({ frames := 0, cells := 0, slots := 0, locals := 0 }) (sPc D t ([] : va_W) sz [.int v]) (qI D t ([] : va_W) out (va_A ([] : va_W) sz)) 0 0 (va_A ([] : va_W) sz) := by
  refine met_of (Qf := fun A => qI D t ([] : va_W) out A) (cc := cX2_placeAfterFirst) (maxL := 1) (ret := some .int) (by decide) rfl (Nat.le_of_ble_eq_true rfl) ?_
  intro p e s m args below meth c A hx hb hr hml hts hown hlocks hA hP hK hD hE hS ls hl
  have htB : ∀ w ∈ BIG, w.before args s = true := fun w h => hts w (List.mem_cons_of_mem _ h)
  have hown : s.vm.findClass RX2 = some m.cls := hown
  have hl : lv_has ls 1 [(0, .int v)] := hl
  unfold fX2_placeAfterFirst at h
  refine lv_iload_n hx hb dX2_placeAfterFirst_0 rfl (lv_at hl 0 rfl) ?_
  refine lv_bipush (v := 119) hx hb dX2_placeAfterFirst_1 (by decide) ?_
  refine lv_icmp_ne (tgt := 8) hx hb dX2_placeAfterFirst_3 (by decide) (fun c1 => ?_) (fun c1 => ?_)
  · have h := it_n c1 h
    refine lv_iload_n hx hb dX2_placeAfterFirst_8 rfl (lv_at hl 0 rfl) ?_
    refine lv_bipush (v := 99) hx hb dX2_placeAfterFirst_9 (by decide) ?_
    refine lv_icmp_ne (tgt := 17) hx hb dX2_placeAfterFirst_11 (by decide) (fun c2 => ?_) (fun c2 => ?_)
    · have h := it_n c2 h
      refine lv_iload_n hx hb dX2_placeAfterFirst_17 rfl (lv_at hl 0 rfl) ?_
      refine lv_bipush (v := 48) hx hb dX2_placeAfterFirst_18 (by decide) ?_
      refine lv_icmp_lt (tgt := 33) hx hb dX2_placeAfterFirst_20 (by decide) (fun c3 => ?_) (fun c3 => ?_)
      · have h := it_p c3 h
        refine lv_bipush (v := 9) hx hb dX2_placeAfterFirst_33 (by decide) ?_
        obtain rfl := os h
        exact ret_i hx hb hr hlocks hP hK hD hS dX2_placeAfterFirst_35
      · have h := it_n c3 h
        refine lv_iload_n hx hb dX2_placeAfterFirst_23 rfl (lv_at hl 0 rfl) ?_
        refine lv_bipush (v := 54) hx hb dX2_placeAfterFirst_24 (by decide) ?_
        refine lv_icmp_ge (tgt := 33) hx hb dX2_placeAfterFirst_26 (by decide) (fun c4 => ?_) (fun c4 => ?_)
        · have h := it_p c4 h
          refine lv_bipush (v := 9) hx hb dX2_placeAfterFirst_33 (by decide) ?_
          obtain rfl := os h
          exact ret_i hx hb hr hlocks hP hK hD hS dX2_placeAfterFirst_35
        · have h := it_n c4 h
          refine lv_iconst (v := 1) hx hb dX2_placeAfterFirst_29 (by decide) ?_
          refine lv_goto (tgt := 35) hx hb dX2_placeAfterFirst_30 (by decide) ?_
          obtain rfl := os h
          exact ret_i hx hb hr hlocks hP hK hD hS dX2_placeAfterFirst_35
    · have h := it_p c2 h
      refine lv_bipush (v := 8) hx hb dX2_placeAfterFirst_14 (by decide) ?_
      obtain rfl := os h
      exact ret_i hx hb hr hlocks hP hK hD hS dX2_placeAfterFirst_16
  · have h := it_p c1 h
    refine lv_iconst (v := 4) hx hb dX2_placeAfterFirst_6 (by decide) ?_
    obtain rfl := os h
    exact ret_i hx hb hr hlocks hP hK hD hS dX2_placeAfterFirst_7

theorem dX2_placeAfterPart_0 : decode cX2_placeAfterPart 0 = .ok (.iload_n 0, 1) := by decide +kernel
theorem dX2_placeAfterPart_1 : decode cX2_placeAfterPart 1 = .ok (.bipush 59, 2) := by decide +kernel
theorem dX2_placeAfterPart_3 : decode cX2_placeAfterPart 3 = .ok (.if_icmp .ne 7, 3) := by decide +kernel
theorem dX2_placeAfterPart_6 : decode cX2_placeAfterPart 6 = .ok (.iconst 0, 1) := by decide +kernel
theorem dX2_placeAfterPart_7 : decode cX2_placeAfterPart 7 = .ok (.goto 5, 3) := by decide +kernel
theorem dX2_placeAfterPart_10 : decode cX2_placeAfterPart 10 = .ok (.bipush 9, 2) := by decide +kernel
theorem dX2_placeAfterPart_12 : decode cX2_placeAfterPart 12 = .ok (.ireturn, 1) := by decide +kernel
abbrev zX2_placeAfterPart : List Cond := .code yX2_placeAfterPart cX2_placeAfterPart 1 (some .int) :: BIG
def fX2_placeAfterPart (v : Int32) : Option (Int32) := (if v = 59 then some 0 else some 9)
set_option maxHeartbeats 4000000 in
set_option maxRecDepth 100000 in
theorem mtX2_placeAfterPart (l : Launch) (D : va_G) (t : Nat → ClassId) (v : Int32) (out : Int32) (h : fX2_placeAfterPart v = some out)  (sz : Nat) : Met l yX2_placeAfterPart zX2_placeAfterPart ({ frames := 0, cells := 0, slots := 0, locals := 0 }) (sPc D t ([] : va_W) sz [.int v]) (qI D t ([] : va_W) out (va_A ([] : va_W) sz)) 0 0 (va_A ([] : va_W) sz) := by
  refine met_of (Qf := fun A => qI D t ([] : va_W) out A) (cc := cX2_placeAfterPart) (maxL := 1) (ret := some .int) (by decide) rfl (Nat.le_of_ble_eq_true rfl) ?_
  intro p e s m args below meth c A hx hb hr hml hts hown hlocks hA hP hK hD hE hS ls hl
  have htB : ∀ w ∈ BIG, w.before args s = true := fun w h => hts w (List.mem_cons_of_mem _ h)
  have hown : s.vm.findClass RX2 = some m.cls := hown
  have hl : lv_has ls 1 [(0, .int v)] := hl
  unfold fX2_placeAfterPart at h
  refine lv_iload_n hx hb dX2_placeAfterPart_0 rfl (lv_at hl 0 rfl) ?_
  refine lv_bipush (v := 59) hx hb dX2_placeAfterPart_1 (by decide) ?_
  refine lv_icmp_ne (tgt := 10) hx hb dX2_placeAfterPart_3 (by decide) (fun c1 => ?_) (fun c1 => ?_)
  · have h := it_n c1 h
    refine lv_bipush (v := 9) hx hb dX2_placeAfterPart_10 (by decide) ?_
    obtain rfl := os h
    exact ret_i hx hb hr hlocks hP hK hD hS dX2_placeAfterPart_12
  · have h := it_p c1 h
    refine lv_iconst (v := 0) hx hb dX2_placeAfterPart_6 (by decide) ?_
    refine lv_goto (tgt := 12) hx hb dX2_placeAfterPart_7 (by decide) ?_
    obtain rfl := os h
    exact ret_i hx hb hr hlocks hP hK hD hS dX2_placeAfterPart_12

theorem dX2_isCurtainDigit_0 : decode cX2_isCurtainDigit 0 = .ok (.iload_n 0, 1) := by decide +kernel
theorem dX2_isCurtainDigit_1 : decode cX2_isCurtainDigit 1 = .ok (.bipush 48, 2) := by decide +kernel
theorem dX2_isCurtainDigit_3 : decode cX2_isCurtainDigit 3 = .ok (.if_icmp .lt 13, 3) := by decide +kernel
theorem dX2_isCurtainDigit_6 : decode cX2_isCurtainDigit 6 = .ok (.iload_n 0, 1) := by decide +kernel
theorem dX2_isCurtainDigit_7 : decode cX2_isCurtainDigit 7 = .ok (.bipush 50, 2) := by decide +kernel
theorem dX2_isCurtainDigit_9 : decode cX2_isCurtainDigit 9 = .ok (.if_icmp .ge 7, 3) := by decide +kernel
theorem dX2_isCurtainDigit_12 : decode cX2_isCurtainDigit 12 = .ok (.iconst 1, 1) := by decide +kernel
theorem dX2_isCurtainDigit_13 : decode cX2_isCurtainDigit 13 = .ok (.goto 4, 3) := by decide +kernel
theorem dX2_isCurtainDigit_16 : decode cX2_isCurtainDigit 16 = .ok (.iconst 0, 1) := by decide +kernel
theorem dX2_isCurtainDigit_17 : decode cX2_isCurtainDigit 17 = .ok (.ireturn, 1) := by decide +kernel
abbrev zX2_isCurtainDigit : List Cond := .code yX2_isCurtainDigit cX2_isCurtainDigit 1 (some .boolean) :: BIG
def fX2_isCurtainDigit (v : Int32) : Option (Bool) := (if v < 48 then some false else (if 50 ≤ v then some false else some true))
set_option maxHeartbeats 4000000 in
set_option maxRecDepth 100000 in
theorem mtX2_isCurtainDigit (l : Launch) (D : va_G) (t : Nat → ClassId) (v : Int32) (out : Bool) (h : fX2_isCurtainDigit v = some out)  (sz : Nat) : Met l yX2_isCurtainDigit zX2_isCurtainDigit ({ frames := 0, cells := 0, slots := 0, locals := 0 }) (sPc D t ([] : va_W) sz [.int v]) (qI D t ([] : va_W) (b2i out) (va_A ([] : va_W) sz)) 0 0 (va_A ([] : va_W) sz) := by
  refine met_of (Qf := fun A => qI D t ([] : va_W) (b2i out) A) (cc := cX2_isCurtainDigit) (maxL := 1) (ret := some .boolean) (by decide) rfl (Nat.le_of_ble_eq_true rfl) ?_
  intro p e s m args below meth c A hx hb hr hml hts hown hlocks hA hP hK hD hE hS ls hl
  have htB : ∀ w ∈ BIG, w.before args s = true := fun w h => hts w (List.mem_cons_of_mem _ h)
  have hown : s.vm.findClass RX2 = some m.cls := hown
  have hl : lv_has ls 1 [(0, .int v)] := hl
  unfold fX2_isCurtainDigit at h
  refine lv_iload_n hx hb dX2_isCurtainDigit_0 rfl (lv_at hl 0 rfl) ?_
  refine lv_bipush (v := 48) hx hb dX2_isCurtainDigit_1 (by decide) ?_
  refine lv_icmp_lt (tgt := 16) hx hb dX2_isCurtainDigit_3 (by decide) (fun c1 => ?_) (fun c1 => ?_)
  · have h := it_p c1 h
    refine lv_iconst (v := 0) hx hb dX2_isCurtainDigit_16 (by decide) ?_
    obtain rfl := os h
    exact ret_z hx hb hr hlocks hP hK hD hS dX2_isCurtainDigit_17
  · have h := it_n c1 h
    refine lv_iload_n hx hb dX2_isCurtainDigit_6 rfl (lv_at hl 0 rfl) ?_
    refine lv_bipush (v := 50) hx hb dX2_isCurtainDigit_7 (by decide) ?_
    refine lv_icmp_ge (tgt := 16) hx hb dX2_isCurtainDigit_9 (by decide) (fun c2 => ?_) (fun c2 => ?_)
    · have h := it_p c2 h
      refine lv_iconst (v := 0) hx hb dX2_isCurtainDigit_16 (by decide) ?_
      obtain rfl := os h
      exact ret_z hx hb hr hlocks hP hK hD hS dX2_isCurtainDigit_17
    · have h := it_n c2 h
      refine lv_iconst (v := 1) hx hb dX2_isCurtainDigit_12 (by decide) ?_
      refine lv_goto (tgt := 17) hx hb dX2_isCurtainDigit_13 (by decide) ?_
      obtain rfl := os h
      exact ret_z hx hb hr hlocks hP hK hD hS dX2_isCurtainDigit_17

theorem dX2_placeAfter_0 : decode cX2_placeAfter 0 = .ok (.iload_n 0, 1) := by decide +kernel
theorem dX2_placeAfter_1 : decode cX2_placeAfter 1 = .ok (.tableswitch 178 0 8 #[51, 56, 71, 90, 95, 109, 123, 143, 164], 51) := by decide +kernel
theorem dX2_placeAfter_52 : decode cX2_placeAfter 52 = .ok (.iload_n 1, 1) := by decide +kernel
theorem dX2_placeAfter_53 : decode cX2_placeAfter 53 = .ok (.invokestatic 271, 3) := by decide +kernel
theorem dX2_placeAfter_56 : decode cX2_placeAfter 56 = .ok (.ireturn, 1) := by decide +kernel
theorem dX2_placeAfter_57 : decode cX2_placeAfter 57 = .ok (.iload_n 1, 1) := by decide +kernel
theorem dX2_placeAfter_58 : decode cX2_placeAfter 58 = .ok (.bipush 42, 2) := by decide +kernel
theorem dX2_placeAfter_60 : decode cX2_placeAfter 60 = .ok (.if_icmp .ne 7, 3) := by decide +kernel
theorem dX2_placeAfter_63 : decode cX2_placeAfter 63 = .ok (.iconst 2, 1) := by decide +kernel
theorem dX2_placeAfter_64 : decode cX2_placeAfter 64 = .ok (.goto 7, 3) := by decide +kernel
theorem dX2_placeAfter_67 : decode cX2_placeAfter 67 = .ok (.iload_n 1, 1) := by decide +kernel
theorem dX2_placeAfter_68 : decode cX2_placeAfter 68 = .ok (.invokestatic 274, 3) := by decide +kernel
theorem dX2_placeAfter_71 : decode cX2_placeAfter 71 = .ok (.ireturn, 1) := by decide +kernel
theorem dX2_placeAfter_72 : decode cX2_placeAfter 72 = .ok (.iload_n 1, 1) := by decide +kernel
theorem dX2_placeAfter_73 : decode cX2_placeAfter 73 = .ok (.bipush 50, 2) := by decide +kernel
theorem dX2_placeAfter_75 : decode cX2_placeAfter 75 = .ok (.if_icmp .lt 13, 3) := by decide +kernel
theorem dX2_placeAfter_78 : decode cX2_placeAfter 78 = .ok (.iload_n 1, 1) := by decide +kernel
theorem dX2_placeAfter_79 : decode cX2_placeAfter 79 = .ok (.bipush 57, 2) := by decide +kernel
theorem dX2_placeAfter_81 : decode cX2_placeAfter 81 = .ok (.if_icmp .gt 7, 3) := by decide +kernel
theorem dX2_placeAfter_84 : decode cX2_placeAfter 84 = .ok (.iconst 3, 1) := by decide +kernel
theorem dX2_placeAfter_85 : decode cX2_placeAfter 85 = .ok (.goto 5, 3) := by decide +kernel
theorem dX2_placeAfter_88 : decode cX2_placeAfter 88 = .ok (.bipush 9, 2) := by decide +kernel
theorem dX2_placeAfter_90 : decode cX2_placeAfter 90 = .ok (.ireturn, 1) := by decide +kernel
theorem dX2_placeAfter_91 : decode cX2_placeAfter 91 = .ok (.iload_n 1, 1) := by decide +kernel
theorem dX2_placeAfter_92 : decode cX2_placeAfter 92 = .ok (.invokestatic 274, 3) := by decide +kernel
theorem dX2_placeAfter_95 : decode cX2_placeAfter 95 = .ok (.ireturn, 1) := by decide +kernel
theorem dX2_placeAfter_96 : decode cX2_placeAfter 96 = .ok (.iload_n 1, 1) := by decide +kernel
theorem dX2_placeAfter_97 : decode cX2_placeAfter 97 = .ok (.invokestatic 277, 3) := by decide +kernel
theorem dX2_placeAfter_100 : decode cX2_placeAfter 100 = .ok (.ifCond .eq 7, 3) := by decide +kernel
theorem dX2_placeAfter_103 : decode cX2_placeAfter 103 = .ok (.iconst 5, 1) := by decide +kernel
theorem dX2_placeAfter_104 : decode cX2_placeAfter 104 = .ok (.goto 5, 3) := by decide +kernel
theorem dX2_placeAfter_107 : decode cX2_placeAfter 107 = .ok (.bipush 9, 2) := by decide +kernel
theorem dX2_placeAfter_109 : decode cX2_placeAfter 109 = .ok (.ireturn, 1) := by decide +kernel
theorem dX2_placeAfter_110 : decode cX2_placeAfter 110 = .ok (.iload_n 1, 1) := by decide +kernel
theorem dX2_placeAfter_111 : decode cX2_placeAfter 111 = .ok (.bipush 58, 2) := by decide +kernel
theorem dX2_placeAfter_113 : decode cX2_placeAfter 113 = .ok (.if_icmp .ne 8, 3) := by decide +kernel
theorem dX2_placeAfter_116 : decode cX2_placeAfter 116 = .ok (.bipush 6, 2) := by decide +kernel
theorem dX2_placeAfter_118 : decode cX2_placeAfter 118 = .ok (.goto 5, 3) := by decide +kernel
theorem dX2_placeAfter_121 : decode cX2_placeAfter 121 = .ok (.bipush 9, 2) := by decide +kernel
theorem dX2_placeAfter_123 : decode cX2_placeAfter 123 = .ok (.ireturn, 1) := by decide +kernel
theorem dX2_placeAfter_124 : decode cX2_placeAfter 124 = .ok (.iload_n 1, 1) := by decide +kernel
theorem dX2_placeAfter_125 : decode cX2_placeAfter 125 = .ok (.bipush 49, 2) := by decide +kernel
theorem dX2_placeAfter_127 : decode cX2_placeAfter 127 = .ok (.if_icmp .lt 14, 3) := by decide +kernel
theorem dX2_placeAfter_130 : decode cX2_placeAfter 130 = .ok (.iload_n 1, 1) := by decide +kernel
theorem dX2_placeAfter_131 : decode cX2_placeAfter 131 = .ok (.bipush 57, 2) := by decide +kernel
theorem dX2_placeAfter_133 : decode cX2_placeAfter 133 = .ok (.if_icmp .gt 8, 3) := by decide +kernel
theorem dX2_placeAfter_136 : decode cX2_placeAfter 136 = .ok (.bipush 7, 2) := by decide +kernel
theorem dX2_placeAfter_138 : decode cX2_placeAfter 138 = .ok (.goto 5, 3) := by decide +kernel
theorem dX2_placeAfter_141 : decode cX2_placeAfter 141 = .ok (.bipush 9, 2) := by decide +kernel
theorem dX2_placeAfter_143 : decode cX2_placeAfter 143 = .ok (.ireturn, 1) := by decide +kernel
theorem dX2_placeAfter_144 : decode cX2_placeAfter 144 = .ok (.iload_n 1, 1) := by decide +kernel
theorem dX2_placeAfter_145 : decode cX2_placeAfter 145 = .ok (.bipush 48, 2) := by decide +kernel
theorem dX2_placeAfter_147 : decode cX2_placeAfter 147 = .ok (.if_icmp .lt 13, 3) := by decide +kernel
theorem dX2_placeAfter_150 : decode cX2_placeAfter 150 = .ok (.iload_n 1, 1) := by decide +kernel
theorem dX2_placeAfter_151 : decode cX2_placeAfter 151 = .ok (.bipush 57, 2) := by decide +kernel
theorem dX2_placeAfter_153 : decode cX2_placeAfter 153 = .ok (.if_icmp .gt 7, 3) := by decide +kernel
theorem dX2_placeAfter_156 : decode cX2_placeAfter 156 = .ok (.iconst 3, 1) := by decide +kernel
theorem dX2_placeAfter_157 : decode cX2_placeAfter 157 = .ok (.goto 7, 3) := by decide +kernel
theorem dX2_placeAfter_160 : decode cX2_placeAfter 160 = .ok (.iload_n 1, 1) := by decide +kernel
theorem dX2_placeAfter_161 : decode cX2_placeAfter 161 = .ok (.invokestatic 274, 3) := by decide +kernel
theorem dX2_placeAfter_164 : decode cX2_placeAfter 164 = .ok (.ireturn, 1) := by decide +kernel
theorem dX2_placeAfter_165 : decode cX2_placeAfter 165 = .ok (.iload_n 1, 1) := by decide +kernel
theorem dX2_placeAfter_166 : decode cX2_placeAfter 166 = .ok (.invokestatic 277, 3) := by decide +kernel
theorem dX2_placeAfter_169 : decode cX2_placeAfter 169 = .ok (.ifCond .eq 7, 3) := by decide +kernel
theorem dX2_placeAfter_172 : decode cX2_placeAfter 172 = .ok (.iconst 3, 1) := by decide +kernel
theorem dX2_placeAfter_173 : decode cX2_placeAfter 173 = .ok (.goto 5, 3) := by decide +kernel
theorem dX2_placeAfter_176 : decode cX2_placeAfter 176 = .ok (.bipush 9, 2) := by decide +kernel
theorem dX2_placeAfter_178 : decode cX2_placeAfter 178 = .ok (.ireturn, 1) := by decide +kernel
theorem dX2_placeAfter_179 : decode cX2_placeAfter 179 = .ok (.bipush 9, 2) := by decide +kernel
theorem dX2_placeAfter_181 : decode cX2_placeAfter 181 = .ok (.ireturn, 1) := by decide +kernel
abbrev zX2_placeAfter : List Cond := .code yX2_placeAfter cX2_placeAfter 2 (some .int) :: BIG
def fX2_placeAfter (p0 : Int32) (v : Int32) : Option (Int32) := (if p0 = 0 then (fX2_placeAfterFirst v).bind (fun r2 => some r2) else (if p0 = 1 then (if v = 42 then some 2 else (fX2_placeAfterPart v).bind (fun r5 => some r5)) else (if p0 = 2 then (if v < 50 then some 9 else (if 57 < v then some 9 else some 3)) else (if p0 = 3 then (fX2_placeAfterPart v).bind (fun r10 => some r10) else (if p0 = 4 then (fX2_isCurtainDigit v).bind (fun r12 => (if (b2i r12) = 0 then some 9 else some 5)) else (if p0 = 5 then (if v = 58 then some 6 else some 9) else (if p0 = 6 then (if v < 49 then some 9 else (if 57 < v then some 9 else some 7)) else (if p0 = 7 then (if v < 48 then (fX2_placeAfterPart v).bind (fun r21 => some r21) else (if 57 < v then (fX2_placeAfterPart v).bind (fun r23 => some r23) else some 3)) else (if p0 = 8 then (fX2_isCurtainDigit v).bind (fun r25 => (if (b2i r25) = 0 then some 9 else some 3)) else some 9)))))))))
set_option maxHeartbeats 4000000 in
set_option maxRecDepth 100000 in
theorem mtX2_placeAfter (l : Launch) (D : va_G) (t : Nat → ClassId) (p0 : Int32) (v : Int32) (out : Int32) (h : fX2_placeAfter p0 v = some out)  (sz : Nat) : Met l yX2_placeAfter zX2_placeAfter ({ frames := 1, cells := 0, slots := 0, locals := 20 }) (sPc D t ([] : va_W) sz [.int p0, .int v]) (qI D t ([] : va_W) out (va_A ([] : va_W) sz)) 0 0 (va_A ([] : va_W) sz) := by
  refine met_of (Qf := fun A => qI D t ([] : va_W) out A) (cc := cX2_placeAfter) (maxL := 2) (ret := some .int) (by decide) rfl (Nat.le_of_ble_eq_true rfl) ?_
  intro p e s m args below meth c A hx hb hr hml hts hown hlocks hA hP hK hD hE hS ls hl
  have htB : ∀ w ∈ BIG, w.before args s = true := fun w h => hts w (List.mem_cons_of_mem _ h)
  have hown : s.vm.findClass RX2 = some m.cls := hown
  have hl : lv_has ls 2 [(0, .int p0), (1, .int v)] := hl
  unfold fX2_placeAfter at h
  refine lv_iload_n hx hb dX2_placeAfter_0 rfl (lv_at hl 0 rfl) ?_
  by_cases c1 : p0 = 0
  · have h := it_p c1 h
    refine lv_tableIn (off := 51) (tgt := 52) hx hb dX2_placeAfter_1 (by rw [c1]; decide) (by rw [c1]; decide) (by rw [c1]; rfl) (by decide) ?_
    refine lv_iload_n hx hb dX2_placeAfter_52 rfl (lv_at hl 1 rfl) ?_
    obtain ⟨r2, h2, h⟩ := ob h
    refine call_i (v := r2) (wc := ([] : va_W)) (wc' := ([] : va_W)) (ws' := ([] : va_W)) (cutB (bs := []) (cs := []) (cs' := []) (bs' := []) [] hP hD hS hA rfl rfl rfl rfl) hS (fun hPc hDc => va_runS (As := [.int v]) (rest := []) ⟨hx, hb, hml, hown, hts⟩ (mtX2_placeAfterFirst l D t v r2 h2 _) (va_cwS 1 hts (gBS kw348 kw349 kw2 kw350) rfl rfl rfl (by decide +kernel) ⟨Nat.le_of_ble_eq_true rfl, Nat.le_of_ble_eq_true rfl⟩) (sPc_S hPc hK hDc hE) rfl rfl hl.1 rfl (lv_room (Nat.le_of_ble_eq_true rfl)) dX2_placeAfter_53 ⟨Nat.zero_le _, Nat.zero_le _⟩) (fun H locs hP hD hS => ?_)
    obtain rfl := os h
    exact ret_i hx hb hr hlocks hP hK hD hS dX2_placeAfter_56
  · have h := it_n c1 h
    by_cases c3 : p0 = 1
    · have h := it_p c3 h
      refine lv_tableIn (off := 56) (tgt := 57) hx hb dX2_placeAfter_1 (by rw [c3]; decide) (by rw [c3]; decide) (by rw [c3]; rfl) (by decide) ?_
      refine lv_iload_n hx hb dX2_placeAfter_57 rfl (lv_at hl 1 rfl) ?_
      refine lv_bipush (v := 42) hx hb dX2_placeAfter_58 (by decide) ?_
      refine lv_icmp_ne (tgt := 67) hx hb dX2_placeAfter_60 (by decide) (fun c4 => ?_) (fun c4 => ?_)
      · have h := it_n c4 h
        refine lv_iload_n hx hb dX2_placeAfter_67 rfl (lv_at hl 1 rfl) ?_
        obtain ⟨r5, h5, h⟩ := ob h
        refine call_i (v := r5) (wc := ([] : va_W)) (wc' := ([] : va_W)) (ws' := ([] : va_W)) (cutB (bs := []) (cs := []) (cs' := []) (bs' := []) [] hP hD hS hA rfl rfl rfl rfl) hS (fun hPc hDc => va_runS (As := [.int v]) (rest := []) ⟨hx, hb, hml, hown, hts⟩ (mtX2_placeAfterPart l D t v r5 h5 _) (va_cwS 1 hts (gBS kw351 kw352 kw2 kw353) rfl rfl rfl (by decide +kernel) ⟨Nat.le_of_ble_eq_true rfl, Nat.le_of_ble_eq_true rfl⟩) (sPc_S hPc hK hDc hE) rfl rfl hl.1 rfl (lv_room (Nat.le_of_ble_eq_true rfl)) dX2_placeAfter_68 ⟨Nat.zero_le _, Nat.zero_le _⟩) (fun H locs hP hD hS => ?_)
        obtain rfl := os h
        exact ret_i hx hb hr hlocks hP hK hD hS dX2_placeAfter_71
      · have h := it_p c4 h
        refine lv_iconst (v := 2) hx hb dX2_placeAfter_63 (by decide) ?_
        refine lv_goto (tgt := 71) hx hb dX2_placeAfter_64 (by decide) ?_
        obtain rfl := os h
        exact ret_i hx hb hr hlocks hP hK hD hS dX2_placeAfter_71
    · have h := it_n c3 h
      by_cases c6 : p0 = 2
      · have h := it_p c6 h
        refine lv_tableIn (off := 71) (tgt := 72) hx hb dX2_placeAfter_1 (by rw [c6]; decide) (by rw [c6]; decide) (by rw [c6]; rfl) (by decide) ?_
        refine lv_iload_n hx hb dX2_placeAfter_72 rfl (lv_at hl 1 rfl) ?_
        refine lv_bipush (v := 50) hx hb dX2_placeAfter_73 (by decide) ?_
        refine lv_icmp_lt (tgt := 88) hx hb dX2_placeAfter_75 (by decide) (fun c7 => ?_) (fun c7 => ?_)
        · have h := it_p c7 h
          refine lv_bipush (v := 9) hx hb dX2_placeAfter_88 (by decide) ?_
          obtain rfl := os h
          exact ret_i hx hb hr hlocks hP hK hD hS dX2_placeAfter_90
        · have h := it_n c7 h
          refine lv_iload_n hx hb dX2_placeAfter_78 rfl (lv_at hl 1 rfl) ?_
          refine lv_bipush (v := 57) hx hb dX2_placeAfter_79 (by decide) ?_
          refine lv_icmp_gt (tgt := 88) hx hb dX2_placeAfter_81 (by decide) (fun c8 => ?_) (fun c8 => ?_)
          · have h := it_p c8 h
            refine lv_bipush (v := 9) hx hb dX2_placeAfter_88 (by decide) ?_
            obtain rfl := os h
            exact ret_i hx hb hr hlocks hP hK hD hS dX2_placeAfter_90
          · have h := it_n c8 h
            refine lv_iconst (v := 3) hx hb dX2_placeAfter_84 (by decide) ?_
            refine lv_goto (tgt := 90) hx hb dX2_placeAfter_85 (by decide) ?_
            obtain rfl := os h
            exact ret_i hx hb hr hlocks hP hK hD hS dX2_placeAfter_90
      · have h := it_n c6 h
        by_cases c9 : p0 = 3
        · have h := it_p c9 h
          refine lv_tableIn (off := 90) (tgt := 91) hx hb dX2_placeAfter_1 (by rw [c9]; decide) (by rw [c9]; decide) (by rw [c9]; rfl) (by decide) ?_
          refine lv_iload_n hx hb dX2_placeAfter_91 rfl (lv_at hl 1 rfl) ?_
          obtain ⟨r10, h10, h⟩ := ob h
          refine call_i (v := r10) (wc := ([] : va_W)) (wc' := ([] : va_W)) (ws' := ([] : va_W)) (cutB (bs := []) (cs := []) (cs' := []) (bs' := []) [] hP hD hS hA rfl rfl rfl rfl) hS (fun hPc hDc => va_runS (As := [.int v]) (rest := []) ⟨hx, hb, hml, hown, hts⟩ (mtX2_placeAfterPart l D t v r10 h10 _) (va_cwS 1 hts (gBS kw351 kw352 kw2 kw353) rfl rfl rfl (by decide +kernel) ⟨Nat.le_of_ble_eq_true rfl, Nat.le_of_ble_eq_true rfl⟩) (sPc_S hPc hK hDc hE) rfl rfl hl.1 rfl (lv_room (Nat.le_of_ble_eq_true rfl)) dX2_placeAfter_92 ⟨Nat.zero_le _, Nat.zero_le _⟩) (fun H locs hP hD hS => ?_)
          obtain rfl := os h
          exact ret_i hx hb hr hlocks hP hK hD hS dX2_placeAfter_95
        · have h := it_n c9 h
          by_cases c11 : p0 = 4
          · have h := it_p c11 h
            refine lv_tableIn (off := 95) (tgt := 96) hx hb dX2_placeAfter_1 (by rw [c11]; decide) (by rw [c11]; decide) (by rw [c11]; rfl) (by decide) ?_
            refine lv_iload_n hx hb dX2_placeAfter_96 rfl (lv_at hl 1 rfl) ?_
            obtain ⟨r12, h12, h⟩ := ob h
            refine call_i (v := b2i r12) (wc := ([] : va_W)) (wc' := ([] : va_W)) (ws' := ([] : va_W)) (cutB (bs := []) (cs := []) (cs' := []) (bs' := []) [] hP hD hS hA rfl rfl rfl rfl) hS (fun hPc hDc => va_runS (As := [.int v]) (rest := []) ⟨hx, hb, hml, hown, hts⟩ (mtX2_isCurtainDigit l D t v r12 h12 _) (va_cwS 1 hts (gBS kw354 kw355 kw2 kw356) rfl rfl rfl (by decide +kernel) ⟨Nat.le_of_ble_eq_true rfl, Nat.le_of_ble_eq_true rfl⟩) (sPc_S hPc hK hDc hE) rfl rfl hl.1 rfl (lv_room (Nat.le_of_ble_eq_true rfl)) dX2_placeAfter_97 ⟨Nat.zero_le _, Nat.zero_le _⟩) (fun H locs hP hD hS => ?_)
            refine lv_if_eq (tgt := 107) hx hb dX2_placeAfter_100 (by decide) (fun c13 => ?_) (fun c13 => ?_)
            · have h := it_p c13 h
              refine lv_bipush (v := 9) hx hb dX2_placeAfter_107 (by decide) ?_
              obtain rfl := os h
              exact ret_i hx hb hr hlocks hP hK hD hS dX2_placeAfter_109
            · have h := it_n c13 h
              refine lv_iconst (v := 5) hx hb dX2_placeAfter_103 (by decide) ?_
              refine lv_goto (tgt := 109) hx hb dX2_placeAfter_104 (by decide) ?_
              obtain rfl := os h
              exact ret_i hx hb hr hlocks hP hK hD hS dX2_placeAfter_109
          · have h := it_n c11 h
            by_cases c14 : p0 = 5
            · have h := it_p c14 h
              refine lv_tableIn (off := 109) (tgt := 110) hx hb dX2_placeAfter_1 (by rw [c14]; decide) (by rw [c14]; decide) (by rw [c14]; rfl) (by decide) ?_
              refine lv_iload_n hx hb dX2_placeAfter_110 rfl (lv_at hl 1 rfl) ?_
              refine lv_bipush (v := 58) hx hb dX2_placeAfter_111 (by decide) ?_
              refine lv_icmp_ne (tgt := 121) hx hb dX2_placeAfter_113 (by decide) (fun c15 => ?_) (fun c15 => ?_)
              · have h := it_n c15 h
                refine lv_bipush (v := 9) hx hb dX2_placeAfter_121 (by decide) ?_
                obtain rfl := os h
                exact ret_i hx hb hr hlocks hP hK hD hS dX2_placeAfter_123
              · have h := it_p c15 h
                refine lv_bipush (v := 6) hx hb dX2_placeAfter_116 (by decide) ?_
                refine lv_goto (tgt := 123) hx hb dX2_placeAfter_118 (by decide) ?_
                obtain rfl := os h
                exact ret_i hx hb hr hlocks hP hK hD hS dX2_placeAfter_123
            · have h := it_n c14 h
              by_cases c16 : p0 = 6
              · have h := it_p c16 h
                refine lv_tableIn (off := 123) (tgt := 124) hx hb dX2_placeAfter_1 (by rw [c16]; decide) (by rw [c16]; decide) (by rw [c16]; rfl) (by decide) ?_
                refine lv_iload_n hx hb dX2_placeAfter_124 rfl (lv_at hl 1 rfl) ?_
                refine lv_bipush (v := 49) hx hb dX2_placeAfter_125 (by decide) ?_
                refine lv_icmp_lt (tgt := 141) hx hb dX2_placeAfter_127 (by decide) (fun c17 => ?_) (fun c17 => ?_)
                · have h := it_p c17 h
                  refine lv_bipush (v := 9) hx hb dX2_placeAfter_141 (by decide) ?_
                  obtain rfl := os h
                  exact ret_i hx hb hr hlocks hP hK hD hS dX2_placeAfter_143
                · have h := it_n c17 h
                  refine lv_iload_n hx hb dX2_placeAfter_130 rfl (lv_at hl 1 rfl) ?_
                  refine lv_bipush (v := 57) hx hb dX2_placeAfter_131 (by decide) ?_
                  refine lv_icmp_gt (tgt := 141) hx hb dX2_placeAfter_133 (by decide) (fun c18 => ?_) (fun c18 => ?_)
                  · have h := it_p c18 h
                    refine lv_bipush (v := 9) hx hb dX2_placeAfter_141 (by decide) ?_
                    obtain rfl := os h
                    exact ret_i hx hb hr hlocks hP hK hD hS dX2_placeAfter_143
                  · have h := it_n c18 h
                    refine lv_bipush (v := 7) hx hb dX2_placeAfter_136 (by decide) ?_
                    refine lv_goto (tgt := 143) hx hb dX2_placeAfter_138 (by decide) ?_
                    obtain rfl := os h
                    exact ret_i hx hb hr hlocks hP hK hD hS dX2_placeAfter_143
              · have h := it_n c16 h
                by_cases c19 : p0 = 7
                · have h := it_p c19 h
                  refine lv_tableIn (off := 143) (tgt := 144) hx hb dX2_placeAfter_1 (by rw [c19]; decide) (by rw [c19]; decide) (by rw [c19]; rfl) (by decide) ?_
                  refine lv_iload_n hx hb dX2_placeAfter_144 rfl (lv_at hl 1 rfl) ?_
                  refine lv_bipush (v := 48) hx hb dX2_placeAfter_145 (by decide) ?_
                  refine lv_icmp_lt (tgt := 160) hx hb dX2_placeAfter_147 (by decide) (fun c20 => ?_) (fun c20 => ?_)
                  · have h := it_p c20 h
                    refine lv_iload_n hx hb dX2_placeAfter_160 rfl (lv_at hl 1 rfl) ?_
                    obtain ⟨r21, h21, h⟩ := ob h
                    refine call_i (v := r21) (wc := ([] : va_W)) (wc' := ([] : va_W)) (ws' := ([] : va_W)) (cutB (bs := []) (cs := []) (cs' := []) (bs' := []) [] hP hD hS hA rfl rfl rfl rfl) hS (fun hPc hDc => va_runS (As := [.int v]) (rest := []) ⟨hx, hb, hml, hown, hts⟩ (mtX2_placeAfterPart l D t v r21 h21 _) (va_cwS 1 hts (gBS kw351 kw352 kw2 kw353) rfl rfl rfl (by decide +kernel) ⟨Nat.le_of_ble_eq_true rfl, Nat.le_of_ble_eq_true rfl⟩) (sPc_S hPc hK hDc hE) rfl rfl hl.1 rfl (lv_room (Nat.le_of_ble_eq_true rfl)) dX2_placeAfter_161 ⟨Nat.zero_le _, Nat.zero_le _⟩) (fun H locs hP hD hS => ?_)
                    obtain rfl := os h
                    exact ret_i hx hb hr hlocks hP hK hD hS dX2_placeAfter_164
                  · have h := it_n c20 h
                    refine lv_iload_n hx hb dX2_placeAfter_150 rfl (lv_at hl 1 rfl) ?_
                    refine lv_bipush (v := 57) hx hb dX2_placeAfter_151 (by decide) ?_
                    refine lv_icmp_gt (tgt := 160) hx hb dX2_placeAfter_153 (by decide) (fun c22 => ?_) (fun c22 => ?_)
                    · have h := it_p c22 h
                      refine lv_iload_n hx hb dX2_placeAfter_160 rfl (lv_at hl 1 rfl) ?_
                      obtain ⟨r23, h23, h⟩ := ob h
                      refine call_i (v := r23) (wc := ([] : va_W)) (wc' := ([] : va_W)) (ws' := ([] : va_W)) (cutB (bs := []) (cs := []) (cs' := []) (bs' := []) [] hP hD hS hA rfl rfl rfl rfl) hS (fun hPc hDc => va_runS (As := [.int v]) (rest := []) ⟨hx, hb, hml, hown, hts⟩ (mtX2_placeAfterPart l D t v r23 h23 _) (va_cwS 1 hts (gBS kw351 kw352 kw2 kw353) rfl rfl rfl (by decide +kernel) ⟨Nat.le_of_ble_eq_true rfl, Nat.le_of_ble_eq_true rfl⟩) (sPc_S hPc hK hDc hE) rfl rfl hl.1 rfl (lv_room (Nat.le_of_ble_eq_true rfl)) dX2_placeAfter_161 ⟨Nat.zero_le _, Nat.zero_le _⟩) (fun H locs hP hD hS => ?_)
                      obtain rfl := os h
                      exact ret_i hx hb hr hlocks hP hK hD hS dX2_placeAfter_164
                    · have h := it_n c22 h
                      refine lv_iconst (v := 3) hx hb dX2_placeAfter_156 (by decide) ?_
                      refine lv_goto (tgt := 164) hx hb dX2_placeAfter_157 (by decide) ?_
                      obtain rfl := os h
                      exact ret_i hx hb hr hlocks hP hK hD hS dX2_placeAfter_164
                · have h := it_n c19 h
                  by_cases c24 : p0 = 8
                  · have h := it_p c24 h
                    refine lv_tableIn (off := 164) (tgt := 165) hx hb dX2_placeAfter_1 (by rw [c24]; decide) (by rw [c24]; decide) (by rw [c24]; rfl) (by decide) ?_
                    refine lv_iload_n hx hb dX2_placeAfter_165 rfl (lv_at hl 1 rfl) ?_
                    obtain ⟨r25, h25, h⟩ := ob h
                    refine call_i (v := b2i r25) (wc := ([] : va_W)) (wc' := ([] : va_W)) (ws' := ([] : va_W)) (cutB (bs := []) (cs := []) (cs' := []) (bs' := []) [] hP hD hS hA rfl rfl rfl rfl) hS (fun hPc hDc => va_runS (As := [.int v]) (rest := []) ⟨hx, hb, hml, hown, hts⟩ (mtX2_isCurtainDigit l D t v r25 h25 _) (va_cwS 1 hts (gBS kw354 kw355 kw2 kw356) rfl rfl rfl (by decide +kernel) ⟨Nat.le_of_ble_eq_true rfl, Nat.le_of_ble_eq_true rfl⟩) (sPc_S hPc hK hDc hE) rfl rfl hl.1 rfl (lv_room (Nat.le_of_ble_eq_true rfl)) dX2_placeAfter_166 ⟨Nat.zero_le _, Nat.zero_le _⟩) (fun H locs hP hD hS => ?_)
                    refine lv_if_eq (tgt := 176) hx hb dX2_placeAfter_169 (by decide) (fun c26 => ?_) (fun c26 => ?_)
                    · have h := it_p c26 h
                      refine lv_bipush (v := 9) hx hb dX2_placeAfter_176 (by decide) ?_
                      obtain rfl := os h
                      exact ret_i hx hb hr hlocks hP hK hD hS dX2_placeAfter_178
                    · have h := it_n c26 h
                      refine lv_iconst (v := 3) hx hb dX2_placeAfter_172 (by decide) ?_
                      refine lv_goto (tgt := 178) hx hb dX2_placeAfter_173 (by decide) ?_
                      obtain rfl := os h
                      exact ret_i hx hb hr hlocks hP hK hD hS dX2_placeAfter_178
                  · have h := it_n c24 h
                    refine lv_tableOut (tgt := 179) hx hb dX2_placeAfter_1 (tab_0_8 c1 c3 c6 c9 c11 c14 c16 c19 c24) (by decide) ?_
                    refine lv_bipush (v := 9) hx hb dX2_placeAfter_179 (by decide) ?_
                    obtain rfl := os h
                    exact ret_i hx hb hr hlocks hP hK hD hS dX2_placeAfter_181

theorem dX2_digitAt_0 : decode cX2_digitAt 0 = .ok (.aload_n 0, 1) := by decide +kernel
theorem dX2_digitAt_1 : decode cX2_digitAt 1 = .ok (.getfield 37, 3) := by decide +kernel
theorem dX2_digitAt_4 : decode cX2_digitAt 4 = .ok (.iload_n 1, 1) := by decide +kernel
theorem dX2_digitAt_5 : decode cX2_digitAt 5 = .ok (.invokestatic 58, 3) := by decide +kernel
theorem dX2_digitAt_8 : decode cX2_digitAt 8 = .ok (.bipush 48, 2) := by decide +kernel
theorem dX2_digitAt_10 : decode cX2_digitAt 10 = .ok (.isub, 1) := by decide +kernel
theorem dX2_digitAt_11 : decode cX2_digitAt 11 = .ok (.ireturn, 1) := by decide +kernel
abbrev zX2_digitAt : List Cond := .code yX2_digitAt cX2_digitAt 2 (some .int) :: BIG
def fX2_digitAt (bo : BoT) (buf : (Nat → Int32)) (i : Int32) : Option (Int32) := (fX2_at 60 buf i).bind (fun r1 => some (r1 - 48))
set_option maxHeartbeats 4000000 in
set_option maxRecDepth 100000 in
theorem mtX2_digitAt (l : Launch) (D : va_G) (t : Nat → ClassId) (bh : Nat) (bk : Nat → Nat) (bo : BoT) (buf : (Nat → Int32)) (i : Int32) (out : Int32) (h : fX2_digitAt bo buf i = some out)  (sz : Nat) : Met l yX2_digitAt zX2_digitAt ({ frames := 1, cells := 0, slots := 0, locals := 21 }) (sPc D t (gBo bh bk bo ++ (gA t (bk 4) 60 buf)) sz [.ref bh, .int i]) (qI D t (gBo bh bk bo ++ (gA t (bk 4) 60 buf)) out (va_A (gBo bh bk bo ++ (gA t (bk 4) 60 buf)) sz)) 0 0 (va_A (gBo bh bk bo ++ (gA t (bk 4) 60 buf)) sz) := by
  refine met_of (Qf := fun A => qI D t (gBo bh bk bo ++ (gA t (bk 4) 60 buf)) out A) (cc := cX2_digitAt) (maxL := 2) (ret := some .int) (by decide) rfl (Nat.le_of_ble_eq_true rfl) ?_
  intro p e s m args below meth c A hx hb hr hml hts hown hlocks hA hP hK hD hE hS ls hl
  have htB : ∀ w ∈ BIG, w.before args s = true := fun w h => hts w (List.mem_cons_of_mem _ h)
  have hown : s.vm.findClass RX2 = some m.cls := hown
  have hl : lv_has ls 2 [(0, .ref bh), (1, .int i)] := hl
  unfold fX2_digitAt at h
  refine lv_aload_n hx hb dX2_digitAt_0 rfl (lv_at hl 0 rfl) ?_
  refine va_get (D := D) (ci := 2) (v := .ref (bk 4)) (C := RX2) (T := TX2) (N := 8) hx hb htB inlX2 hown hK hP 0 rfl rfl 6 (by decide) (htB _ kw27) (fun _ h9 => h9) rfl dX2_digitAt_1 ?_
  refine lv_iload_n hx hb dX2_digitAt_4 rfl (lv_at hl 1 rfl) ?_
  obtain ⟨r1, h1, h⟩ := ob h
  refine call_i (v := r1) (wc := (gA t (bk 4) 60 buf)) (wc' := (gA t (bk 4) 60 buf)) (ws' := (gBo bh bk bo ++ (gA t (bk 4) 60 buf))) (cutB (bs := [gBo bh bk bo, gA t (bk 4) 60 buf]) (cs := [gA t (bk 4) 60 buf]) (cs' := [gA t (bk 4) 60 buf]) (bs' := [gBo bh bk bo, gA t (bk 4) 60 buf]) [1] hP hD hS hA rfl rfl rfl rfl) hS (fun hPc hDc => va_runS (As := [.ref (bk 4), .int i]) (rest := []) ⟨hx, hb, hml, hown, hts⟩ (mtX2_at l D t (bk 4) 60 buf i r1 h1 (by decide) _) (va_cwS 2 hts (gBS kw104 kw105 kw2 kw106) rfl rfl rfl (by decide +kernel) ⟨Nat.le_of_ble_eq_true rfl, Nat.le_of_ble_eq_true rfl⟩) (sPc_S hPc hK hDc hE) rfl rfl hl.1 rfl (lv_room (Nat.le_of_ble_eq_true rfl)) dX2_digitAt_5 ⟨Nat.zero_le _, Nat.zero_le _⟩) (fun H locs hP hD hS => ?_)
  refine lv_bipush (v := 48) hx hb dX2_digitAt_8 (by decide) ?_
  refine lv_isub hx hb dX2_digitAt_10 ?_
  obtain rfl := os h
  exact ret_i hx hb hr hlocks hP hK hD hS dX2_digitAt_11

theorem dX2_springOfText_0 : decode cX2_springOfText 0 = .ok (.aload_n 0, 1) := by decide +kernel
theorem dX2_springOfText_1 : decode cX2_springOfText 1 = .ok (.iload_n 1, 1) := by decide +kernel
theorem dX2_springOfText_2 : decode cX2_springOfText 2 = .ok (.invokevirtual 281, 3) := by decide +kernel
theorem dX2_springOfText_5 : decode cX2_springOfText 5 = .ok (.istore_n 3, 1) := by decide +kernel
theorem dX2_springOfText_6 : decode cX2_springOfText 6 = .ok (.iload_n 2, 1) := by decide +kernel
theorem dX2_springOfText_7 : decode cX2_springOfText 7 = .ok (.iload_n 1, 1) := by decide +kernel
theorem dX2_springOfText_8 : decode cX2_springOfText 8 = .ok (.isub, 1) := by decide +kernel
theorem dX2_springOfText_9 : decode cX2_springOfText 9 = .ok (.iconst 1, 1) := by decide +kernel
theorem dX2_springOfText_10 : decode cX2_springOfText 10 = .ok (.if_icmp .le 18, 3) := by decide +kernel
theorem dX2_springOfText_13 : decode cX2_springOfText 13 = .ok (.bipush 10, 2) := by decide +kernel
theorem dX2_springOfText_15 : decode cX2_springOfText 15 = .ok (.iload_n 3, 1) := by decide +kernel
theorem dX2_springOfText_16 : decode cX2_springOfText 16 = .ok (.imul, 1) := by decide +kernel
theorem dX2_springOfText_17 : decode cX2_springOfText 17 = .ok (.aload_n 0, 1) := by decide +kernel
theorem dX2_springOfText_18 : decode cX2_springOfText 18 = .ok (.iload_n 1, 1) := by decide +kernel
theorem dX2_springOfText_19 : decode cX2_springOfText 19 = .ok (.iconst 1, 1) := by decide +kernel
theorem dX2_springOfText_20 : decode cX2_springOfText 20 = .ok (.iadd, 1) := by decide +kernel
theorem dX2_springOfText_21 : decode cX2_springOfText 21 = .ok (.invokevirtual 281, 3) := by decide +kernel
theorem dX2_springOfText_24 : decode cX2_springOfText 24 = .ok (.iadd, 1) := by decide +kernel
theorem dX2_springOfText_25 : decode cX2_springOfText 25 = .ok (.goto 4, 3) := by decide +kernel
theorem dX2_springOfText_28 : decode cX2_springOfText 28 = .ok (.iload_n 3, 1) := by decide +kernel
theorem dX2_springOfText_29 : decode cX2_springOfText 29 = .ok (.ireturn, 1) := by decide +kernel
abbrev zX2_springOfText : List Cond := .code yX2_springOfText cX2_springOfText 4 (some .int) :: BIG
def fX2_springOfText (bo : BoT) (buf : (Nat → Int32)) (i : Int32) (j : Int32) : Option (Int32) := (fX2_digitAt bo buf i).bind (fun r1 => (if (j - i) ≤ 1 then some r1 else (fX2_digitAt bo buf (i + 1)).bind (fun r3 => some ((10 * r1) + r3))))
set_option maxHeartbeats 4000000 in
set_option maxRecDepth 100000 in
theorem mtX2_springOfText (l : Launch) (D : va_G) (t : Nat → ClassId) (bh : Nat) (bk : Nat → Nat) (bo : BoT) (buf : (Nat → Int32)) (i : Int32) (j : Int32) (out : Int32) (h : fX2_springOfText bo buf i j = some out)  (sz : Nat) : Met l yX2_springOfText zX2_springOfText ({ frames := 2, cells := 0, slots := 0, locals := 42 }) (sPc D t (gBo bh bk bo ++ (gA t (bk 4) 60 buf)) sz [.ref bh, .int i, .int j]) (qI D t (gBo bh bk bo ++ (gA t (bk 4) 60 buf)) out (va_A (gBo bh bk bo ++ (gA t (bk 4) 60 buf)) sz)) 0 0 (va_A (gBo bh bk bo ++ (gA t (bk 4) 60 buf)) sz) := by
  refine met_of (Qf := fun A => qI D t (gBo bh bk bo ++ (gA t (bk 4) 60 buf)) out A) (cc := cX2_springOfText) (maxL := 4) (ret := some .int) (by decide) rfl (Nat.le_of_ble_eq_true rfl) ?_
  intro p e s m args below meth c A hx hb hr hml hts hown hlocks hA hP hK hD hE hS ls hl
  have htB : ∀ w ∈ BIG, w.before args s = true := fun w h => hts w (List.mem_cons_of_mem _ h)
  have hown : s.vm.findClass RX2 = some m.cls := hown
  have hl : lv_has ls 4 [(0, .ref bh), (1, .int i), (2, .int j)] := hl
  unfold fX2_springOfText at h
  refine lv_aload_n hx hb dX2_springOfText_0 rfl (lv_at hl 0 rfl) ?_
  refine lv_iload_n hx hb dX2_springOfText_1 rfl (lv_at hl 1 rfl) ?_
  obtain ⟨r1, h1, h⟩ := ob h
  refine call_i (v := r1) (wc := (gBo bh bk bo ++ (gA t (bk 4) 60 buf))) (wc' := (gBo bh bk bo ++ (gA t (bk 4) 60 buf))) (ws' := (gBo bh bk bo ++ (gA t (bk 4) 60 buf))) (cutB (bs := [gBo bh bk bo, gA t (bk 4) 60 buf]) (cs := [gBo bh bk bo, gA t (bk 4) 60 buf]) (cs' := [gBo bh bk bo, gA t (bk 4) 60 buf]) (bs' := [gBo bh bk bo, gA t (bk 4) 60 buf]) [0, 1] hP hD hS hA rfl rfl rfl rfl) hS (fun hPc hDc => va_runV (As := [.int i]) (rest := []) ⟨hx, hb, hml, hown, hts⟩ (mtX2_digitAt l D t bh bk bo buf i r1 h1 _) (cwV 1 hts (gBV kw403 kw404 kw405 kw2 kw406) rfl rfl rfl (by decide +kernel) ⟨Nat.le_of_ble_eq_true rfl, Nat.le_of_ble_eq_true rfl⟩) (sPc_V hPc hK hDc hE (va_recv hK hP (ci := 2) (q0 := 0) rfl rfl)) rfl rfl hl.1 rfl (lv_room (Nat.le_of_ble_eq_true rfl)) dX2_springOfText_2 ⟨Nat.zero_le _, Nat.zero_le _⟩) (fun H locs hP hD hS => ?_)
  refine lv_istore_n (lv' := [(3, .int r1), (0, .ref bh), (1, .int i), (2, .int j)]) hx hb dX2_springOfText_5 rfl hl (by decide) rfl (fun ls hl => ?_)
  refine lv_iload_n hx hb dX2_springOfText_6 rfl (lv_at hl 3 rfl) ?_
  refine lv_iload_n hx hb dX2_springOfText_7 rfl (lv_at hl 2 rfl) ?_
  refine lv_isub hx hb dX2_springOfText_8 ?_
  refine lv_iconst (v := 1) hx hb dX2_springOfText_9 (by decide) ?_
  refine lv_icmp_le (tgt := 28) hx hb dX2_springOfText_10 (by decide) (fun c2 => ?_) (fun c2 => ?_)
  · have h := it_p c2 h
    refine lv_iload_n hx hb dX2_springOfText_28 rfl (lv_at hl 0 rfl) ?_
    obtain rfl := os h
    exact ret_i hx hb hr hlocks hP hK hD hS dX2_springOfText_29
  · have h := it_n c2 h
    refine lv_bipush (v := 10) hx hb dX2_springOfText_13 (by decide) ?_
    refine lv_iload_n hx hb dX2_springOfText_15 rfl (lv_at hl 0 rfl) ?_
    refine lv_imul hx hb dX2_springOfText_16 ?_
    refine lv_aload_n hx hb dX2_springOfText_17 rfl (lv_at hl 1 rfl) ?_
    refine lv_iload_n hx hb dX2_springOfText_18 rfl (lv_at hl 2 rfl) ?_
    refine lv_iconst (v := 1) hx hb dX2_springOfText_19 (by decide) ?_
    refine lv_iadd hx hb dX2_springOfText_20 ?_
    obtain ⟨r3, h3, h⟩ := ob h
    refine call_i (v := r3) (wc := (gBo bh bk bo ++ (gA t (bk 4) 60 buf))) (wc' := (gBo bh bk bo ++ (gA t (bk 4) 60 buf))) (ws' := (gBo bh bk bo ++ (gA t (bk 4) 60 buf))) (cutB (bs := [gBo bh bk bo, gA t (bk 4) 60 buf]) (cs := [gBo bh bk bo, gA t (bk 4) 60 buf]) (cs' := [gBo bh bk bo, gA t (bk 4) 60 buf]) (bs' := [gBo bh bk bo, gA t (bk 4) 60 buf]) [0, 1] hP hD hS hA rfl rfl rfl rfl) hS (fun hPc hDc => va_runV (As := [.int (i + 1)]) (rest := [.int (10 * r1)]) ⟨hx, hb, hml, hown, hts⟩ (mtX2_digitAt l D t bh bk bo buf (i + 1) r3 h3 _) (cwV 1 hts (gBV kw403 kw404 kw405 kw2 kw406) rfl rfl rfl (by decide +kernel) ⟨Nat.le_of_ble_eq_true rfl, Nat.le_of_ble_eq_true rfl⟩) (sPc_V hPc hK hDc hE (va_recv hK hP (ci := 2) (q0 := 0) rfl rfl)) rfl rfl hl.1 rfl (lv_room (Nat.le_of_ble_eq_true rfl)) dX2_springOfText_21 ⟨Nat.zero_le _, Nat.zero_le _⟩) (fun H locs hP hD hS => ?_)
    refine lv_iadd hx hb dX2_springOfText_24 ?_
    refine lv_goto (tgt := 29) hx hb dX2_springOfText_25 (by decide) ?_
    obtain rfl := os h
    exact ret_i hx hb hr hlocks hP hK hD hS dX2_springOfText_29

theorem dX2_playPart_0 : decode cX2_playPart 0 = .ok (.aload_n 0, 1) := by decide +kernel
theorem dX2_playPart_1 : decode cX2_playPart 1 = .ok (.getfield 37, 3) := by decide +kernel
theorem dX2_playPart_4 : decode cX2_playPart 4 = .ok (.iload_n 1, 1) := by decide +kernel
theorem dX2_playPart_5 : decode cX2_playPart 5 = .ok (.invokestatic 58, 3) := by decide +kernel
theorem dX2_playPart_8 : decode cX2_playPart 8 = .ok (.istore_n 3, 1) := by decide +kernel
theorem dX2_playPart_9 : decode cX2_playPart 9 = .ok (.iload_n 3, 1) := by decide +kernel
theorem dX2_playPart_10 : decode cX2_playPart 10 = .ok (.bipush 119, 2) := by decide +kernel
theorem dX2_playPart_12 : decode cX2_playPart 12 = .ok (.if_icmp .ne 30, 3) := by decide +kernel
theorem dX2_playPart_15 : decode cX2_playPart 15 = .ok (.aload_n 0, 1) := by decide +kernel
theorem dX2_playPart_16 : decode cX2_playPart 16 = .ok (.getfield 10, 3) := by decide +kernel
theorem dX2_playPart_19 : decode cX2_playPart 19 = .ok (.getfield 55, 3) := by decide +kernel
theorem dX2_playPart_22 : decode cX2_playPart 22 = .ok (.aload_n 0, 1) := by decide +kernel
theorem dX2_playPart_23 : decode cX2_playPart 23 = .ok (.iload_n 1, 1) := by decide +kernel
theorem dX2_playPart_24 : decode cX2_playPart 24 = .ok (.iconst 1, 1) := by decide +kernel
theorem dX2_playPart_25 : decode cX2_playPart 25 = .ok (.iadd, 1) := by decide +kernel
theorem dX2_playPart_26 : decode cX2_playPart 26 = .ok (.invokevirtual 281, 3) := by decide +kernel
theorem dX2_playPart_29 : decode cX2_playPart 29 = .ok (.aload_n 0, 1) := by decide +kernel
theorem dX2_playPart_30 : decode cX2_playPart 30 = .ok (.iload_n 1, 1) := by decide +kernel
theorem dX2_playPart_31 : decode cX2_playPart 31 = .ok (.iconst 3, 1) := by decide +kernel
theorem dX2_playPart_32 : decode cX2_playPart 32 = .ok (.iadd, 1) := by decide +kernel
theorem dX2_playPart_33 : decode cX2_playPart 33 = .ok (.iload_n 2, 1) := by decide +kernel
theorem dX2_playPart_34 : decode cX2_playPart 34 = .ok (.invokevirtual 284, 3) := by decide +kernel
theorem dX2_playPart_37 : decode cX2_playPart 37 = .ok (.invokestatic 62, 3) := by decide +kernel
theorem dX2_playPart_40 : decode cX2_playPart 40 = .ok (.iconst 0, 1) := by decide +kernel
theorem dX2_playPart_41 : decode cX2_playPart 41 = .ok (.ireturn, 1) := by decide +kernel
theorem dX2_playPart_42 : decode cX2_playPart 42 = .ok (.iload_n 3, 1) := by decide +kernel
theorem dX2_playPart_43 : decode cX2_playPart 43 = .ok (.bipush 99, 2) := by decide +kernel
theorem dX2_playPart_45 : decode cX2_playPart 45 = .ok (.if_icmp .ne 23, 3) := by decide +kernel
theorem dX2_playPart_48 : decode cX2_playPart 48 = .ok (.aload_n 0, 1) := by decide +kernel
theorem dX2_playPart_49 : decode cX2_playPart 49 = .ok (.getfield 10, 3) := by decide +kernel
theorem dX2_playPart_52 : decode cX2_playPart 52 = .ok (.getfield 70, 3) := by decide +kernel
theorem dX2_playPart_55 : decode cX2_playPart 55 = .ok (.aload_n 0, 1) := by decide +kernel
theorem dX2_playPart_56 : decode cX2_playPart 56 = .ok (.iload_n 1, 1) := by decide +kernel
theorem dX2_playPart_57 : decode cX2_playPart 57 = .ok (.iconst 1, 1) := by decide +kernel
theorem dX2_playPart_58 : decode cX2_playPart 58 = .ok (.iadd, 1) := by decide +kernel
theorem dX2_playPart_59 : decode cX2_playPart 59 = .ok (.invokevirtual 281, 3) := by decide +kernel
theorem dX2_playPart_62 : decode cX2_playPart 62 = .ok (.iconst 0, 1) := by decide +kernel
theorem dX2_playPart_63 : decode cX2_playPart 63 = .ok (.invokestatic 62, 3) := by decide +kernel
theorem dX2_playPart_66 : decode cX2_playPart 66 = .ok (.iconst 0, 1) := by decide +kernel
theorem dX2_playPart_67 : decode cX2_playPart 67 = .ok (.ireturn, 1) := by decide +kernel
theorem dX2_playPart_68 : decode cX2_playPart 68 = .ok (.iload_n 2, 1) := by decide +kernel
theorem dX2_playPart_69 : decode cX2_playPart 69 = .ok (.iload_n 1, 1) := by decide +kernel
theorem dX2_playPart_70 : decode cX2_playPart 70 = .ok (.isub, 1) := by decide +kernel
theorem dX2_playPart_71 : decode cX2_playPart 71 = .ok (.iconst 1, 1) := by decide +kernel
theorem dX2_playPart_72 : decode cX2_playPart 72 = .ok (.if_icmp .le 13, 3) := by decide +kernel
theorem dX2_playPart_75 : decode cX2_playPart 75 = .ok (.aload_n 0, 1) := by decide +kernel
theorem dX2_playPart_76 : decode cX2_playPart 76 = .ok (.iload_n 1, 1) := by decide +kernel
theorem dX2_playPart_77 : decode cX2_playPart 77 = .ok (.iconst 2, 1) := by decide +kernel
theorem dX2_playPart_78 : decode cX2_playPart 78 = .ok (.iadd, 1) := by decide +kernel
theorem dX2_playPart_79 : decode cX2_playPart 79 = .ok (.invokevirtual 281, 3) := by decide +kernel
theorem dX2_playPart_82 : decode cX2_playPart 82 = .ok (.goto 4, 3) := by decide +kernel
theorem dX2_playPart_85 : decode cX2_playPart 85 = .ok (.iconst 1, 1) := by decide +kernel
theorem dX2_playPart_86 : decode cX2_playPart 86 = .ok (.istore 4, 2) := by decide +kernel
theorem dX2_playPart_88 : decode cX2_playPart 88 = .ok (.aload_n 0, 1) := by decide +kernel
theorem dX2_playPart_89 : decode cX2_playPart 89 = .ok (.aload_n 0, 1) := by decide +kernel
theorem dX2_playPart_90 : decode cX2_playPart 90 = .ok (.getfield 10, 3) := by decide +kernel
theorem dX2_playPart_93 : decode cX2_playPart 93 = .ok (.aload_n 0, 1) := by decide +kernel
theorem dX2_playPart_94 : decode cX2_playPart 94 = .ok (.iload_n 1, 1) := by decide +kernel
theorem dX2_playPart_95 : decode cX2_playPart 95 = .ok (.invokevirtual 281, 3) := by decide +kernel
theorem dX2_playPart_98 : decode cX2_playPart 98 = .ok (.iload 4, 2) := by decide +kernel
theorem dX2_playPart_100 : decode cX2_playPart 100 = .ok (.invokevirtual 92, 3) := by decide +kernel
theorem dX2_playPart_103 : decode cX2_playPart 103 = .ok (.iload 4, 2) := by decide +kernel
theorem dX2_playPart_105 : decode cX2_playPart 105 = .ok (.ireturn, 1) := by decide +kernel
abbrev zX2_playPart : List Cond := .code yX2_playPart cX2_playPart 5 (some .int) :: BIG
def fX2_playPart_j86 (bo : BoT) (buf : (Nat → Int32))  (v86 : ShT × ExT × Int32 × Int32) : Option (Int32 × ShT × ExT) := (fX2_digitAt bo buf v86.2.2.1).bind (fun r11 => (fX2_fire bo v86.2.1 v86.1 r11 v86.2.2.2).bind (fun r12 => some (v86.2.2.2, r12.2, r12.1)))
def fX2_playPart (bo : BoT) (now : ShT) (ex : ExT) (buf : (Nat → Int32)) (i : Int32) (j : Int32) : Option (Int32 × ShT × ExT) := (fX2_at 60 buf i).bind (fun r1 => (if r1 = 119 then (fX2_digitAt bo buf (i + 1)).bind (fun r8 => (fX2_springOfText bo buf (i + 3) j).bind (fun r9 => (fX2_put 2 now.1 r8 r9).bind (fun r10 => some (0, (r10, now.2.1, now.2.2.1, now.2.2.2.1, now.2.2.2.2.1, now.2.2.2.2.2.1, now.2.2.2.2.2.2.1, now.2.2.2.2.2.2.2.1, now.2.2.2.2.2.2.2.2.1, now.2.2.2.2.2.2.2.2.2), ex)))) else (if r1 = 99 then (fX2_digitAt bo buf (i + 1)).bind (fun r6 => (fX2_put 2 now.2.1 r6 0).bind (fun r7 => some (0, (now.1, r7, now.2.2.1, now.2.2.2.1, now.2.2.2.2.1, now.2.2.2.2.2.1, now.2.2.2.2.2.2.1, now.2.2.2.2.2.2.2.1, now.2.2.2.2.2.2.2.2.1, now.2.2.2.2.2.2.2.2.2), ex))) else (if (j - i) ≤ 1 then fX2_playPart_j86 bo buf (now, ex, i, 1) else (fX2_digitAt bo buf (i + 2)).bind (fun r5 => fX2_playPart_j86 bo buf (now, ex, i, r5))))))
set_option maxHeartbeats 4000000 in
set_option maxRecDepth 100000 in
theorem mtX2_playPart (l : Launch) (D : va_G) (t : Nat → ClassId) (bh : Nat) (bk : Nat → Nat) (bo : BoT) (nb : Nat → Nat) (now : ShT) (eb : Nat → Nat) (ex : ExT) (buf : (Nat → Int32)) (i : Int32) (j : Int32) (out : Int32 × ShT × ExT) (h : fX2_playPart bo now ex buf i j = some out)  (sz : Nat) : Met l yX2_playPart zX2_playPart ({ frames := 5, cells := 0, slots := 0, locals := 117 }) (sPc D t (gBo bh bk bo ++ (gS t (bk 0) nb now ++ (gE t (bk 2) eb ex ++ (gA t (bk 4) 60 buf)))) sz [.ref bh, .int i, .int j]) (qI D t (gBo bh bk bo ++ (gS t (bk 0) nb out.2.1 ++ (gE t (bk 2) eb out.2.2 ++ (gA t (bk 4) 60 buf)))) out.1 (va_A (gBo bh bk bo ++ (gS t (bk 0) nb now ++ (gE t (bk 2) eb ex ++ (gA t (bk 4) 60 buf)))) sz)) 0 0 (va_A (gBo bh bk bo ++ (gS t (bk 0) nb now ++ (gE t (bk 2) eb ex ++ (gA t (bk 4) 60 buf)))) sz) := by
  refine met_of (Qf := fun A => qI D t (gBo bh bk bo ++ (gS t (bk 0) nb out.2.1 ++ (gE t (bk 2) eb out.2.2 ++ (gA t (bk 4) 60 buf)))) out.1 A) (cc := cX2_playPart) (maxL := 5) (ret := some .int) (by decide) rfl (Nat.le_of_ble_eq_true rfl) ?_
  intro p e s m args below meth c A hx hb hr hml hts hown hlocks hA hP hK hD hE hS ls hl
  have htB : ∀ w ∈ BIG, w.before args s = true := fun w h => hts w (List.mem_cons_of_mem _ h)
  have hown : s.vm.findClass RX2 = some m.cls := hown
  have hl : lv_has ls 5 [(0, .ref bh), (1, .int i), (2, .int j)] := hl
  unfold fX2_playPart at h
  have J86 : ∀ v86 : ShT × ExT × Int32 × Int32, fX2_playPart_j86 bo buf v86 = some out → ∀ (H : Heap) (locs : List Loc), va_P D vwCl (gBo bh bk bo ++ (gS t (bk 0) nb v86.1 ++ (gE t (bk 2) eb v86.2.1 ++ (gA t (bk 4) 60 buf)))) H → va_D A (gBo bh bk bo ++ (gS t (bk 0) nb v86.1 ++ (gE t (bk 2) eb v86.2.1 ++ (gA t (bk 4) 60 buf)))) → va_S A s.heap H locs → ∀ ls : Array Slot, lv_has ls 5 [(0, .ref bh), (1, .int v86.2.2.1)] → W p l e ({ frames := 5, cells := 0, slots := 0, locals := 117 }) s m args below meth c H locs 0 0 (MQ below (qI D t (gBo bh bk bo ++ (gS t (bk 0) nb out.2.1 ++ (gE t (bk 2) eb out.2.2 ++ (gA t (bk 4) 60 buf)))) out.1 A) args s 0 0 A) (F0 m 86 ls [.int v86.2.2.2]) := by
    intro v86 h H locs hP hD hS ls hl
    unfold fX2_playPart_j86 at h
    refine lv_istore (lv' := [(4, .int v86.2.2.2), (0, .ref bh), (1, .int v86.2.2.1)]) hx hb dX2_playPart_86 hl (by decide) rfl (fun ls hl => ?_)
    refine lv_aload_n hx hb dX2_playPart_88 rfl (lv_at hl 1 rfl) ?_
    refine lv_aload_n hx hb dX2_playPart_89 rfl (lv_at hl 1 rfl) ?_
    refine va_get (D := D) (ci := 2) (v := .ref (bk 0)) (C := RX2) (T := TX2) (N := 8) hx hb htB inlX2 hown hK hP 0 rfl rfl 0 (by decide) (htB _ kw17) (fun _ h9 => h9) rfl dX2_playPart_90 ?_
    refine lv_aload_n hx hb dX2_playPart_93 rfl (lv_at hl 1 rfl) ?_
    refine lv_iload_n hx hb dX2_playPart_94 rfl (lv_at hl 2 rfl) ?_
    obtain ⟨r11, h11, h⟩ := ob h
    refine call_i (v := r11) (wc := (gBo bh bk bo ++ (gA t (bk 4) 60 buf))) (wc' := (gBo bh bk bo ++ (gA t (bk 4) 60 buf))) (ws' := (gBo bh bk bo ++ (gS t (bk 0) nb v86.1 ++ (gE t (bk 2) eb v86.2.1 ++ (gA t (bk 4) 60 buf))))) (cutB (bs := [gBo bh bk bo, gS t (bk 0) nb v86.1, gE t (bk 2) eb v86.2.1, gA t (bk 4) 60 buf]) (cs := [gBo bh bk bo, gA t (bk 4) 60 buf]) (cs' := [gBo bh bk bo, gA t (bk 4) 60 buf]) (bs' := [gBo bh bk bo, gS t (bk 0) nb v86.1, gE t (bk 2) eb v86.2.1, gA t (bk 4) 60 buf]) [0, 3] hP hD hS hA rfl rfl rfl rfl) hS (fun hPc hDc => va_runV (As := [.int v86.2.2.1]) (rest := [.ref (bk 0), .ref bh]) ⟨hx, hb, hml, hown, hts⟩ (mtX2_digitAt l D t bh bk bo buf v86.2.2.1 r11 h11 _) (cwV 1 hts (gBV kw403 kw404 kw405 kw2 kw406) rfl rfl rfl (by decide +kernel) ⟨Nat.le_of_ble_eq_true rfl, Nat.le_of_ble_eq_true rfl⟩) (sPc_V hPc hK hDc hE (va_recv hK hP (ci := 2) (q0 := 0) rfl rfl)) rfl rfl hl.1 rfl (lv_room (Nat.le_of_ble_eq_true rfl)) dX2_playPart_95 ⟨Nat.zero_le _, Nat.zero_le _⟩) (fun H locs hP hD hS => ?_)
    refine lv_iload hx hb dX2_playPart_98 (lv_at hl 0 rfl) ?_
    obtain ⟨r12, h12, h⟩ := ob h
    refine call_v (wc := (gBo bh bk bo ++ (gE t (bk 2) eb v86.2.1 ++ (gS t (bk 0) nb v86.1)))) (wc' := (gBo bh bk bo ++ (gE t (bk 2) eb r12.1 ++ (gS t (bk 0) nb r12.2)))) (ws' := (gBo bh bk bo ++ (gS t (bk 0) nb r12.2 ++ (gE t (bk 2) eb r12.1 ++ (gA t (bk 4) 60 buf))))) (cutB (bs := [gBo bh bk bo, gS t (bk 0) nb v86.1, gE t (bk 2) eb v86.2.1, gA t (bk 4) 60 buf]) (cs := [gBo bh bk bo, gE t (bk 2) eb v86.2.1, gS t (bk 0) nb v86.1]) (cs' := [gBo bh bk bo, gE t (bk 2) eb r12.1, gS t (bk 0) nb r12.2]) (bs' := [gBo bh bk bo, gS t (bk 0) nb r12.2, gE t (bk 2) eb r12.1, gA t (bk 4) 60 buf]) [0, 2, 1] hP hD hS hA rfl rfl rfl rfl) hS (fun hPc hDc => va_runV (As := [.ref (bk 0), .int r11, .int v86.2.2.2]) (rest := []) ⟨hx, hb, hml, hown, hts⟩ (mtX2_fire l D t bh bk bo eb v86.2.1 (bk 0) nb v86.1 r11 v86.2.2.2 r12 h12 _) (cwV 3 hts (gBV kw220 kw221 kw222 kw2 kw223) rfl rfl rfl (by decide +kernel) ⟨Nat.le_of_ble_eq_true rfl, Nat.le_of_ble_eq_true rfl⟩) (sPc_V hPc hK hDc hE (va_recv hK hP (ci := 2) (q0 := 0) rfl rfl)) rfl rfl hl.1 rfl (lv_room (Nat.le_of_ble_eq_true rfl)) dX2_playPart_100 ⟨Nat.zero_le _, Nat.zero_le _⟩) (fun H locs hP hD hS => ?_)
    refine lv_iload hx hb dX2_playPart_103 (lv_at hl 0 rfl) ?_
    obtain rfl := os h
    exact ret_i hx hb hr hlocks hP hK hD hS dX2_playPart_105
  refine lv_aload_n hx hb dX2_playPart_0 rfl (lv_at hl 0 rfl) ?_
  refine va_get (D := D) (ci := 2) (v := .ref (bk 4)) (C := RX2) (T := TX2) (N := 8) hx hb htB inlX2 hown hK hP 0 rfl rfl 6 (by decide) (htB _ kw27) (fun _ h9 => h9) rfl dX2_playPart_1 ?_
  refine lv_iload_n hx hb dX2_playPart_4 rfl (lv_at hl 1 rfl) ?_
  obtain ⟨r1, h1, h⟩ := ob h
  refine call_i (v := r1) (wc := (gA t (bk 4) 60 buf)) (wc' := (gA t (bk 4) 60 buf)) (ws' := (gBo bh bk bo ++ (gS t (bk 0) nb now ++ (gE t (bk 2) eb ex ++ (gA t (bk 4) 60 buf))))) (cutB (bs := [gBo bh bk bo, gS t (bk 0) nb now, gE t (bk 2) eb ex, gA t (bk 4) 60 buf]) (cs := [gA t (bk 4) 60 buf]) (cs' := [gA t (bk 4) 60 buf]) (bs' := [gBo bh bk bo, gS t (bk 0) nb now, gE t (bk 2) eb ex, gA t (bk 4) 60 buf]) [3] hP hD hS hA rfl rfl rfl rfl) hS (fun hPc hDc => va_runS (As := [.ref (bk 4), .int i]) (rest := []) ⟨hx, hb, hml, hown, hts⟩ (mtX2_at l D t (bk 4) 60 buf i r1 h1 (by decide) _) (va_cwS 2 hts (gBS kw104 kw105 kw2 kw106) rfl rfl rfl (by decide +kernel) ⟨Nat.le_of_ble_eq_true rfl, Nat.le_of_ble_eq_true rfl⟩) (sPc_S hPc hK hDc hE) rfl rfl hl.1 rfl (lv_room (Nat.le_of_ble_eq_true rfl)) dX2_playPart_5 ⟨Nat.zero_le _, Nat.zero_le _⟩) (fun H locs hP hD hS => ?_)
  refine lv_istore_n (lv' := [(3, .int r1), (0, .ref bh), (1, .int i), (2, .int j)]) hx hb dX2_playPart_8 rfl hl (by decide) rfl (fun ls hl => ?_)
  refine lv_iload_n hx hb dX2_playPart_9 rfl (lv_at hl 0 rfl) ?_
  refine lv_bipush (v := 119) hx hb dX2_playPart_10 (by decide) ?_
  refine lv_icmp_ne (tgt := 42) hx hb dX2_playPart_12 (by decide) (fun c2 => ?_) (fun c2 => ?_)
  · have h := it_n c2 h
    refine lv_iload_n hx hb dX2_playPart_42 rfl (lv_at hl 0 rfl) ?_
    refine lv_bipush (v := 99) hx hb dX2_playPart_43 (by decide) ?_
    refine lv_icmp_ne (tgt := 68) hx hb dX2_playPart_45 (by decide) (fun c3 => ?_) (fun c3 => ?_)
    · have h := it_n c3 h
      refine lv_iload_n hx hb dX2_playPart_68 rfl (lv_at hl 3 rfl) ?_
      refine lv_iload_n hx hb dX2_playPart_69 rfl (lv_at hl 2 rfl) ?_
      refine lv_isub hx hb dX2_playPart_70 ?_
      refine lv_iconst (v := 1) hx hb dX2_playPart_71 (by decide) ?_
      refine lv_icmp_le (tgt := 85) hx hb dX2_playPart_72 (by decide) (fun c4 => ?_) (fun c4 => ?_)
      · have h := it_p c4 h
        refine lv_iconst (v := 1) hx hb dX2_playPart_85 (by decide) ?_
        exact J86 (now, ex, i, 1) h _ _ hP hD hS _ (lv_sub hl [1, 2] rfl)
      · have h := it_n c4 h
        refine lv_aload_n hx hb dX2_playPart_75 rfl (lv_at hl 1 rfl) ?_
        refine lv_iload_n hx hb dX2_playPart_76 rfl (lv_at hl 2 rfl) ?_
        refine lv_iconst (v := 2) hx hb dX2_playPart_77 (by decide) ?_
        refine lv_iadd hx hb dX2_playPart_78 ?_
        obtain ⟨r5, h5, h⟩ := ob h
        refine call_i (v := r5) (wc := (gBo bh bk bo ++ (gA t (bk 4) 60 buf))) (wc' := (gBo bh bk bo ++ (gA t (bk 4) 60 buf))) (ws' := (gBo bh bk bo ++ (gS t (bk 0) nb now ++ (gE t (bk 2) eb ex ++ (gA t (bk 4) 60 buf))))) (cutB (bs := [gBo bh bk bo, gS t (bk 0) nb now, gE t (bk 2) eb ex, gA t (bk 4) 60 buf]) (cs := [gBo bh bk bo, gA t (bk 4) 60 buf]) (cs' := [gBo bh bk bo, gA t (bk 4) 60 buf]) (bs' := [gBo bh bk bo, gS t (bk 0) nb now, gE t (bk 2) eb ex, gA t (bk 4) 60 buf]) [0, 3] hP hD hS hA rfl rfl rfl rfl) hS (fun hPc hDc => va_runV (As := [.int (i + 2)]) (rest := []) ⟨hx, hb, hml, hown, hts⟩ (mtX2_digitAt l D t bh bk bo buf (i + 2) r5 h5 _) (cwV 1 hts (gBV kw403 kw404 kw405 kw2 kw406) rfl rfl rfl (by decide +kernel) ⟨Nat.le_of_ble_eq_true rfl, Nat.le_of_ble_eq_true rfl⟩) (sPc_V hPc hK hDc hE (va_recv hK hP (ci := 2) (q0 := 0) rfl rfl)) rfl rfl hl.1 rfl (lv_room (Nat.le_of_ble_eq_true rfl)) dX2_playPart_79 ⟨Nat.zero_le _, Nat.zero_le _⟩) (fun H locs hP hD hS => ?_)
        refine lv_goto (tgt := 86) hx hb dX2_playPart_82 (by decide) ?_
        exact J86 (now, ex, i, r5) h _ _ hP hD hS _ (lv_sub hl [1, 2] rfl)
    · have h := it_p c3 h
      refine lv_aload_n hx hb dX2_playPart_48 rfl (lv_at hl 1 rfl) ?_
      refine va_get (D := D) (ci := 2) (v := .ref (bk 0)) (C := RX2) (T := TX2) (N := 8) hx hb htB inlX2 hown hK hP 0 rfl rfl 0 (by decide) (htB _ kw17) (fun _ h9 => h9) rfl dX2_playPart_49 ?_
      refine va_get (D := D) (ci := 1) (v := .ref (nb 1)) (C := RX1) (T := TX1) (N := 10) hx hb htB inlX1 hown hK hP 1 rfl rfl 1 (by decide) (htB _ kw166) (fun _ h9 => h9) rfl dX2_playPart_52 ?_
      refine lv_aload_n hx hb dX2_playPart_55 rfl (lv_at hl 1 rfl) ?_
      refine lv_iload_n hx hb dX2_playPart_56 rfl (lv_at hl 2 rfl) ?_
      refine lv_iconst (v := 1) hx hb dX2_playPart_57 (by decide) ?_
      refine lv_iadd hx hb dX2_playPart_58 ?_
      obtain ⟨r6, h6, h⟩ := ob h
      refine call_i (v := r6) (wc := (gBo bh bk bo ++ (gA t (bk 4) 60 buf))) (wc' := (gBo bh bk bo ++ (gA t (bk 4) 60 buf))) (ws' := (gBo bh bk bo ++ (gS t (bk 0) nb now ++ (gE t (bk 2) eb ex ++ (gA t (bk 4) 60 buf))))) (cutB (bs := [gBo bh bk bo, gS t (bk 0) nb now, gE t (bk 2) eb ex, gA t (bk 4) 60 buf]) (cs := [gBo bh bk bo, gA t (bk 4) 60 buf]) (cs' := [gBo bh bk bo, gA t (bk 4) 60 buf]) (bs' := [gBo bh bk bo, gS t (bk 0) nb now, gE t (bk 2) eb ex, gA t (bk 4) 60 buf]) [0, 3] hP hD hS hA rfl rfl rfl rfl) hS (fun hPc hDc => va_runV (As := [.int (i + 1)]) (rest := [.ref (nb 1)]) ⟨hx, hb, hml, hown, hts⟩ (mtX2_digitAt l D t bh bk bo buf (i + 1) r6 h6 _) (cwV 1 hts (gBV kw403 kw404 kw405 kw2 kw406) rfl rfl rfl (by decide +kernel) ⟨Nat.le_of_ble_eq_true rfl, Nat.le_of_ble_eq_true rfl⟩) (sPc_V hPc hK hDc hE (va_recv hK hP (ci := 2) (q0 := 0) rfl rfl)) rfl rfl hl.1 rfl (lv_room (Nat.le_of_ble_eq_true rfl)) dX2_playPart_59 ⟨Nat.zero_le _, Nat.zero_le _⟩) (fun H locs hP hD hS => ?_)
      refine lv_iconst (v := 0) hx hb dX2_playPart_62 (by decide) ?_
      obtain ⟨r7, h7, h⟩ := ob h
      refine call_v (wc := (gA t (nb 1) 2 now.2.1)) (wc' := (gA t (nb 1) 2 r7)) (ws' := (gBo bh bk bo ++ (gS t (bk 0) nb (now.1, r7, now.2.2.1, now.2.2.2.1, now.2.2.2.2.1, now.2.2.2.2.2.1, now.2.2.2.2.2.2.1, now.2.2.2.2.2.2.2.1, now.2.2.2.2.2.2.2.2.1, now.2.2.2.2.2.2.2.2.2) ++ (gE t (bk 2) eb ex ++ (gA t (bk 4) 60 buf))))) (cutI (wc := (gA t (nb 1) 2 now.2.1)) (wc' := (gA t (nb 1) 2 r7)) (ws' := (gBo bh bk bo ++ (gS t (bk 0) nb (now.1, r7, now.2.2.1, now.2.2.2.1, now.2.2.2.2.1, now.2.2.2.2.2.1, now.2.2.2.2.2.2.1, now.2.2.2.2.2.2.2.1, now.2.2.2.2.2.2.2.2.1, now.2.2.2.2.2.2.2.2.2) ++ (gE t (bk 2) eb ex ++ (gA t (bk 4) 60 buf))))) [3] hP hD hS hA rfl rfl rfl rfl) hS (fun hPc hDc => va_runS (As := [.ref (nb 1), .int r6, .int 0]) (rest := []) ⟨hx, hb, hml, hown, hts⟩ (mtX2_put l D t (nb 1) 2 now.2.1 r6 0 r7 h7 (by decide) _) (va_cwS 3 hts (gBS kw107 kw108 kw2 kw109) rfl rfl rfl (by decide +kernel) ⟨Nat.le_of_ble_eq_true rfl, Nat.le_of_ble_eq_true rfl⟩) (sPc_S hPc hK hDc hE) rfl rfl hl.1 rfl (lv_room (Nat.le_of_ble_eq_true rfl)) dX2_playPart_63 ⟨Nat.zero_le _, Nat.zero_le _⟩) (fun H locs hP hD hS => ?_)
      refine lv_iconst (v := 0) hx hb dX2_playPart_66 (by decide) ?_
      obtain rfl := os h
      exact ret_i hx hb hr hlocks hP hK hD hS dX2_playPart_67
  · have h := it_p c2 h
    refine lv_aload_n hx hb dX2_playPart_15 rfl (lv_at hl 1 rfl) ?_
    refine va_get (D := D) (ci := 2) (v := .ref (bk 0)) (C := RX2) (T := TX2) (N := 8) hx hb htB inlX2 hown hK hP 0 rfl rfl 0 (by decide) (htB _ kw17) (fun _ h9 => h9) rfl dX2_playPart_16 ?_
    refine va_get (D := D) (ci := 1) (v := .ref (nb 0)) (C := RX1) (T := TX1) (N := 10) hx hb htB inlX1 hown hK hP 1 rfl rfl 0 (by decide) (htB _ kw72) (fun _ h9 => h9) rfl dX2_playPart_19 ?_
    refine lv_aload_n hx hb dX2_playPart_22 rfl (lv_at hl 1 rfl) ?_
    refine lv_iload_n hx hb dX2_playPart_23 rfl (lv_at hl 2 rfl) ?_
    refine lv_iconst (v := 1) hx hb dX2_playPart_24 (by decide) ?_
    refine lv_iadd hx hb dX2_playPart_25 ?_
    obtain ⟨r8, h8, h⟩ := ob h
    refine call_i (v := r8) (wc := (gBo bh bk bo ++ (gA t (bk 4) 60 buf))) (wc' := (gBo bh bk bo ++ (gA t (bk 4) 60 buf))) (ws' := (gBo bh bk bo ++ (gS t (bk 0) nb now ++ (gE t (bk 2) eb ex ++ (gA t (bk 4) 60 buf))))) (cutB (bs := [gBo bh bk bo, gS t (bk 0) nb now, gE t (bk 2) eb ex, gA t (bk 4) 60 buf]) (cs := [gBo bh bk bo, gA t (bk 4) 60 buf]) (cs' := [gBo bh bk bo, gA t (bk 4) 60 buf]) (bs' := [gBo bh bk bo, gS t (bk 0) nb now, gE t (bk 2) eb ex, gA t (bk 4) 60 buf]) [0, 3] hP hD hS hA rfl rfl rfl rfl) hS (fun hPc hDc => va_runV (As := [.int (i + 1)]) (rest := [.ref (nb 0)]) ⟨hx, hb, hml, hown, hts⟩ (mtX2_digitAt l D t bh bk bo buf (i + 1) r8 h8 _) (cwV 1 hts (gBV kw403 kw404 kw405 kw2 kw406) rfl rfl rfl (by decide +kernel) ⟨Nat.le_of_ble_eq_true rfl, Nat.le_of_ble_eq_true rfl⟩) (sPc_V hPc hK hDc hE (va_recv hK hP (ci := 2) (q0 := 0) rfl rfl)) rfl rfl hl.1 rfl (lv_room (Nat.le_of_ble_eq_true rfl)) dX2_playPart_26 ⟨Nat.zero_le _, Nat.zero_le _⟩) (fun H locs hP hD hS => ?_)
    refine lv_aload_n hx hb dX2_playPart_29 rfl (lv_at hl 1 rfl) ?_
    refine lv_iload_n hx hb dX2_playPart_30 rfl (lv_at hl 2 rfl) ?_
    refine lv_iconst (v := 3) hx hb dX2_playPart_31 (by decide) ?_
    refine lv_iadd hx hb dX2_playPart_32 ?_
    refine lv_iload_n hx hb dX2_playPart_33 rfl (lv_at hl 3 rfl) ?_
    obtain ⟨r9, h9, h⟩ := ob h
    refine call_i (v := r9) (wc := (gBo bh bk bo ++ (gA t (bk 4) 60 buf))) (wc' := (gBo bh bk bo ++ (gA t (bk 4) 60 buf))) (ws' := (gBo bh bk bo ++ (gS t (bk 0) nb now ++ (gE t (bk 2) eb ex ++ (gA t (bk 4) 60 buf))))) (cutB (bs := [gBo bh bk bo, gS t (bk 0) nb now, gE t (bk 2) eb ex, gA t (bk 4) 60 buf]) (cs := [gBo bh bk bo, gA t (bk 4) 60 buf]) (cs' := [gBo bh bk bo, gA t (bk 4) 60 buf]) (bs' := [gBo bh bk bo, gS t (bk 0) nb now, gE t (bk 2) eb ex, gA t (bk 4) 60 buf]) [0, 3] hP hD hS hA rfl rfl rfl rfl) hS (fun hPc hDc => va_runV (As := [.int (i + 3), .int j]) (rest := [.int r8, .ref (nb 0)]) ⟨hx, hb, hml, hown, hts⟩ (mtX2_springOfText l D t bh bk bo buf (i + 3) j r9 h9 _) (cwV 2 hts (gBV kw407 kw408 kw409 kw2 kw410) rfl rfl rfl (by decide +kernel) ⟨Nat.le_of_ble_eq_true rfl, Nat.le_of_ble_eq_true rfl⟩) (sPc_V hPc hK hDc hE (va_recv hK hP (ci := 2) (q0 := 0) rfl rfl)) rfl rfl hl.1 rfl (lv_room (Nat.le_of_ble_eq_true rfl)) dX2_playPart_34 ⟨Nat.zero_le _, Nat.zero_le _⟩) (fun H locs hP hD hS => ?_)
    obtain ⟨r10, h10, h⟩ := ob h
    refine call_v (wc := (gA t (nb 0) 2 now.1)) (wc' := (gA t (nb 0) 2 r10)) (ws' := (gBo bh bk bo ++ (gS t (bk 0) nb (r10, now.2.1, now.2.2.1, now.2.2.2.1, now.2.2.2.2.1, now.2.2.2.2.2.1, now.2.2.2.2.2.2.1, now.2.2.2.2.2.2.2.1, now.2.2.2.2.2.2.2.2.1, now.2.2.2.2.2.2.2.2.2) ++ (gE t (bk 2) eb ex ++ (gA t (bk 4) 60 buf))))) (cutI (wc := (gA t (nb 0) 2 now.1)) (wc' := (gA t (nb 0) 2 r10)) (ws' := (gBo bh bk bo ++ (gS t (bk 0) nb (r10, now.2.1, now.2.2.1, now.2.2.2.1, now.2.2.2.2.1, now.2.2.2.2.2.1, now.2.2.2.2.2.2.1, now.2.2.2.2.2.2.2.1, now.2.2.2.2.2.2.2.2.1, now.2.2.2.2.2.2.2.2.2) ++ (gE t (bk 2) eb ex ++ (gA t (bk 4) 60 buf))))) [2] hP hD hS hA rfl rfl rfl rfl) hS (fun hPc hDc => va_runS (As := [.ref (nb 0), .int r8, .int r9]) (rest := []) ⟨hx, hb, hml, hown, hts⟩ (mtX2_put l D t (nb 0) 2 now.1 r8 r9 r10 h10 (by decide) _) (va_cwS 3 hts (gBS kw107 kw108 kw2 kw109) rfl rfl rfl (by decide +kernel) ⟨Nat.le_of_ble_eq_true rfl, Nat.le_of_ble_eq_true rfl⟩) (sPc_S hPc hK hDc hE) rfl rfl hl.1 rfl (lv_room (Nat.le_of_ble_eq_true rfl)) dX2_playPart_37 ⟨Nat.zero_le _, Nat.zero_le _⟩) (fun H locs hP hD hS => ?_)
    refine lv_iconst (v := 0) hx hb dX2_playPart_40 (by decide) ?_
    obtain rfl := os h
    exact ret_i hx hb hr hlocks hP hK hD hS dX2_playPart_41

theorem dX2_isComplete_0 : decode cX2_isComplete 0 = .ok (.iconst 0, 1) := by decide +kernel
theorem dX2_isComplete_1 : decode cX2_isComplete 1 = .ok (.istore_n 1, 1) := by decide +kernel
theorem dX2_isComplete_2 : decode cX2_isComplete 2 = .ok (.iconst 0, 1) := by decide +kernel
theorem dX2_isComplete_3 : decode cX2_isComplete 3 = .ok (.istore_n 2, 1) := by decide +kernel
theorem dX2_isComplete_4 : decode cX2_isComplete 4 = .ok (.iload_n 2, 1) := by decide +kernel
theorem dX2_isComplete_5 : decode cX2_isComplete 5 = .ok (.aload_n 0, 1) := by decide +kernel
theorem dX2_isComplete_6 : decode cX2_isComplete 6 = .ok (.getfield 41, 3) := by decide +kernel
theorem dX2_isComplete_9 : decode cX2_isComplete 9 = .ok (.if_icmp .ge 28, 3) := by decide +kernel
theorem dX2_isComplete_12 : decode cX2_isComplete 12 = .ok (.iload_n 1, 1) := by decide +kernel
theorem dX2_isComplete_13 : decode cX2_isComplete 13 = .ok (.bipush 9, 2) := by decide +kernel
theorem dX2_isComplete_15 : decode cX2_isComplete 15 = .ok (.if_icmp .eq 22, 3) := by decide +kernel
theorem dX2_isComplete_18 : decode cX2_isComplete 18 = .ok (.iload_n 1, 1) := by decide +kernel
theorem dX2_isComplete_19 : decode cX2_isComplete 19 = .ok (.aload_n 0, 1) := by decide +kernel
theorem dX2_isComplete_20 : decode cX2_isComplete 20 = .ok (.getfield 37, 3) := by decide +kernel
theorem dX2_isComplete_23 : decode cX2_isComplete 23 = .ok (.iload_n 2, 1) := by decide +kernel
theorem dX2_isComplete_24 : decode cX2_isComplete 24 = .ok (.invokestatic 58, 3) := by decide +kernel
theorem dX2_isComplete_27 : decode cX2_isComplete 27 = .ok (.invokestatic 107, 3) := by decide +kernel
theorem dX2_isComplete_30 : decode cX2_isComplete 30 = .ok (.istore_n 1, 1) := by decide +kernel
theorem dX2_isComplete_31 : decode cX2_isComplete 31 = .ok (.iinc 2 1, 3) := by decide +kernel
theorem dX2_isComplete_34 : decode cX2_isComplete 34 = .ok (.goto (-30), 3) := by decide +kernel
theorem dX2_isComplete_37 : decode cX2_isComplete 37 = .ok (.iload_n 1, 1) := by decide +kernel
theorem dX2_isComplete_38 : decode cX2_isComplete 38 = .ok (.iconst 1, 1) := by decide +kernel
theorem dX2_isComplete_39 : decode cX2_isComplete 39 = .ok (.if_icmp .eq 14, 3) := by decide +kernel
theorem dX2_isComplete_42 : decode cX2_isComplete 42 = .ok (.iload_n 1, 1) := by decide +kernel
theorem dX2_isComplete_43 : decode cX2_isComplete 43 = .ok (.iconst 3, 1) := by decide +kernel
theorem dX2_isComplete_44 : decode cX2_isComplete 44 = .ok (.if_icmp .eq 9, 3) := by decide +kernel
theorem dX2_isComplete_47 : decode cX2_isComplete 47 = .ok (.iload_n 1, 1) := by decide +kernel
theorem dX2_isComplete_48 : decode cX2_isComplete 48 = .ok (.bipush 7, 2) := by decide +kernel
theorem dX2_isComplete_50 : decode cX2_isComplete 50 = .ok (.if_icmp .ne 7, 3) := by decide +kernel
theorem dX2_isComplete_53 : decode cX2_isComplete 53 = .ok (.iconst 1, 1) := by decide +kernel
theorem dX2_isComplete_54 : decode cX2_isComplete 54 = .ok (.goto 4, 3) := by decide +kernel
theorem dX2_isComplete_57 : decode cX2_isComplete 57 = .ok (.iconst 0, 1) := by decide +kernel
theorem dX2_isComplete_58 : decode cX2_isComplete 58 = .ok (.ireturn, 1) := by decide +kernel
abbrev zX2_isComplete : List Cond := .code yX2_isComplete cX2_isComplete 3 (some .boolean) :: BIG
def fX2_isComplete_j37 (bo : BoT) (buf : (Nat → Int32))  (v37 : Int32) : Option (Bool) := (if v37 = 1 then some true else (if v37 = 3 then some true else (if v37 = 7 then some true else some false)))
def fX2_isComplete_l4 (bo : BoT) (buf : (Nat → Int32))  (K4 : (Int32 × Int32) → Option (Bool)) (v4 : Int32 × Int32) : Option (Bool) := (if bo.2.2 ≤ v4.2 then fX2_isComplete_j37 bo buf v4.1 else (if v4.1 = 9 then fX2_isComplete_j37 bo buf v4.1 else (fX2_at 60 buf v4.2).bind (fun r3 => (fX2_placeAfter v4.1 r3).bind (fun r4 => K4 (r4, v4.2 + 1)))))
def fX2_isComplete (bo : BoT) (buf : (Nat → Int32)) : Option (Bool) := lp (fX2_isComplete_l4 bo buf) 2000 (0, 0)
set_option maxHeartbeats 4000000 in
set_option maxRecDepth 100000 in
theorem mtX2_isComplete (l : Launch) (D : va_G) (t : Nat → ClassId) (bh : Nat) (bk : Nat → Nat) (bo : BoT) (buf : (Nat → Int32)) (out : Bool) (h : fX2_isComplete bo buf = some out)  (sz : Nat) : Met l yX2_isComplete zX2_isComplete ({ frames := 2, cells := 0, slots := 0, locals := 41 }) (sPc D t (gBo bh bk bo ++ (gA t (bk 4) 60 buf)) sz [.ref bh]) (qI D t (gBo bh bk bo ++ (gA t (bk 4) 60 buf)) (b2i out) (va_A (gBo bh bk bo ++ (gA t (bk 4) 60 buf)) sz)) 0 0 (va_A (gBo bh bk bo ++ (gA t (bk 4) 60 buf)) sz) := by
  refine met_of (Qf := fun A => qI D t (gBo bh bk bo ++ (gA t (bk 4) 60 buf)) (b2i out) A) (cc := cX2_isComplete) (maxL := 3) (ret := some .boolean) (by decide) rfl (Nat.le_of_ble_eq_true rfl) ?_
  intro p e s m args below meth c A hx hb hr hml hts hown hlocks hA hP hK hD hE hS ls hl
  have htB : ∀ w ∈ BIG, w.before args s = true := fun w h => hts w (List.mem_cons_of_mem _ h)
  have hown : s.vm.findClass RX2 = some m.cls := hown
  have hl : lv_has ls 3 [(0, .ref bh)] := hl
  unfold fX2_isComplete at h
  have J37 : ∀ v37 : Int32, fX2_isComplete_j37 bo buf v37 = some out → ∀ (H : Heap) (locs : List Loc), va_P D vwCl (gBo bh bk bo ++ (gA t (bk 4) 60 buf)) H → va_D A (gBo bh bk bo ++ (gA t (bk 4) 60 buf)) → va_S A s.heap H locs → ∀ ls : Array Slot, lv_has ls 3 [(1, .int v37)] → W p l e ({ frames := 2, cells := 0, slots := 0, locals := 41 }) s m args below meth c H locs 0 0 (MQ below (qI D t (gBo bh bk bo ++ (gA t (bk 4) 60 buf)) (b2i out) A) args s 0 0 A) (F0 m 37 ls []) := by
    intro v37 h H locs hP hD hS ls hl
    unfold fX2_isComplete_j37 at h
    refine lv_iload_n hx hb dX2_isComplete_37 rfl (lv_at hl 0 rfl) ?_
    refine lv_iconst (v := 1) hx hb dX2_isComplete_38 (by decide) ?_
    refine lv_icmp_eq (tgt := 53) hx hb dX2_isComplete_39 (by decide) (fun c5 => ?_) (fun c5 => ?_)
    · have h := it_p c5 h
      refine lv_iconst (v := 1) hx hb dX2_isComplete_53 (by decide) ?_
      refine lv_goto (tgt := 58) hx hb dX2_isComplete_54 (by decide) ?_
      obtain rfl := os h
      exact ret_z hx hb hr hlocks hP hK hD hS dX2_isComplete_58
    · have h := it_n c5 h
      refine lv_iload_n hx hb dX2_isComplete_42 rfl (lv_at hl 0 rfl) ?_
      refine lv_iconst (v := 3) hx hb dX2_isComplete_43 (by decide) ?_
      refine lv_icmp_eq (tgt := 53) hx hb dX2_isComplete_44 (by decide) (fun c6 => ?_) (fun c6 => ?_)
      · have h := it_p c6 h
        refine lv_iconst (v := 1) hx hb dX2_isComplete_53 (by decide) ?_
        refine lv_goto (tgt := 58) hx hb dX2_isComplete_54 (by decide) ?_
        obtain rfl := os h
        exact ret_z hx hb hr hlocks hP hK hD hS dX2_isComplete_58
      · have h := it_n c6 h
        refine lv_iload_n hx hb dX2_isComplete_47 rfl (lv_at hl 0 rfl) ?_
        refine lv_bipush (v := 7) hx hb dX2_isComplete_48 (by decide) ?_
        refine lv_icmp_ne (tgt := 57) hx hb dX2_isComplete_50 (by decide) (fun c7 => ?_) (fun c7 => ?_)
        · have h := it_n c7 h
          refine lv_iconst (v := 0) hx hb dX2_isComplete_57 (by decide) ?_
          obtain rfl := os h
          exact ret_z hx hb hr hlocks hP hK hD hS dX2_isComplete_58
        · have h := it_p c7 h
          refine lv_iconst (v := 1) hx hb dX2_isComplete_53 (by decide) ?_
          refine lv_goto (tgt := 58) hx hb dX2_isComplete_54 (by decide) ?_
          obtain rfl := os h
          exact ret_z hx hb hr hlocks hP hK hD hS dX2_isComplete_58
  have J4 : ∀ (fu4 : Nat) (v4 : Int32 × Int32), lp (fX2_isComplete_l4 bo buf) fu4 v4 = some out → ∀ (H : Heap) (locs : List Loc), va_P D vwCl (gBo bh bk bo ++ (gA t (bk 4) 60 buf)) H → va_D A (gBo bh bk bo ++ (gA t (bk 4) 60 buf)) → va_S A s.heap H locs → ∀ ls : Array Slot, lv_has ls 3 [(0, .ref bh), (1, .int v4.1), (2, .int v4.2)] → W p l e ({ frames := 2, cells := 0, slots := 0, locals := 41 }) s m args below meth c H locs 0 0 (MQ below (qI D t (gBo bh bk bo ++ (gA t (bk 4) 60 buf)) (b2i out) A) args s 0 0 A) (F0 m 4 ls []) := by
    intro fu4
    induction fu4 with
    | zero => intro v4 h; cases h
    | succ fu4 ih4 =>
      intro v4 h H locs hP hD hS ls hl
      have h : fX2_isComplete_l4 bo buf (lp (fX2_isComplete_l4 bo buf) fu4) v4 = some out := h
      unfold fX2_isComplete_l4 at h
      refine lv_iload_n hx hb dX2_isComplete_4 rfl (lv_at hl 2 rfl) ?_
      refine lv_aload_n hx hb dX2_isComplete_5 rfl (lv_at hl 0 rfl) ?_
      refine va_get (D := D) (ci := 2) (v := .int bo.2.2) (C := RX2) (T := TX2) (N := 8) hx hb htB inlX2 hown hK hP 0 rfl rfl 7 (by decide) (htB _ kw28) (fun _ h9 => h9) rfl dX2_isComplete_6 ?_
      refine lv_icmp_ge (tgt := 37) hx hb dX2_isComplete_9 (by decide) (fun c1 => ?_) (fun c1 => ?_)
      · have h := it_p c1 h
        exact J37 v4.1 h _ _ hP hD hS _ (lv_sub hl [1] rfl)
      · have h := it_n c1 h
        refine lv_iload_n hx hb dX2_isComplete_12 rfl (lv_at hl 1 rfl) ?_
        refine lv_bipush (v := 9) hx hb dX2_isComplete_13 (by decide) ?_
        refine lv_icmp_eq (tgt := 37) hx hb dX2_isComplete_15 (by decide) (fun c2 => ?_) (fun c2 => ?_)
        · have h := it_p c2 h
          exact J37 v4.1 h _ _ hP hD hS _ (lv_sub hl [1] rfl)
        · have h := it_n c2 h
          refine lv_iload_n hx hb dX2_isComplete_18 rfl (lv_at hl 1 rfl) ?_
          refine lv_aload_n hx hb dX2_isComplete_19 rfl (lv_at hl 0 rfl) ?_
          refine va_get (D := D) (ci := 2) (v := .ref (bk 4)) (C := RX2) (T := TX2) (N := 8) hx hb htB inlX2 hown hK hP 0 rfl rfl 6 (by decide) (htB _ kw27) (fun _ h9 => h9) rfl dX2_isComplete_20 ?_
          refine lv_iload_n hx hb dX2_isComplete_23 rfl (lv_at hl 2 rfl) ?_
          obtain ⟨r3, h3, h⟩ := ob h
          refine call_i (v := r3) (wc := (gA t (bk 4) 60 buf)) (wc' := (gA t (bk 4) 60 buf)) (ws' := (gBo bh bk bo ++ (gA t (bk 4) 60 buf))) (cutB (bs := [gBo bh bk bo, gA t (bk 4) 60 buf]) (cs := [gA t (bk 4) 60 buf]) (cs' := [gA t (bk 4) 60 buf]) (bs' := [gBo bh bk bo, gA t (bk 4) 60 buf]) [1] hP hD hS hA rfl rfl rfl rfl) hS (fun hPc hDc => va_runS (As := [.ref (bk 4), .int v4.2]) (rest := [.int v4.1]) ⟨hx, hb, hml, hown, hts⟩ (mtX2_at l D t (bk 4) 60 buf v4.2 r3 h3 (by decide) _) (va_cwS 2 hts (gBS kw104 kw105 kw2 kw106) rfl rfl rfl (by decide +kernel) ⟨Nat.le_of_ble_eq_true rfl, Nat.le_of_ble_eq_true rfl⟩) (sPc_S hPc hK hDc hE) rfl rfl hl.1 rfl (lv_room (Nat.le_of_ble_eq_true rfl)) dX2_isComplete_24 ⟨Nat.zero_le _, Nat.zero_le _⟩) (fun H locs hP hD hS => ?_)
          obtain ⟨r4, h4, h⟩ := ob h
          refine call_i (v := r4) (wc := ([] : va_W)) (wc' := ([] : va_W)) (ws' := (gBo bh bk bo ++ (gA t (bk 4) 60 buf))) (cutB (bs := [gBo bh bk bo, gA t (bk 4) 60 buf]) (cs := []) (cs' := []) (bs' := [gBo bh bk bo, gA t (bk 4) 60 buf]) [] hP hD hS hA rfl rfl rfl rfl) hS (fun hPc hDc => va_runS (As := [.int v4.1, .int r3]) (rest := []) ⟨hx, hb, hml, hown, hts⟩ (mtX2_placeAfter l D t v4.1 r3 r4 h4 _) (va_cwS 2 hts (gBS kw345 kw346 kw2 kw347) rfl rfl rfl (by decide +kernel) ⟨Nat.le_of_ble_eq_true rfl, Nat.le_of_ble_eq_true rfl⟩) (sPc_S hPc hK hDc hE) rfl rfl hl.1 rfl (lv_room (Nat.le_of_ble_eq_true rfl)) dX2_isComplete_27 ⟨Nat.zero_le _, Nat.zero_le _⟩) (fun H locs hP hD hS => ?_)
          refine lv_istore_n (lv' := [(1, .int r4), (0, .ref bh), (2, .int v4.2)]) hx hb dX2_isComplete_30 rfl hl (by decide) rfl (fun ls hl => ?_)
          refine lv_iinc (v := v4.2 + 1) (lv' := [(2, .int (v4.2 + 1)), (1, .int r4), (0, .ref bh)]) hx hb dX2_isComplete_31 hl (k := 2) rfl rfl (by decide) rfl (fun ls hl => ?_)
          refine lv_goto (tgt := 4) hx hb dX2_isComplete_34 (by decide) ?_
          exact ih4 (r4, v4.2 + 1) h _ _ hP hD hS _ (lv_sub hl [2, 1, 0] rfl)
  refine lv_iconst (v := 0) hx hb dX2_isComplete_0 (by decide) ?_
  refine lv_istore_n (lv' := [(1, .int 0), (0, .ref bh)]) hx hb dX2_isComplete_1 rfl hl (by decide) rfl (fun ls hl => ?_)
  refine lv_iconst (v := 0) hx hb dX2_isComplete_2 (by decide) ?_
  refine lv_istore_n (lv' := [(2, .int 0), (1, .int 0), (0, .ref bh)]) hx hb dX2_isComplete_3 rfl hl (by decide) rfl (fun ls hl => ?_)
  exact J4 2000 (0, 0) h _ _ hP hD hS _ (lv_sub hl [2, 1, 0] rfl)

theorem dX2_bitsOfShare_0 : decode cX2_bitsOfShare 0 = .ok (.dload_n 0, 1) := by decide +kernel
theorem dX2_bitsOfShare_1 : decode cX2_bitsOfShare 1 = .ok (.dconst 0, 1) := by decide +kernel
theorem dX2_bitsOfShare_2 : decode cX2_bitsOfShare 2 = .ok (.dcmp .g, 1) := by decide +kernel
theorem dX2_bitsOfShare_3 : decode cX2_bitsOfShare 3 = .ok (.ifCond .gt 5, 3) := by decide +kernel
theorem dX2_bitsOfShare_6 : decode cX2_bitsOfShare 6 = .ok (.lconst 0, 1) := by decide +kernel
theorem dX2_bitsOfShare_7 : decode cX2_bitsOfShare 7 = .ok (.lreturn, 1) := by decide +kernel
theorem dX2_bitsOfShare_8 : decode cX2_bitsOfShare 8 = .ok (.ldc2_w 262, 3) := by decide +kernel
theorem dX2_bitsOfShare_11 : decode cX2_bitsOfShare 11 = .ok (.lstore_n 2, 1) := by decide +kernel
theorem dX2_bitsOfShare_12 : decode cX2_bitsOfShare 12 = .ok (.dload_n 0, 1) := by decide +kernel
theorem dX2_bitsOfShare_13 : decode cX2_bitsOfShare 13 = .ok (.dstore 4, 2) := by decide +kernel
theorem dX2_bitsOfShare_15 : decode cX2_bitsOfShare 15 = .ok (.iconst 0, 1) := by decide +kernel
theorem dX2_bitsOfShare_16 : decode cX2_bitsOfShare 16 = .ok (.istore 6, 2) := by decide +kernel
theorem dX2_bitsOfShare_18 : decode cX2_bitsOfShare 18 = .ok (.iload 6, 2) := by decide +kernel
theorem dX2_bitsOfShare_20 : decode cX2_bitsOfShare 20 = .ok (.sipush 1022, 3) := by decide +kernel
theorem dX2_bitsOfShare_23 : decode cX2_bitsOfShare 23 = .ok (.if_icmp .ge 28, 3) := by decide +kernel
theorem dX2_bitsOfShare_26 : decode cX2_bitsOfShare 26 = .ok (.dload 4, 2) := by decide +kernel
theorem dX2_bitsOfShare_28 : decode cX2_bitsOfShare 28 = .ok (.dconst 1, 1) := by decide +kernel
theorem dX2_bitsOfShare_29 : decode cX2_bitsOfShare 29 = .ok (.dcmp .g, 1) := by decide +kernel
theorem dX2_bitsOfShare_30 : decode cX2_bitsOfShare 30 = .ok (.ifCond .ge 21, 3) := by decide +kernel
theorem dX2_bitsOfShare_33 : decode cX2_bitsOfShare 33 = .ok (.dload 4, 2) := by decide +kernel
theorem dX2_bitsOfShare_35 : decode cX2_bitsOfShare 35 = .ok (.ldc2_w 264, 3) := by decide +kernel
theorem dX2_bitsOfShare_38 : decode cX2_bitsOfShare 38 = .ok (.dmul, 1) := by decide +kernel
theorem dX2_bitsOfShare_39 : decode cX2_bitsOfShare 39 = .ok (.dstore 4, 2) := by decide +kernel
theorem dX2_bitsOfShare_41 : decode cX2_bitsOfShare 41 = .ok (.lload_n 2, 1) := by decide +kernel
theorem dX2_bitsOfShare_42 : decode cX2_bitsOfShare 42 = .ok (.lconst 1, 1) := by decide +kernel
theorem dX2_bitsOfShare_43 : decode cX2_bitsOfShare 43 = .ok (.lsub, 1) := by decide +kernel
theorem dX2_bitsOfShare_44 : decode cX2_bitsOfShare 44 = .ok (.lstore_n 2, 1) := by decide +kernel
theorem dX2_bitsOfShare_45 : decode cX2_bitsOfShare 45 = .ok (.iinc 6 1, 3) := by decide +kernel
theorem dX2_bitsOfShare_48 : decode cX2_bitsOfShare 48 = .ok (.goto (-30), 3) := by decide +kernel
theorem dX2_bitsOfShare_51 : decode cX2_bitsOfShare 51 = .ok (.lload_n 2, 1) := by decide +kernel
theorem dX2_bitsOfShare_52 : decode cX2_bitsOfShare 52 = .ok (.bipush 52, 2) := by decide +kernel
theorem dX2_bitsOfShare_54 : decode cX2_bitsOfShare 54 = .ok (.lshl, 1) := by decide +kernel
theorem dX2_bitsOfShare_55 : decode cX2_bitsOfShare 55 = .ok (.dload 4, 2) := by decide +kernel
theorem dX2_bitsOfShare_57 : decode cX2_bitsOfShare 57 = .ok (.dconst 1, 1) := by decide +kernel
theorem dX2_bitsOfShare_58 : decode cX2_bitsOfShare 58 = .ok (.dsub, 1) := by decide +kernel
theorem dX2_bitsOfShare_59 : decode cX2_bitsOfShare 59 = .ok (.ldc2_w 266, 3) := by decide +kernel
theorem dX2_bitsOfShare_62 : decode cX2_bitsOfShare 62 = .ok (.dmul, 1) := by decide +kernel
theorem dX2_bitsOfShare_63 : decode cX2_bitsOfShare 63 = .ok (.d2l, 1) := by decide +kernel
theorem dX2_bitsOfShare_64 : decode cX2_bitsOfShare 64 = .ok (.ladd, 1) := by decide +kernel
theorem dX2_bitsOfShare_65 : decode cX2_bitsOfShare 65 = .ok (.lreturn, 1) := by decide +kernel
abbrev zX2_bitsOfShare : List Cond := .code yX2_bitsOfShare cX2_bitsOfShare 7 (some .long) :: BIG
def fX2_bitsOfShare_j51   (v51 : Int64 × UInt64) : Option (Int64) := gd (nn64 (FP.dsub v51.2 FP.dconst1)) (gd (nn64 (FP.dmul (FP.dsub v51.2 FP.dconst1) 4841369599423283200)) (some ((v51.1 <<< ((52 : Int32).toInt64 &&& 63)) + (FP.d2l (FP.dmul (FP.dsub v51.2 FP.dconst1) 4841369599423283200)))))
def fX2_bitsOfShare_l18   (K18 : (Int64 × UInt64 × Int32) → Option (Int64)) (v18 : Int64 × UInt64 × Int32) : Option (Int64) := (if 1022 ≤ v18.2.2 then fX2_bitsOfShare_j51 (v18.1, v18.2.1) else (if 0 ≤ (Op.cmpValue (FP.dcmp v18.2.1 FP.dconst1) CmpOp.g) then fX2_bitsOfShare_j51 (v18.1, v18.2.1) else gd (nn64 (FP.dmul v18.2.1 4611686018427387904)) (K18 (v18.1 - 1, FP.dmul v18.2.1 4611686018427387904, v18.2.2 + 1))))
def fX2_bitsOfShare (x : UInt64) : Option (Int64) := (if 0 < (Op.cmpValue (FP.dcmp x FP.dconst0) CmpOp.g) then lp (fX2_bitsOfShare_l18) 2000 (1023, x, 0) else some 0)
set_option maxHeartbeats 4000000 in
set_option maxRecDepth 100000 in
theorem mtX2_bitsOfShare (l : Launch) (D : va_G) (t : Nat → ClassId) (x : UInt64) (out : Int64) (h : fX2_bitsOfShare x = some out)  (sz : Nat) : Met l yX2_bitsOfShare zX2_bitsOfShare ({ frames := 0, cells := 0, slots := 0, locals := 0 }) (sPc D t ([] : va_W) sz [.double x]) (qJ D t ([] : va_W) out (va_A ([] : va_W) sz)) 0 0 (va_A ([] : va_W) sz) := by
  refine met_of (Qf := fun A => qJ D t ([] : va_W) out A) (cc := cX2_bitsOfShare) (maxL := 7) (ret := some .long) (by decide) rfl (Nat.le_of_ble_eq_true rfl) ?_
  intro p e s m args below meth c A hx hb hr hml hts hown hlocks hA hP hK hD hE hS ls hl
  have htB : ∀ w ∈ BIG, w.before args s = true := fun w h => hts w (List.mem_cons_of_mem _ h)
  have hown : s.vm.findClass RX2 = some m.cls := hown
  have hl : lv_has ls 7 [(0, .double x)] := hl
  unfold fX2_bitsOfShare at h
  have J51 : ∀ v51 : Int64 × UInt64, fX2_bitsOfShare_j51 v51 = some out → ∀ (H : Heap) (locs : List Loc), va_P D vwCl ([] : va_W) H → va_D A ([] : va_W) → va_S A s.heap H locs → ∀ ls : Array Slot, lv_has ls 7 [(2, .long v51.1), (4, .double v51.2)] → W p l e ({ frames := 0, cells := 0, slots := 0, locals := 0 }) s m args below meth c H locs 0 0 (MQ below (qJ D t ([] : va_W) out A) args s 0 0 A) (F0 m 51 ls []) := by
    intro v51 h H locs hP hD hS ls hl
    unfold fX2_bitsOfShare_j51 at h
    refine lv_lload_n hx hb dX2_bitsOfShare_51 rfl (lv_at hl 0 rfl) ?_
    refine lv_bipush (v := 52) hx hb dX2_bitsOfShare_52 (by decide) ?_
    refine lv_lshl (v := v51.1 <<< ((52 : Int32).toInt64 &&& 63)) hx hb dX2_bitsOfShare_54 rfl ?_
    refine lv_dload hx hb dX2_bitsOfShare_55 (lv_at hl 1 rfl) ?_
    refine lv_dconst1 hx hb dX2_bitsOfShare_57 ?_
    obtain ⟨g5, h⟩ := og h
    refine lv_dsub hx hb dX2_bitsOfShare_58 (nn_n64 g5) ?_
    refine lv_ldc2d (v := 4841369599423283200) hx hb hown (htB _ kw632) dX2_bitsOfShare_59 ?_
    obtain ⟨g6, h⟩ := og h
    refine lv_dmul hx hb dX2_bitsOfShare_62 (nn_n64 g6) ?_
    refine lv_d2l hx hb dX2_bitsOfShare_63 ?_
    refine lv_ladd hx hb dX2_bitsOfShare_64 ?_
    obtain rfl := os h
    exact ret_j hx hb hr hlocks hP hK hD hS dX2_bitsOfShare_65
  have J18 : ∀ (fu18 : Nat) (v18 : Int64 × UInt64 × Int32), lp (fX2_bitsOfShare_l18) fu18 v18 = some out → ∀ (H : Heap) (locs : List Loc), va_P D vwCl ([] : va_W) H → va_D A ([] : va_W) → va_S A s.heap H locs → ∀ ls : Array Slot, lv_has ls 7 [(2, .long v18.1), (4, .double v18.2.1), (6, .int v18.2.2)] → W p l e ({ frames := 0, cells := 0, slots := 0, locals := 0 }) s m args below meth c H locs 0 0 (MQ below (qJ D t ([] : va_W) out A) args s 0 0 A) (F0 m 18 ls []) := by
    intro fu18
    induction fu18 with
    | zero => intro v18 h; cases h
    | succ fu18 ih18 =>
      intro v18 h H locs hP hD hS ls hl
      have h : fX2_bitsOfShare_l18 (lp (fX2_bitsOfShare_l18) fu18) v18 = some out := h
      unfold fX2_bitsOfShare_l18 at h
      refine lv_iload hx hb dX2_bitsOfShare_18 (lv_at hl 2 rfl) ?_
      refine lv_sipush (v := 1022) hx hb dX2_bitsOfShare_20 (by decide) ?_
      refine lv_icmp_ge (tgt := 51) hx hb dX2_bitsOfShare_23 (by decide) (fun c2 => ?_) (fun c2 => ?_)
      · have h := it_p c2 h
        exact J51 (v18.1, v18.2.1) h _ _ hP hD hS _ (lv_sub hl [0, 1] rfl)
      · have h := it_n c2 h
        refine lv_dload hx hb dX2_bitsOfShare_26 (lv_at hl 1 rfl) ?_
        refine lv_dconst1 hx hb dX2_bitsOfShare_28 ?_
        refine lv_dcmp hx hb dX2_bitsOfShare_29 ?_
        refine lv_if_ge (tgt := 51) hx hb dX2_bitsOfShare_30 (by decide) (fun c3 => ?_) (fun c3 => ?_)
        · have h := it_p c3 h
          exact J51 (v18.1, v18.2.1) h _ _ hP hD hS _ (lv_sub hl [0, 1] rfl)
        · have h := it_n c3 h
          refine lv_dload hx hb dX2_bitsOfShare_33 (lv_at hl 1 rfl) ?_
          refine lv_ldc2d (v := 4611686018427387904) hx hb hown (htB _ kw631) dX2_bitsOfShare_35 ?_
          obtain ⟨g4, h⟩ := og h
          refine lv_dmul hx hb dX2_bitsOfShare_38 (nn_n64 g4) ?_
          refine lv_dstore (lv' := [(4, .double (FP.dmul v18.2.1 4611686018427387904)), (2, .long v18.1), (6, .int v18.2.2)]) hx hb dX2_bitsOfShare_39 hl (by decide) rfl (fun ls hl => ?_)
          refine lv_lload_n hx hb dX2_bitsOfShare_41 rfl (lv_at hl 1 rfl) ?_
          refine lv_lconst (v := 1) hx hb dX2_bitsOfShare_42 (by decide) ?_
          refine lv_lsub hx hb dX2_bitsOfShare_43 ?_
          refine lv_lstore_n (lv' := [(2, .long (v18.1 - 1)), (4, .double (FP.dmul v18.2.1 4611686018427387904)), (6, .int v18.2.2)]) hx hb dX2_bitsOfShare_44 rfl hl (by decide) rfl (fun ls hl => ?_)
          refine lv_iinc (v := v18.2.2 + 1) (lv' := [(6, .int (v18.2.2 + 1)), (2, .long (v18.1 - 1)), (4, .double (FP.dmul v18.2.1 4611686018427387904))]) hx hb dX2_bitsOfShare_45 hl (k := 2) rfl rfl (by decide) rfl (fun ls hl => ?_)
          refine lv_goto (tgt := 18) hx hb dX2_bitsOfShare_48 (by decide) ?_
          exact ih18 (v18.1 - 1, FP.dmul v18.2.1 4611686018427387904, v18.2.2 + 1) h _ _ hP hD hS _ (lv_sub hl [1, 2, 0] rfl)
  refine lv_dload_n hx hb dX2_bitsOfShare_0 rfl (lv_at hl 0 rfl) ?_
  refine lv_dconst0 hx hb dX2_bitsOfShare_1 ?_
  refine lv_dcmp hx hb dX2_bitsOfShare_2 ?_
  refine lv_if_gt (tgt := 8) hx hb dX2_bitsOfShare_3 (by decide) (fun c1 => ?_) (fun c1 => ?_)
  · have h := it_p c1 h
    refine lv_ldc2 (v := 1023) hx hb hown (htB _ kw630) dX2_bitsOfShare_8 ?_
    refine lv_lstore_n (lv' := [(2, .long 1023), (0, .double x)]) hx hb dX2_bitsOfShare_11 rfl hl (by decide) rfl (fun ls hl => ?_)
    refine lv_dload_n hx hb dX2_bitsOfShare_12 rfl (lv_at hl 1 rfl) ?_
    refine lv_dstore (lv' := [(4, .double x), (2, .long 1023), (0, .double x)]) hx hb dX2_bitsOfShare_13 hl (by decide) rfl (fun ls hl => ?_)
    refine lv_iconst (v := 0) hx hb dX2_bitsOfShare_15 (by decide) ?_
    refine lv_istore (lv' := [(6, .int 0), (4, .double x), (2, .long 1023), (0, .double x)]) hx hb dX2_bitsOfShare_16 hl (by decide) rfl (fun ls hl => ?_)
    exact J18 2000 (1023, x, 0) h _ _ hP hD hS _ (lv_sub hl [2, 1, 0] rfl)
  · have h := it_n c1 h
    refine lv_lconst (v := 0) hx hb dX2_bitsOfShare_6 (by decide) ?_
    obtain rfl := os h
    exact ret_j hx hb hr hlocks hP hK hD hS dX2_bitsOfShare_7

theorem dX2_mix_0 : decode cX2_mix 0 = .ok (.ldc2_w 260, 3) := by decide +kernel
theorem dX2_mix_3 : decode cX2_mix 3 = .ok (.lload_n 0, 1) := by decide +kernel
theorem dX2_mix_4 : decode cX2_mix 4 = .ok (.lmul, 1) := by decide +kernel
theorem dX2_mix_5 : decode cX2_mix 5 = .ok (.lload_n 2, 1) := by decide +kernel
theorem dX2_mix_6 : decode cX2_mix 6 = .ok (.ladd, 1) := by decide +kernel
theorem dX2_mix_7 : decode cX2_mix 7 = .ok (.lreturn, 1) := by decide +kernel
abbrev zX2_mix : List Cond := .code yX2_mix cX2_mix 4 (some .long) :: BIG
def fX2_mix (x : Int64) (y : Int64) : Option (Int64) := some ((31 * x) + y)
set_option maxHeartbeats 4000000 in
set_option maxRecDepth 100000 in
theorem mtX2_mix (l : Launch) (D : va_G) (t : Nat → ClassId) (x : Int64) (y : Int64) (out : Int64) (h : fX2_mix x y = some out)  (sz : Nat) : Met l yX2_mix zX2_mix ({ frames := 0, cells := 0, slots := 0, locals := 0 }) (sPc D t ([] : va_W) sz [.long x, .long y]) (qJ D t ([] : va_W) out (va_A ([] : va_W) sz)) 0 0 (va_A ([] : va_W) sz) := by
  refine met_of (Qf := fun A => qJ D t ([] : va_W) out A) (cc := cX2_mix) (maxL := 4) (ret := some .long) (by decide) rfl (Nat.le_of_ble_eq_true rfl) ?_
  intro p e s m args below meth c A hx hb hr hml hts hown hlocks hA hP hK hD hE hS ls hl
  have htB : ∀ w ∈ BIG, w.before args s = true := fun w h => hts w (List.mem_cons_of_mem _ h)
  have hown : s.vm.findClass RX2 = some m.cls := hown
  have hl : lv_has ls 4 [(0, .long x), (2, .long y)] := hl
  unfold fX2_mix at h
  refine lv_ldc2 (v := 31) hx hb hown (htB _ kw605) dX2_mix_0 ?_
  refine lv_lload_n hx hb dX2_mix_3 rfl (lv_at hl 0 rfl) ?_
  refine lv_lmul hx hb dX2_mix_4 ?_
  refine lv_lload_n hx hb dX2_mix_5 rfl (lv_at hl 1 rfl) ?_
  refine lv_ladd hx hb dX2_mix_6 ?_
  obtain rfl := os h
  exact ret_j hx hb hr hlocks hP hK hD hS dX2_mix_7
