theorem dX1_ticksWithoutDrag_0 : decode cX1_ticksWithoutDrag 0 = .ok (.aload_n 0, 1) := by decide +kernel
theorem dX1_ticksWithoutDrag_1 : decode cX1_ticksWithoutDrag 1 = .ok (.getfield 9, 3) := by decide +kernel
theorem dX1_ticksWithoutDrag_4 : decode cX1_ticksWithoutDrag 4 = .ok (.iload_n 1, 1) := by decide +kernel
theorem dX1_ticksWithoutDrag_5 : decode cX1_ticksWithoutDrag 5 = .ok (.invokestatic 47, 3) := by decide +kernel
theorem dX1_ticksWithoutDrag_8 : decode cX1_ticksWithoutDrag 8 = .ok (.istore_n 2, 1) := by decide +kernel
theorem dX1_ticksWithoutDrag_9 : decode cX1_ticksWithoutDrag 9 = .ok (.iload_n 2, 1) := by decide +kernel
theorem dX1_ticksWithoutDrag_10 : decode cX1_ticksWithoutDrag 10 = .ok (.ifCond .le 11, 3) := by decide +kernel
theorem dX1_ticksWithoutDrag_13 : decode cX1_ticksWithoutDrag 13 = .ok (.sipush 1000, 3) := by decide +kernel
theorem dX1_ticksWithoutDrag_16 : decode cX1_ticksWithoutDrag 16 = .ok (.iload_n 2, 1) := by decide +kernel
theorem dX1_ticksWithoutDrag_17 : decode cX1_ticksWithoutDrag 17 = .ok (.idiv, 1) := by decide +kernel
theorem dX1_ticksWithoutDrag_18 : decode cX1_ticksWithoutDrag 18 = .ok (.goto 4, 3) := by decide +kernel
theorem dX1_ticksWithoutDrag_21 : decode cX1_ticksWithoutDrag 21 = .ok (.iconst 0, 1) := by decide +kernel
theorem dX1_ticksWithoutDrag_22 : decode cX1_ticksWithoutDrag 22 = .ok (.istore_n 3, 1) := by decide +kernel
theorem dX1_ticksWithoutDrag_23 : decode cX1_ticksWithoutDrag 23 = .ok (.iload_n 3, 1) := by decide +kernel
theorem dX1_ticksWithoutDrag_24 : decode cX1_ticksWithoutDrag 24 = .ok (.aload_n 0, 1) := by decide +kernel
theorem dX1_ticksWithoutDrag_25 : decode cX1_ticksWithoutDrag 25 = .ok (.getfield 27, 3) := by decide +kernel
theorem dX1_ticksWithoutDrag_28 : decode cX1_ticksWithoutDrag 28 = .ok (.iconst 0, 1) := by decide +kernel
theorem dX1_ticksWithoutDrag_29 : decode cX1_ticksWithoutDrag 29 = .ok (.invokestatic 47, 3) := by decide +kernel
theorem dX1_ticksWithoutDrag_32 : decode cX1_ticksWithoutDrag 32 = .ok (.aload_n 0, 1) := by decide +kernel
theorem dX1_ticksWithoutDrag_33 : decode cX1_ticksWithoutDrag 33 = .ok (.getfield 15, 3) := by decide +kernel
theorem dX1_ticksWithoutDrag_36 : decode cX1_ticksWithoutDrag 36 = .ok (.iload_n 1, 1) := by decide +kernel
theorem dX1_ticksWithoutDrag_37 : decode cX1_ticksWithoutDrag 37 = .ok (.invokestatic 47, 3) := by decide +kernel
theorem dX1_ticksWithoutDrag_40 : decode cX1_ticksWithoutDrag 40 = .ok (.bipush 10, 2) := by decide +kernel
theorem dX1_ticksWithoutDrag_42 : decode cX1_ticksWithoutDrag 42 = .ok (.idiv, 1) := by decide +kernel
theorem dX1_ticksWithoutDrag_43 : decode cX1_ticksWithoutDrag 43 = .ok (.imul, 1) := by decide +kernel
theorem dX1_ticksWithoutDrag_44 : decode cX1_ticksWithoutDrag 44 = .ok (.iadd, 1) := by decide +kernel
theorem dX1_ticksWithoutDrag_45 : decode cX1_ticksWithoutDrag 45 = .ok (.ireturn, 1) := by decide +kernel
abbrev zX1_ticksWithoutDrag : List Cond := .code yX1_ticksWithoutDrag cX1_ticksWithoutDrag 4 (some .int) :: BIG
def fX1_ticksWithoutDrag_j22 (x : ShT)  (v22 : Int32 × Int32) : Option (Int32) := (fX2_at 4 x.2.2.2.2.2.1 0).bind (fun r4 => (fX2_at 2 x.2.1 v22.1).bind (fun r5 => some (v22.2 + (r4 * (r5 / 10)))))
def fX1_ticksWithoutDrag (x : ShT) (cu : Int32) : Option (Int32) := (fX2_at 2 x.1 cu).bind (fun r1 => (if r1 ≤ 0 then fX1_ticksWithoutDrag_j22 x (cu, 0) else gd (nz r1) (fX1_ticksWithoutDrag_j22 x (cu, 1000 / r1))))
set_option maxHeartbeats 4000000 in
set_option maxRecDepth 100000 in
theorem mtX1_ticksWithoutDrag (l : Launch) (D : va_G) (t : Nat → ClassId) (xa : Nat) (xb : Nat → Nat) (x : ShT) (cu : Int32) (out : Int32) (h : fX1_ticksWithoutDrag x cu = some out)  (sz : Nat) : Met l yX1_ticksWithoutDrag zX1_ticksWithoutDrag ({ frames := 1, cells := 0, slots := 0, locals := 21 }) (sPc D t (gS t xa xb x) sz [.ref xa, .int cu]) (qI D t (gS t xa xb x) out (va_A (gS t xa xb x) sz)) 0 0 (va_A (gS t xa xb x) sz) := by
  refine met_of (Qf := fun A => qI D t (gS t xa xb x) out A) (cc := cX1_ticksWithoutDrag) (maxL := 4) (ret := some .int) (by decide) rfl (Nat.le_of_ble_eq_true rfl) ?_
  intro p e s m args below meth c A hx hb hr hml hts hown hlocks hA hP hK hD hE hS ls hl
  have htB : ∀ w ∈ BIG, w.before args s = true := fun w h => hts w (List.mem_cons_of_mem _ h)
  have hown : s.vm.findClass RX1 = some m.cls := hown
  have hl : lv_has ls 4 [(0, .ref xa), (1, .int cu)] := hl
  unfold fX1_ticksWithoutDrag at h
  have J22 : ∀ v22 : Int32 × Int32, fX1_ticksWithoutDrag_j22 x v22 = some out → ∀ (H : Heap) (locs : List Loc), va_P D vwCl (gS t xa xb x) H → va_D A (gS t xa xb x) → va_S A s.heap H locs → ∀ ls : Array Slot, lv_has ls 4 [(0, .ref xa), (1, .int v22.1)] → W p l e ({ frames := 1, cells := 0, slots := 0, locals := 21 }) s m args below meth c H locs 0 0 (MQ below (qI D t (gS t xa xb x) out A) args s 0 0 A) (F0 m 22 ls [.int v22.2]) := by
    intro v22 h H locs hP hD hS ls hl
    unfold fX1_ticksWithoutDrag_j22 at h
    refine lv_istore_n (lv' := [(3, .int v22.2), (0, .ref xa), (1, .int v22.1)]) hx hb dX1_ticksWithoutDrag_22 rfl hl (by decide) rfl (fun ls hl => ?_)
    refine lv_iload_n hx hb dX1_ticksWithoutDrag_23 rfl (lv_at hl 0 rfl) ?_
    refine lv_aload_n hx hb dX1_ticksWithoutDrag_24 rfl (lv_at hl 1 rfl) ?_
    refine va_get (D := D) (ci := 1) (v := .ref (xb 5)) (C := RX1) (T := TX1) (N := 10) hx hb htB inlX1 hown hK hP 0 rfl rfl 5 (by decide) (htB _ kw33) (fun _ h9 => h9) rfl dX1_ticksWithoutDrag_25 ?_
    refine lv_iconst (v := 0) hx hb dX1_ticksWithoutDrag_28 (by decide) ?_
    obtain ⟨r4, h4, h⟩ := ob h
    refine call_i (v := r4) (wc := (gA t (xb 5) 4 x.2.2.2.2.2.1)) (wc' := (gA t (xb 5) 4 x.2.2.2.2.2.1)) (ws' := (gS t xa xb x)) (cutI (wc := (gA t (xb 5) 4 x.2.2.2.2.2.1)) (wc' := (gA t (xb 5) 4 x.2.2.2.2.2.1)) (ws' := (gS t xa xb x)) [6] hP hD hS hA rfl rfl rfl rfl) hS (fun hPc hDc => va_runSN (As := [.ref (xb 5), .int 0]) (rest := [.int v22.2]) ⟨hx, hb, hml, hown, hts⟩ (mtX2_at l D t (xb 5) 4 x.2.2.2.2.2.1 0 r4 h4 (by decide) _) ⟨va_cnB 2 hts (gB kw66) rfl rfl rfl hE.2.2.2.1 (htB _ kw2) (by decide +kernel) ⟨Nat.le_of_ble_eq_true rfl, Nat.le_of_ble_eq_true rfl⟩, (htB _ kw65), trivial⟩ (sPc_S hPc hK hDc hE) rfl rfl hl.1 rfl (lv_room (Nat.le_of_ble_eq_true rfl)) dX1_ticksWithoutDrag_29 ⟨Nat.zero_le _, Nat.zero_le _⟩) (fun H locs hP hD hS => ?_)
    refine lv_aload_n hx hb dX1_ticksWithoutDrag_32 rfl (lv_at hl 1 rfl) ?_
    refine va_get (D := D) (ci := 1) (v := .ref (xb 1)) (C := RX1) (T := TX1) (N := 10) hx hb htB inlX1 hown hK hP 0 rfl rfl 1 (by decide) (htB _ kw29) (fun _ h9 => h9) rfl dX1_ticksWithoutDrag_33 ?_
    refine lv_iload_n hx hb dX1_ticksWithoutDrag_36 rfl (lv_at hl 2 rfl) ?_
    obtain ⟨r5, h5, h⟩ := ob h
    refine call_i (v := r5) (wc := (gA t (xb 1) 2 x.2.1)) (wc' := (gA t (xb 1) 2 x.2.1)) (ws' := (gS t xa xb x)) (cutI (wc := (gA t (xb 1) 2 x.2.1)) (wc' := (gA t (xb 1) 2 x.2.1)) (ws' := (gS t xa xb x)) [2] hP hD hS hA rfl rfl rfl rfl) hS (fun hPc hDc => va_runSN (As := [.ref (xb 1), .int v22.1]) (rest := [.int r4, .int v22.2]) ⟨hx, hb, hml, hown, hts⟩ (mtX2_at l D t (xb 1) 2 x.2.1 v22.1 r5 h5 (by decide) _) ⟨va_cnB 2 hts (gB kw66) rfl rfl rfl hE.2.2.2.1 (htB _ kw2) (by decide +kernel) ⟨Nat.le_of_ble_eq_true rfl, Nat.le_of_ble_eq_true rfl⟩, (htB _ kw65), trivial⟩ (sPc_S hPc hK hDc hE) rfl rfl hl.1 rfl (lv_room (Nat.le_of_ble_eq_true rfl)) dX1_ticksWithoutDrag_37 ⟨Nat.zero_le _, Nat.zero_le _⟩) (fun H locs hP hD hS => ?_)
    refine lv_bipush (v := 10) hx hb dX1_ticksWithoutDrag_40 (by decide) ?_
    refine lv_idiv hx hb dX1_ticksWithoutDrag_42 (by decide) ?_
    refine lv_imul hx hb dX1_ticksWithoutDrag_43 ?_
    refine lv_iadd hx hb dX1_ticksWithoutDrag_44 ?_
    obtain rfl := os h
    exact ret_i hx hb hr hlocks hP hK hD hS dX1_ticksWithoutDrag_45
  refine lv_aload_n hx hb dX1_ticksWithoutDrag_0 rfl (lv_at hl 0 rfl) ?_
  refine va_get (D := D) (ci := 1) (v := .ref (xb 0)) (C := RX1) (T := TX1) (N := 10) hx hb htB inlX1 hown hK hP 0 rfl rfl 0 (by decide) (htB _ kw28) (fun _ h9 => h9) rfl dX1_ticksWithoutDrag_1 ?_
  refine lv_iload_n hx hb dX1_ticksWithoutDrag_4 rfl (lv_at hl 1 rfl) ?_
  obtain ⟨r1, h1, h⟩ := ob h
  refine call_i (v := r1) (wc := (gA t (xb 0) 2 x.1)) (wc' := (gA t (xb 0) 2 x.1)) (ws' := (gS t xa xb x)) (cutI (wc := (gA t (xb 0) 2 x.1)) (wc' := (gA t (xb 0) 2 x.1)) (ws' := (gS t xa xb x)) [1] hP hD hS hA rfl rfl rfl rfl) hS (fun hPc hDc => va_runSN (As := [.ref (xb 0), .int cu]) (rest := []) ⟨hx, hb, hml, hown, hts⟩ (mtX2_at l D t (xb 0) 2 x.1 cu r1 h1 (by decide) _) ⟨va_cnB 2 hts (gB kw66) rfl rfl rfl hE.2.2.2.1 (htB _ kw2) (by decide +kernel) ⟨Nat.le_of_ble_eq_true rfl, Nat.le_of_ble_eq_true rfl⟩, (htB _ kw65), trivial⟩ (sPc_S hPc hK hDc hE) rfl rfl hl.1 rfl (lv_room (Nat.le_of_ble_eq_true rfl)) dX1_ticksWithoutDrag_5 ⟨Nat.zero_le _, Nat.zero_le _⟩) (fun H locs hP hD hS => ?_)
  refine lv_istore_n (lv' := [(2, .int r1), (0, .ref xa), (1, .int cu)]) hx hb dX1_ticksWithoutDrag_8 rfl hl (by decide) rfl (fun ls hl => ?_)
  refine lv_iload_n hx hb dX1_ticksWithoutDrag_9 rfl (lv_at hl 0 rfl) ?_
  refine lv_if_le (tgt := 21) hx hb dX1_ticksWithoutDrag_10 (by decide) (fun c2 => ?_) (fun c2 => ?_)
  · have h := it_p c2 h
    refine lv_iconst (v := 0) hx hb dX1_ticksWithoutDrag_21 (by decide) ?_
    exact J22 (cu, 0) h _ _ hP hD hS _ (lv_sub hl [1, 2] rfl)
  · have h := it_n c2 h
    refine lv_sipush (v := 1000) hx hb dX1_ticksWithoutDrag_13 (by decide) ?_
    refine lv_iload_n hx hb dX1_ticksWithoutDrag_16 rfl (lv_at hl 0 rfl) ?_
    obtain ⟨g3, h⟩ := og h
    refine lv_idiv hx hb dX1_ticksWithoutDrag_17 (nz_ne g3) ?_
    refine lv_goto (tgt := 22) hx hb dX1_ticksWithoutDrag_18 (by decide) ?_
    exact J22 (cu, 1000 / r1) h _ _ hP hD hS _ (lv_sub hl [1, 2] rfl)

theorem dX1_ticksForAll_0 : decode cX1_ticksForAll 0 = .ok (.aload_n 0, 1) := by decide +kernel
theorem dX1_ticksForAll_1 : decode cX1_ticksForAll 1 = .ok (.iload_n 1, 1) := by decide +kernel
theorem dX1_ticksForAll_2 : decode cX1_ticksForAll 2 = .ok (.invokevirtual 51, 3) := by decide +kernel
theorem dX1_ticksForAll_5 : decode cX1_ticksForAll 5 = .ok (.astore_n 2, 1) := by decide +kernel
theorem dX1_ticksForAll_6 : decode cX1_ticksForAll 6 = .ok (.bipush 24, 2) := by decide +kernel
theorem dX1_ticksForAll_8 : decode cX1_ticksForAll 8 = .ok (.aload_n 0, 1) := by decide +kernel
theorem dX1_ticksForAll_9 : decode cX1_ticksForAll 9 = .ok (.iload_n 1, 1) := by decide +kernel
theorem dX1_ticksForAll_10 : decode cX1_ticksForAll 10 = .ok (.invokevirtual 55, 3) := by decide +kernel
theorem dX1_ticksForAll_13 : decode cX1_ticksForAll 13 = .ok (.imul, 1) := by decide +kernel
theorem dX1_ticksForAll_14 : decode cX1_ticksForAll 14 = .ok (.istore_n 3, 1) := by decide +kernel
theorem dX1_ticksForAll_15 : decode cX1_ticksForAll 15 = .ok (.iconst 0, 1) := by decide +kernel
theorem dX1_ticksForAll_16 : decode cX1_ticksForAll 16 = .ok (.istore 4, 2) := by decide +kernel
theorem dX1_ticksForAll_18 : decode cX1_ticksForAll 18 = .ok (.iload 4, 2) := by decide +kernel
theorem dX1_ticksForAll_20 : decode cX1_ticksForAll 20 = .ok (.aload_n 2, 1) := by decide +kernel
theorem dX1_ticksForAll_21 : decode cX1_ticksForAll 21 = .ok (.arraylength, 1) := by decide +kernel
theorem dX1_ticksForAll_22 : decode cX1_ticksForAll 22 = .ok (.if_icmp .ge 16, 3) := by decide +kernel
theorem dX1_ticksForAll_25 : decode cX1_ticksForAll 25 = .ok (.iload_n 3, 1) := by decide +kernel
theorem dX1_ticksForAll_26 : decode cX1_ticksForAll 26 = .ok (.aload_n 2, 1) := by decide +kernel
theorem dX1_ticksForAll_27 : decode cX1_ticksForAll 27 = .ok (.iload 4, 2) := by decide +kernel
theorem dX1_ticksForAll_29 : decode cX1_ticksForAll 29 = .ok (.iaload, 1) := by decide +kernel
theorem dX1_ticksForAll_30 : decode cX1_ticksForAll 30 = .ok (.iadd, 1) := by decide +kernel
theorem dX1_ticksForAll_31 : decode cX1_ticksForAll 31 = .ok (.istore_n 3, 1) := by decide +kernel
theorem dX1_ticksForAll_32 : decode cX1_ticksForAll 32 = .ok (.iinc 4 1, 3) := by decide +kernel
theorem dX1_ticksForAll_35 : decode cX1_ticksForAll 35 = .ok (.goto (-17), 3) := by decide +kernel
theorem dX1_ticksForAll_38 : decode cX1_ticksForAll 38 = .ok (.iload_n 3, 1) := by decide +kernel
theorem dX1_ticksForAll_39 : decode cX1_ticksForAll 39 = .ok (.ireturn, 1) := by decide +kernel
abbrev zX1_ticksForAll : List Cond := .code yX1_ticksForAll cX1_ticksForAll 5 (some .int) :: BIG
def fX1_ticksForAll_l18 (x : ShT)  (K18 : (Int32 × Int32) → Option (Int32)) (v18 : Int32 × Int32) : Option (Int32) := (if 24 ≤ v18.2 then some v18.1 else gd (pin v18.2 24) (K18 (v18.1 + (x.2.2.1 (Int32.toNatClampNeg v18.2)), v18.2 + 1)))
def fX1_ticksForAll_l18_1 (x : ShT)  (K18_1 : (Int32 × Int32) → Option (Int32)) (v18_1 : Int32 × Int32) : Option (Int32) := (if 24 ≤ v18_1.2 then some v18_1.1 else gd (pin v18_1.2 24) (K18_1 (v18_1.1 + (x.2.2.2.1 (Int32.toNatClampNeg v18_1.2)), v18_1.2 + 1)))
def fX1_ticksForAll (x : ShT) (cu : Int32) : Option (Int32) := (fX1_dragsOf x cu).bind (fun r1 => (if cu = 0 then (fX1_ticksWithoutDrag x cu).bind (fun r3 => lp (fX1_ticksForAll_l18 x) 2000 (24 * r3, 0)) else (fX1_ticksWithoutDrag x cu).bind (fun r4 => lp (fX1_ticksForAll_l18_1 x) 2000 (24 * r4, 0))))
set_option maxHeartbeats 4000000 in
set_option maxRecDepth 100000 in
theorem mtX1_ticksForAll (l : Launch) (D : va_G) (t : Nat → ClassId) (xa : Nat) (xb : Nat → Nat) (x : ShT) (cu : Int32) (out : Int32) (h : fX1_ticksForAll x cu = some out)  (sz : Nat) : Met l yX1_ticksForAll zX1_ticksForAll ({ frames := 2, cells := 0, slots := 0, locals := 44 }) (sPc D t (gS t xa xb x) sz [.ref xa, .int cu]) (qI D t (gS t xa xb x) out (va_A (gS t xa xb x) sz)) 0 0 (va_A (gS t xa xb x) sz) := by
  refine met_of (Qf := fun A => qI D t (gS t xa xb x) out A) (cc := cX1_ticksForAll) (maxL := 5) (ret := some .int) (by decide) rfl (Nat.le_of_ble_eq_true rfl) ?_
  intro p e s m args below meth c A hx hb hr hml hts hown hlocks hA hP hK hD hE hS ls hl
  have htB : ∀ w ∈ BIG, w.before args s = true := fun w h => hts w (List.mem_cons_of_mem _ h)
  have hown : s.vm.findClass RX1 = some m.cls := hown
  have hl : lv_has ls 5 [(0, .ref xa), (1, .int cu)] := hl
  unfold fX1_ticksForAll at h
  have J18_1 : ∀ (fu18_1 : Nat) (v18_1 : Int32 × Int32), lp (fX1_ticksForAll_l18_1 x) fu18_1 v18_1 = some out → ∀ (H : Heap) (locs : List Loc), va_P D vwCl (gS t xa xb x) H → va_D A (gS t xa xb x) → va_S A s.heap H locs → ∀ ls : Array Slot, lv_has ls 5 [(2, .ref (xb 3)), (3, .int v18_1.1), (4, .int v18_1.2)] → W p l e ({ frames := 2, cells := 0, slots := 0, locals := 44 }) s m args below meth c H locs 0 0 (MQ below (qI D t (gS t xa xb x) out A) args s 0 0 A) (F0 m 18 ls []) := by
    intro fu18_1
    induction fu18_1 with
    | zero => intro v18_1 h; cases h
    | succ fu18_1 ih18_1 =>
      intro v18_1 h H locs hP hD hS ls hl
      have h : fX1_ticksForAll_l18_1 x (lp (fX1_ticksForAll_l18_1 x) fu18_1) v18_1 = some out := h
      unfold fX1_ticksForAll_l18_1 at h
      refine lv_iload hx hb dX1_ticksForAll_18 (lv_at hl 2 rfl) ?_
      refine lv_aload_n hx hb dX1_ticksForAll_20 rfl (lv_at hl 0 rfl) ?_
      refine va_alen (v := 24) hx hb hK hP 4 0 rfl rfl rfl dX1_ticksForAll_21 ?_
      refine lv_icmp_ge (tgt := 38) hx hb dX1_ticksForAll_22 (by decide) (fun c7 => ?_) (fun c7 => ?_)
      · have h := it_p c7 h
        refine lv_iload_n hx hb dX1_ticksForAll_38 rfl (lv_at hl 1 rfl) ?_
        obtain rfl := os h
        exact ret_i hx hb hr hlocks hP hK hD hS dX1_ticksForAll_39
      · have h := it_n c7 h
        refine lv_iload_n hx hb dX1_ticksForAll_25 rfl (lv_at hl 1 rfl) ?_
        refine lv_aload_n hx hb dX1_ticksForAll_26 rfl (lv_at hl 0 rfl) ?_
        refine lv_iload hx hb dX1_ticksForAll_27 (lv_at hl 2 rfl) ?_
        obtain ⟨g8, h⟩ := og h
        refine va_iald hx hb hK hP 4 0 rfl rfl (pin_in g8) dX1_ticksForAll_29 ?_
        refine lv_iadd hx hb dX1_ticksForAll_30 ?_
        refine lv_istore_n (lv' := [(3, .int (v18_1.1 + (x.2.2.2.1 (Int32.toNatClampNeg v18_1.2)))), (2, .ref (xb 3)), (4, .int v18_1.2)]) hx hb dX1_ticksForAll_31 rfl hl (by decide) rfl (fun ls hl => ?_)
        refine lv_iinc (v := v18_1.2 + 1) (lv' := [(4, .int (v18_1.2 + 1)), (3, .int (v18_1.1 + (x.2.2.2.1 (Int32.toNatClampNeg v18_1.2)))), (2, .ref (xb 3))]) hx hb dX1_ticksForAll_32 hl (k := 2) rfl rfl (by decide) rfl (fun ls hl => ?_)
        refine lv_goto (tgt := 18) hx hb dX1_ticksForAll_35 (by decide) ?_
        exact ih18_1 (v18_1.1 + (x.2.2.2.1 (Int32.toNatClampNeg v18_1.2)), v18_1.2 + 1) h _ _ hP hD hS _ (lv_sub hl [2, 1, 0] rfl)
  have J18 : ∀ (fu18 : Nat) (v18 : Int32 × Int32), lp (fX1_ticksForAll_l18 x) fu18 v18 = some out → ∀ (H : Heap) (locs : List Loc), va_P D vwCl (gS t xa xb x) H → va_D A (gS t xa xb x) → va_S A s.heap H locs → ∀ ls : Array Slot, lv_has ls 5 [(2, .ref (xb 2)), (3, .int v18.1), (4, .int v18.2)] → W p l e ({ frames := 2, cells := 0, slots := 0, locals := 44 }) s m args below meth c H locs 0 0 (MQ below (qI D t (gS t xa xb x) out A) args s 0 0 A) (F0 m 18 ls []) := by
    intro fu18
    induction fu18 with
    | zero => intro v18 h; cases h
    | succ fu18 ih18 =>
      intro v18 h H locs hP hD hS ls hl
      have h : fX1_ticksForAll_l18 x (lp (fX1_ticksForAll_l18 x) fu18) v18 = some out := h
      unfold fX1_ticksForAll_l18 at h
      refine lv_iload hx hb dX1_ticksForAll_18 (lv_at hl 2 rfl) ?_
      refine lv_aload_n hx hb dX1_ticksForAll_20 rfl (lv_at hl 0 rfl) ?_
      refine va_alen (v := 24) hx hb hK hP 3 0 rfl rfl rfl dX1_ticksForAll_21 ?_
      refine lv_icmp_ge (tgt := 38) hx hb dX1_ticksForAll_22 (by decide) (fun c5 => ?_) (fun c5 => ?_)
      · have h := it_p c5 h
        refine lv_iload_n hx hb dX1_ticksForAll_38 rfl (lv_at hl 1 rfl) ?_
        obtain rfl := os h
        exact ret_i hx hb hr hlocks hP hK hD hS dX1_ticksForAll_39
      · have h := it_n c5 h
        refine lv_iload_n hx hb dX1_ticksForAll_25 rfl (lv_at hl 1 rfl) ?_
        refine lv_aload_n hx hb dX1_ticksForAll_26 rfl (lv_at hl 0 rfl) ?_
        refine lv_iload hx hb dX1_ticksForAll_27 (lv_at hl 2 rfl) ?_
        obtain ⟨g6, h⟩ := og h
        refine va_iald hx hb hK hP 3 0 rfl rfl (pin_in g6) dX1_ticksForAll_29 ?_
        refine lv_iadd hx hb dX1_ticksForAll_30 ?_
        refine lv_istore_n (lv' := [(3, .int (v18.1 + (x.2.2.1 (Int32.toNatClampNeg v18.2)))), (2, .ref (xb 2)), (4, .int v18.2)]) hx hb dX1_ticksForAll_31 rfl hl (by decide) rfl (fun ls hl => ?_)
        refine lv_iinc (v := v18.2 + 1) (lv' := [(4, .int (v18.2 + 1)), (3, .int (v18.1 + (x.2.2.1 (Int32.toNatClampNeg v18.2)))), (2, .ref (xb 2))]) hx hb dX1_ticksForAll_32 hl (k := 2) rfl rfl (by decide) rfl (fun ls hl => ?_)
        refine lv_goto (tgt := 18) hx hb dX1_ticksForAll_35 (by decide) ?_
        exact ih18 (v18.1 + (x.2.2.1 (Int32.toNatClampNeg v18.2)), v18.2 + 1) h _ _ hP hD hS _ (lv_sub hl [2, 1, 0] rfl)
  refine lv_aload_n hx hb dX1_ticksForAll_0 rfl (lv_at hl 0 rfl) ?_
  refine lv_iload_n hx hb dX1_ticksForAll_1 rfl (lv_at hl 1 rfl) ?_
  obtain ⟨r1, h1, h⟩ := ob h
  refine call_r (v := if cu = 0 then xb 2 else xb 3) (wc := (gS t xa xb x)) (wc' := (gS t xa xb x)) (ws' := (gS t xa xb x)) (cutB (bs := [gS t xa xb x]) (cs := [gS t xa xb x]) (cs' := [gS t xa xb x]) (bs' := [gS t xa xb x]) [0] hP hD hS hA rfl rfl rfl rfl) hS (fun hPc hDc => va_runV (As := [.int cu]) (rest := []) ⟨hx, hb, hml, hown, hts⟩ (mtX1_dragsOf l D t xa xb x cu r1 h1 _) (cwV 1 hts (gBV kw170 kw171 kw172 kw11 kw173) rfl rfl rfl (by decide +kernel) ⟨Nat.le_of_ble_eq_true rfl, Nat.le_of_ble_eq_true rfl⟩) (sPc_V hPc hK hDc hE (va_recv hK hP (ci := 1) (q0 := 0) rfl rfl)) rfl rfl hl.1 rfl (lv_room (Nat.le_of_ble_eq_true rfl)) dX1_ticksForAll_2 ⟨Nat.zero_le _, Nat.zero_le _⟩) (fun H locs hP hD hS => ?_)
  by_cases c2 : cu = 0
  · have h := it_p c2 h
    rw [if_pos c2]
    refine lv_astore_n (lv' := [(2, .ref (xb 2)), (0, .ref xa), (1, .int cu)]) hx hb dX1_ticksForAll_5 rfl hl (by decide) rfl (fun ls hl => ?_)
    refine lv_bipush (v := 24) hx hb dX1_ticksForAll_6 (by decide) ?_
    refine lv_aload_n hx hb dX1_ticksForAll_8 rfl (lv_at hl 1 rfl) ?_
    refine lv_iload_n hx hb dX1_ticksForAll_9 rfl (lv_at hl 2 rfl) ?_
    obtain ⟨r3, h3, h⟩ := ob h
    refine call_i (v := r3) (wc := (gS t xa xb x)) (wc' := (gS t xa xb x)) (ws' := (gS t xa xb x)) (cutB (bs := [gS t xa xb x]) (cs := [gS t xa xb x]) (cs' := [gS t xa xb x]) (bs' := [gS t xa xb x]) [0] hP hD hS hA rfl rfl rfl rfl) hS (fun hPc hDc => va_runV (As := [.int cu]) (rest := [.int 24]) ⟨hx, hb, hml, hown, hts⟩ (mtX1_ticksWithoutDrag l D t xa xb x cu r3 h3 _) (cwV 1 hts (gBV kw174 kw114 kw115 kw11 kw116) rfl rfl rfl (by decide +kernel) ⟨Nat.le_of_ble_eq_true rfl, Nat.le_of_ble_eq_true rfl⟩) (sPc_V hPc hK hDc hE (va_recv hK hP (ci := 1) (q0 := 0) rfl rfl)) rfl rfl hl.1 rfl (lv_room (Nat.le_of_ble_eq_true rfl)) dX1_ticksForAll_10 ⟨Nat.zero_le _, Nat.zero_le _⟩) (fun H locs hP hD hS => ?_)
    refine lv_imul hx hb dX1_ticksForAll_13 ?_
    refine lv_istore_n (lv' := [(3, .int (24 * r3)), (2, .ref (xb 2)), (0, .ref xa), (1, .int cu)]) hx hb dX1_ticksForAll_14 rfl hl (by decide) rfl (fun ls hl => ?_)
    refine lv_iconst (v := 0) hx hb dX1_ticksForAll_15 (by decide) ?_
    refine lv_istore (lv' := [(4, .int 0), (3, .int (24 * r3)), (2, .ref (xb 2)), (0, .ref xa), (1, .int cu)]) hx hb dX1_ticksForAll_16 hl (by decide) rfl (fun ls hl => ?_)
    exact J18 2000 (24 * r3, 0) h _ _ hP hD hS _ (lv_sub hl [2, 1, 0] rfl)
  · have h := it_n c2 h
    rw [if_neg c2]
    refine lv_astore_n (lv' := [(2, .ref (xb 3)), (0, .ref xa), (1, .int cu)]) hx hb dX1_ticksForAll_5 rfl hl (by decide) rfl (fun ls hl => ?_)
    refine lv_bipush (v := 24) hx hb dX1_ticksForAll_6 (by decide) ?_
    refine lv_aload_n hx hb dX1_ticksForAll_8 rfl (lv_at hl 1 rfl) ?_
    refine lv_iload_n hx hb dX1_ticksForAll_9 rfl (lv_at hl 2 rfl) ?_
    obtain ⟨r4, h4, h⟩ := ob h
    refine call_i (v := r4) (wc := (gS t xa xb x)) (wc' := (gS t xa xb x)) (ws' := (gS t xa xb x)) (cutB (bs := [gS t xa xb x]) (cs := [gS t xa xb x]) (cs' := [gS t xa xb x]) (bs' := [gS t xa xb x]) [0] hP hD hS hA rfl rfl rfl rfl) hS (fun hPc hDc => va_runV (As := [.int cu]) (rest := [.int 24]) ⟨hx, hb, hml, hown, hts⟩ (mtX1_ticksWithoutDrag l D t xa xb x cu r4 h4 _) (cwV 1 hts (gBV kw174 kw114 kw115 kw11 kw116) rfl rfl rfl (by decide +kernel) ⟨Nat.le_of_ble_eq_true rfl, Nat.le_of_ble_eq_true rfl⟩) (sPc_V hPc hK hDc hE (va_recv hK hP (ci := 1) (q0 := 0) rfl rfl)) rfl rfl hl.1 rfl (lv_room (Nat.le_of_ble_eq_true rfl)) dX1_ticksForAll_10 ⟨Nat.zero_le _, Nat.zero_le _⟩) (fun H locs hP hD hS => ?_)
    refine lv_imul hx hb dX1_ticksForAll_13 ?_
    refine lv_istore_n (lv' := [(3, .int (24 * r4)), (2, .ref (xb 3)), (0, .ref xa), (1, .int cu)]) hx hb dX1_ticksForAll_14 rfl hl (by decide) rfl (fun ls hl => ?_)
    refine lv_iconst (v := 0) hx hb dX1_ticksForAll_15 (by decide) ?_
    refine lv_istore (lv' := [(4, .int 0), (3, .int (24 * r4)), (2, .ref (xb 3)), (0, .ref xa), (1, .int cu)]) hx hb dX1_ticksForAll_16 hl (by decide) rfl (fun ls hl => ?_)
    exact J18_1 2000 (24 * r4, 0) h _ _ hP hD hS _ (lv_sub hl [2, 1, 0] rfl)

theorem dX1_slowestColumn_0 : decode cX1_slowestColumn 0 = .ok (.aload_n 0, 1) := by decide +kernel
theorem dX1_slowestColumn_1 : decode cX1_slowestColumn 1 = .ok (.iload_n 1, 1) := by decide +kernel
theorem dX1_slowestColumn_2 : decode cX1_slowestColumn 2 = .ok (.invokevirtual 51, 3) := by decide +kernel
theorem dX1_slowestColumn_5 : decode cX1_slowestColumn 5 = .ok (.astore_n 2, 1) := by decide +kernel
theorem dX1_slowestColumn_6 : decode cX1_slowestColumn 6 = .ok (.iconst 0, 1) := by decide +kernel
theorem dX1_slowestColumn_7 : decode cX1_slowestColumn 7 = .ok (.istore_n 3, 1) := by decide +kernel
theorem dX1_slowestColumn_8 : decode cX1_slowestColumn 8 = .ok (.iconst 0, 1) := by decide +kernel
theorem dX1_slowestColumn_9 : decode cX1_slowestColumn 9 = .ok (.istore 4, 2) := by decide +kernel
theorem dX1_slowestColumn_11 : decode cX1_slowestColumn 11 = .ok (.iload 4, 2) := by decide +kernel
theorem dX1_slowestColumn_13 : decode cX1_slowestColumn 13 = .ok (.aload_n 2, 1) := by decide +kernel
theorem dX1_slowestColumn_14 : decode cX1_slowestColumn 14 = .ok (.arraylength, 1) := by decide +kernel
theorem dX1_slowestColumn_15 : decode cX1_slowestColumn 15 = .ok (.if_icmp .ge 24, 3) := by decide +kernel
theorem dX1_slowestColumn_18 : decode cX1_slowestColumn 18 = .ok (.aload_n 2, 1) := by decide +kernel
theorem dX1_slowestColumn_19 : decode cX1_slowestColumn 19 = .ok (.iload 4, 2) := by decide +kernel
theorem dX1_slowestColumn_21 : decode cX1_slowestColumn 21 = .ok (.iaload, 1) := by decide +kernel
theorem dX1_slowestColumn_22 : decode cX1_slowestColumn 22 = .ok (.aload_n 2, 1) := by decide +kernel
theorem dX1_slowestColumn_23 : decode cX1_slowestColumn 23 = .ok (.iload_n 3, 1) := by decide +kernel
theorem dX1_slowestColumn_24 : decode cX1_slowestColumn 24 = .ok (.invokestatic 47, 3) := by decide +kernel
theorem dX1_slowestColumn_27 : decode cX1_slowestColumn 27 = .ok (.if_icmp .le 6, 3) := by decide +kernel
theorem dX1_slowestColumn_30 : decode cX1_slowestColumn 30 = .ok (.iload 4, 2) := by decide +kernel
theorem dX1_slowestColumn_32 : decode cX1_slowestColumn 32 = .ok (.istore_n 3, 1) := by decide +kernel
theorem dX1_slowestColumn_33 : decode cX1_slowestColumn 33 = .ok (.iinc 4 1, 3) := by decide +kernel
theorem dX1_slowestColumn_36 : decode cX1_slowestColumn 36 = .ok (.goto (-25), 3) := by decide +kernel
theorem dX1_slowestColumn_39 : decode cX1_slowestColumn 39 = .ok (.iload_n 3, 1) := by decide +kernel
theorem dX1_slowestColumn_40 : decode cX1_slowestColumn 40 = .ok (.ireturn, 1) := by decide +kernel
abbrev zX1_slowestColumn : List Cond := .code yX1_slowestColumn cX1_slowestColumn 5 (some .int) :: BIG
def fX1_slowestColumn_l11 (x : ShT)  (K11 : (Int32 × Int32) → Option (Int32)) (v11 : Int32 × Int32) : Option (Int32) := (if 24 ≤ v11.2 then some v11.1 else gd (pin v11.2 24) ((fX2_at 24 x.2.2.1 v11.1).bind (fun r5 => (if (x.2.2.1 (Int32.toNatClampNeg v11.2)) ≤ r5 then K11 (v11.1, v11.2 + 1) else K11 (v11.2, v11.2 + 1)))))
def fX1_slowestColumn_l11_1 (x : ShT)  (K11_1 : (Int32 × Int32) → Option (Int32)) (v11_1 : Int32 × Int32) : Option (Int32) := (if 24 ≤ v11_1.2 then some v11_1.1 else gd (pin v11_1.2 24) ((fX2_at 24 x.2.2.2.1 v11_1.1).bind (fun r9 => (if (x.2.2.2.1 (Int32.toNatClampNeg v11_1.2)) ≤ r9 then K11_1 (v11_1.1, v11_1.2 + 1) else K11_1 (v11_1.2, v11_1.2 + 1)))))
def fX1_slowestColumn (x : ShT) (cu : Int32) : Option (Int32) := (fX1_dragsOf x cu).bind (fun r1 => (if cu = 0 then lp (fX1_slowestColumn_l11 x) 2000 (0, 0) else lp (fX1_slowestColumn_l11_1 x) 2000 (0, 0)))
set_option maxHeartbeats 4000000 in
set_option maxRecDepth 100000 in
theorem mtX1_slowestColumn (l : Launch) (D : va_G) (t : Nat → ClassId) (xa : Nat) (xb : Nat → Nat) (x : ShT) (cu : Int32) (out : Int32) (h : fX1_slowestColumn x cu = some out)  (sz : Nat) : Met l yX1_slowestColumn zX1_slowestColumn ({ frames := 1, cells := 0, slots := 0, locals := 21 }) (sPc D t (gS t xa xb x) sz [.ref xa, .int cu]) (qI D t (gS t xa xb x) out (va_A (gS t xa xb x) sz)) 0 0 (va_A (gS t xa xb x) sz) := by
  refine met_of (Qf := fun A => qI D t (gS t xa xb x) out A) (cc := cX1_slowestColumn) (maxL := 5) (ret := some .int) (by decide) rfl (Nat.le_of_ble_eq_true rfl) ?_
  intro p e s m args below meth c A hx hb hr hml hts hown hlocks hA hP hK hD hE hS ls hl
  have htB : ∀ w ∈ BIG, w.before args s = true := fun w h => hts w (List.mem_cons_of_mem _ h)
  have hown : s.vm.findClass RX1 = some m.cls := hown
  have hl : lv_has ls 5 [(0, .ref xa), (1, .int cu)] := hl
  unfold fX1_slowestColumn at h
  have J11_1 : ∀ (fu11_1 : Nat) (v11_1 : Int32 × Int32), lp (fX1_slowestColumn_l11_1 x) fu11_1 v11_1 = some out → ∀ (H : Heap) (locs : List Loc), va_P D vwCl (gS t xa xb x) H → va_D A (gS t xa xb x) → va_S A s.heap H locs → ∀ ls : Array Slot, lv_has ls 5 [(2, .ref (xb 3)), (3, .int v11_1.1), (4, .int v11_1.2)] → W p l e ({ frames := 1, cells := 0, slots := 0, locals := 21 }) s m args below meth c H locs 0 0 (MQ below (qI D t (gS t xa xb x) out A) args s 0 0 A) (F0 m 11 ls []) := by
    intro fu11_1
    induction fu11_1 with
    | zero => intro v11_1 h; cases h
    | succ fu11_1 ih11_1 =>
      intro v11_1 h H locs hP hD hS ls hl
      have h : fX1_slowestColumn_l11_1 x (lp (fX1_slowestColumn_l11_1 x) fu11_1) v11_1 = some out := h
      unfold fX1_slowestColumn_l11_1 at h
      refine lv_iload hx hb dX1_slowestColumn_11 (lv_at hl 2 rfl) ?_
      refine lv_aload_n hx hb dX1_slowestColumn_13 rfl (lv_at hl 0 rfl) ?_
      refine va_alen (v := 24) hx hb hK hP 4 0 rfl rfl rfl dX1_slowestColumn_14 ?_
      refine lv_icmp_ge (tgt := 39) hx hb dX1_slowestColumn_15 (by decide) (fun c7 => ?_) (fun c7 => ?_)
      · have h := it_p c7 h
        refine lv_iload_n hx hb dX1_slowestColumn_39 rfl (lv_at hl 1 rfl) ?_
        obtain rfl := os h
        exact ret_i hx hb hr hlocks hP hK hD hS dX1_slowestColumn_40
      · have h := it_n c7 h
        refine lv_aload_n hx hb dX1_slowestColumn_18 rfl (lv_at hl 0 rfl) ?_
        refine lv_iload hx hb dX1_slowestColumn_19 (lv_at hl 2 rfl) ?_
        obtain ⟨g8, h⟩ := og h
        refine va_iald hx hb hK hP 4 0 rfl rfl (pin_in g8) dX1_slowestColumn_21 ?_
        refine lv_aload_n hx hb dX1_slowestColumn_22 rfl (lv_at hl 0 rfl) ?_
        refine lv_iload_n hx hb dX1_slowestColumn_23 rfl (lv_at hl 1 rfl) ?_
        obtain ⟨r9, h9, h⟩ := ob h
        refine call_i (v := r9) (wc := (gA t (xb 3) 24 x.2.2.2.1)) (wc' := (gA t (xb 3) 24 x.2.2.2.1)) (ws' := (gS t xa xb x)) (cutI (wc := (gA t (xb 3) 24 x.2.2.2.1)) (wc' := (gA t (xb 3) 24 x.2.2.2.1)) (ws' := (gS t xa xb x)) [4] hP hD hS hA rfl rfl rfl rfl) hS (fun hPc hDc => va_runSN (As := [.ref (xb 3), .int v11_1.1]) (rest := [.int (x.2.2.2.1 (Int32.toNatClampNeg v11_1.2))]) ⟨hx, hb, hml, hown, hts⟩ (mtX2_at l D t (xb 3) 24 x.2.2.2.1 v11_1.1 r9 h9 (by decide) _) ⟨va_cnB 2 hts (gB kw66) rfl rfl rfl hE.2.2.2.1 (htB _ kw2) (by decide +kernel) ⟨Nat.le_of_ble_eq_true rfl, Nat.le_of_ble_eq_true rfl⟩, (htB _ kw65), trivial⟩ (sPc_S hPc hK hDc hE) rfl rfl hl.1 rfl (lv_room (Nat.le_of_ble_eq_true rfl)) dX1_slowestColumn_24 ⟨Nat.zero_le _, Nat.zero_le _⟩) (fun H locs hP hD hS => ?_)
        refine lv_icmp_le (tgt := 33) hx hb dX1_slowestColumn_27 (by decide) (fun c10 => ?_) (fun c10 => ?_)
        · have h := it_p c10 h
          refine lv_iinc (v := v11_1.2 + 1) (lv' := [(4, .int (v11_1.2 + 1)), (2, .ref (xb 3)), (3, .int v11_1.1)]) hx hb dX1_slowestColumn_33 hl (k := 2) rfl rfl (by decide) rfl (fun ls hl => ?_)
          refine lv_goto (tgt := 11) hx hb dX1_slowestColumn_36 (by decide) ?_
          exact ih11_1 (v11_1.1, v11_1.2 + 1) h _ _ hP hD hS _ (lv_sub hl [1, 2, 0] rfl)
        · have h := it_n c10 h
          refine lv_iload hx hb dX1_slowestColumn_30 (lv_at hl 2 rfl) ?_
          refine lv_istore_n (lv' := [(3, .int v11_1.2), (2, .ref (xb 3)), (4, .int v11_1.2)]) hx hb dX1_slowestColumn_32 rfl hl (by decide) rfl (fun ls hl => ?_)
          refine lv_iinc (v := v11_1.2 + 1) (lv' := [(4, .int (v11_1.2 + 1)), (3, .int v11_1.2), (2, .ref (xb 3))]) hx hb dX1_slowestColumn_33 hl (k := 2) rfl rfl (by decide) rfl (fun ls hl => ?_)
          refine lv_goto (tgt := 11) hx hb dX1_slowestColumn_36 (by decide) ?_
          exact ih11_1 (v11_1.2, v11_1.2 + 1) h _ _ hP hD hS _ (lv_sub hl [2, 1, 0] rfl)
  have J11 : ∀ (fu11 : Nat) (v11 : Int32 × Int32), lp (fX1_slowestColumn_l11 x) fu11 v11 = some out → ∀ (H : Heap) (locs : List Loc), va_P D vwCl (gS t xa xb x) H → va_D A (gS t xa xb x) → va_S A s.heap H locs → ∀ ls : Array Slot, lv_has ls 5 [(2, .ref (xb 2)), (3, .int v11.1), (4, .int v11.2)] → W p l e ({ frames := 1, cells := 0, slots := 0, locals := 21 }) s m args below meth c H locs 0 0 (MQ below (qI D t (gS t xa xb x) out A) args s 0 0 A) (F0 m 11 ls []) := by
    intro fu11
    induction fu11 with
    | zero => intro v11 h; cases h
    | succ fu11 ih11 =>
      intro v11 h H locs hP hD hS ls hl
      have h : fX1_slowestColumn_l11 x (lp (fX1_slowestColumn_l11 x) fu11) v11 = some out := h
      unfold fX1_slowestColumn_l11 at h
      refine lv_iload hx hb dX1_slowestColumn_11 (lv_at hl 2 rfl) ?_
      refine lv_aload_n hx hb dX1_slowestColumn_13 rfl (lv_at hl 0 rfl) ?_
      refine va_alen (v := 24) hx hb hK hP 3 0 rfl rfl rfl dX1_slowestColumn_14 ?_
      refine lv_icmp_ge (tgt := 39) hx hb dX1_slowestColumn_15 (by decide) (fun c3 => ?_) (fun c3 => ?_)
      · have h := it_p c3 h
        refine lv_iload_n hx hb dX1_slowestColumn_39 rfl (lv_at hl 1 rfl) ?_
        obtain rfl := os h
        exact ret_i hx hb hr hlocks hP hK hD hS dX1_slowestColumn_40
      · have h := it_n c3 h
        refine lv_aload_n hx hb dX1_slowestColumn_18 rfl (lv_at hl 0 rfl) ?_
        refine lv_iload hx hb dX1_slowestColumn_19 (lv_at hl 2 rfl) ?_
        obtain ⟨g4, h⟩ := og h
        refine va_iald hx hb hK hP 3 0 rfl rfl (pin_in g4) dX1_slowestColumn_21 ?_
        refine lv_aload_n hx hb dX1_slowestColumn_22 rfl (lv_at hl 0 rfl) ?_
        refine lv_iload_n hx hb dX1_slowestColumn_23 rfl (lv_at hl 1 rfl) ?_
        obtain ⟨r5, h5, h⟩ := ob h
        refine call_i (v := r5) (wc := (gA t (xb 2) 24 x.2.2.1)) (wc' := (gA t (xb 2) 24 x.2.2.1)) (ws' := (gS t xa xb x)) (cutI (wc := (gA t (xb 2) 24 x.2.2.1)) (wc' := (gA t (xb 2) 24 x.2.2.1)) (ws' := (gS t xa xb x)) [3] hP hD hS hA rfl rfl rfl rfl) hS (fun hPc hDc => va_runSN (As := [.ref (xb 2), .int v11.1]) (rest := [.int (x.2.2.1 (Int32.toNatClampNeg v11.2))]) ⟨hx, hb, hml, hown, hts⟩ (mtX2_at l D t (xb 2) 24 x.2.2.1 v11.1 r5 h5 (by decide) _) ⟨va_cnB 2 hts (gB kw66) rfl rfl rfl hE.2.2.2.1 (htB _ kw2) (by decide +kernel) ⟨Nat.le_of_ble_eq_true rfl, Nat.le_of_ble_eq_true rfl⟩, (htB _ kw65), trivial⟩ (sPc_S hPc hK hDc hE) rfl rfl hl.1 rfl (lv_room (Nat.le_of_ble_eq_true rfl)) dX1_slowestColumn_24 ⟨Nat.zero_le _, Nat.zero_le _⟩) (fun H locs hP hD hS => ?_)
        refine lv_icmp_le (tgt := 33) hx hb dX1_slowestColumn_27 (by decide) (fun c6 => ?_) (fun c6 => ?_)
        · have h := it_p c6 h
          refine lv_iinc (v := v11.2 + 1) (lv' := [(4, .int (v11.2 + 1)), (2, .ref (xb 2)), (3, .int v11.1)]) hx hb dX1_slowestColumn_33 hl (k := 2) rfl rfl (by decide) rfl (fun ls hl => ?_)
          refine lv_goto (tgt := 11) hx hb dX1_slowestColumn_36 (by decide) ?_
          exact ih11 (v11.1, v11.2 + 1) h _ _ hP hD hS _ (lv_sub hl [1, 2, 0] rfl)
        · have h := it_n c6 h
          refine lv_iload hx hb dX1_slowestColumn_30 (lv_at hl 2 rfl) ?_
          refine lv_istore_n (lv' := [(3, .int v11.2), (2, .ref (xb 2)), (4, .int v11.2)]) hx hb dX1_slowestColumn_32 rfl hl (by decide) rfl (fun ls hl => ?_)
          refine lv_iinc (v := v11.2 + 1) (lv' := [(4, .int (v11.2 + 1)), (3, .int v11.2), (2, .ref (xb 2))]) hx hb dX1_slowestColumn_33 hl (k := 2) rfl rfl (by decide) rfl (fun ls hl => ?_)
          refine lv_goto (tgt := 11) hx hb dX1_slowestColumn_36 (by decide) ?_
          exact ih11 (v11.2, v11.2 + 1) h _ _ hP hD hS _ (lv_sub hl [2, 1, 0] rfl)
  refine lv_aload_n hx hb dX1_slowestColumn_0 rfl (lv_at hl 0 rfl) ?_
  refine lv_iload_n hx hb dX1_slowestColumn_1 rfl (lv_at hl 1 rfl) ?_
  obtain ⟨r1, h1, h⟩ := ob h
  refine call_r (v := if cu = 0 then xb 2 else xb 3) (wc := (gS t xa xb x)) (wc' := (gS t xa xb x)) (ws' := (gS t xa xb x)) (cutB (bs := [gS t xa xb x]) (cs := [gS t xa xb x]) (cs' := [gS t xa xb x]) (bs' := [gS t xa xb x]) [0] hP hD hS hA rfl rfl rfl rfl) hS (fun hPc hDc => va_runV (As := [.int cu]) (rest := []) ⟨hx, hb, hml, hown, hts⟩ (mtX1_dragsOf l D t xa xb x cu r1 h1 _) (cwV 1 hts (gBV kw170 kw171 kw172 kw11 kw173) rfl rfl rfl (by decide +kernel) ⟨Nat.le_of_ble_eq_true rfl, Nat.le_of_ble_eq_true rfl⟩) (sPc_V hPc hK hDc hE (va_recv hK hP (ci := 1) (q0 := 0) rfl rfl)) rfl rfl hl.1 rfl (lv_room (Nat.le_of_ble_eq_true rfl)) dX1_slowestColumn_2 ⟨Nat.zero_le _, Nat.zero_le _⟩) (fun H locs hP hD hS => ?_)
  by_cases c2 : cu = 0
  · have h := it_p c2 h
    rw [if_pos c2]
    refine lv_astore_n (lv' := [(2, .ref (xb 2)), (0, .ref xa), (1, .int cu)]) hx hb dX1_slowestColumn_5 rfl hl (by decide) rfl (fun ls hl => ?_)
    refine lv_iconst (v := 0) hx hb dX1_slowestColumn_6 (by decide) ?_
    refine lv_istore_n (lv' := [(3, .int 0), (2, .ref (xb 2)), (0, .ref xa), (1, .int cu)]) hx hb dX1_slowestColumn_7 rfl hl (by decide) rfl (fun ls hl => ?_)
    refine lv_iconst (v := 0) hx hb dX1_slowestColumn_8 (by decide) ?_
    refine lv_istore (lv' := [(4, .int 0), (3, .int 0), (2, .ref (xb 2)), (0, .ref xa), (1, .int cu)]) hx hb dX1_slowestColumn_9 hl (by decide) rfl (fun ls hl => ?_)
    exact J11 2000 (0, 0) h _ _ hP hD hS _ (lv_sub hl [2, 1, 0] rfl)
  · have h := it_n c2 h
    rw [if_neg c2]
    refine lv_astore_n (lv' := [(2, .ref (xb 3)), (0, .ref xa), (1, .int cu)]) hx hb dX1_slowestColumn_5 rfl hl (by decide) rfl (fun ls hl => ?_)
    refine lv_iconst (v := 0) hx hb dX1_slowestColumn_6 (by decide) ?_
    refine lv_istore_n (lv' := [(3, .int 0), (2, .ref (xb 3)), (0, .ref xa), (1, .int cu)]) hx hb dX1_slowestColumn_7 rfl hl (by decide) rfl (fun ls hl => ?_)
    refine lv_iconst (v := 0) hx hb dX1_slowestColumn_8 (by decide) ?_
    refine lv_istore (lv' := [(4, .int 0), (3, .int 0), (2, .ref (xb 3)), (0, .ref xa), (1, .int cu)]) hx hb dX1_slowestColumn_9 hl (by decide) rfl (fun ls hl => ?_)
    exact J11_1 2000 (0, 0) h _ _ hP hD hS _ (lv_sub hl [2, 1, 0] rfl)

theorem dX1_startOfSecond_0 : decode cX1_startOfSecond 0 = .ok (.iconst 0, 1) := by decide +kernel
theorem dX1_startOfSecond_1 : decode cX1_startOfSecond 1 = .ok (.iload_n 1, 1) := by decide +kernel
theorem dX1_startOfSecond_2 : decode cX1_startOfSecond 2 = .ok (.invokestatic 59, 3) := by decide +kernel
theorem dX1_startOfSecond_5 : decode cX1_startOfSecond 5 = .ok (.aload_n 0, 1) := by decide +kernel
theorem dX1_startOfSecond_6 : decode cX1_startOfSecond 6 = .ok (.getfield 24, 3) := by decide +kernel
theorem dX1_startOfSecond_9 : decode cX1_startOfSecond 9 = .ok (.iload_n 1, 1) := by decide +kernel
theorem dX1_startOfSecond_10 : decode cX1_startOfSecond 10 = .ok (.invokestatic 47, 3) := by decide +kernel
theorem dX1_startOfSecond_13 : decode cX1_startOfSecond 13 = .ok (.iadd, 1) := by decide +kernel
theorem dX1_startOfSecond_14 : decode cX1_startOfSecond 14 = .ok (.invokestatic 62, 3) := by decide +kernel
theorem dX1_startOfSecond_17 : decode cX1_startOfSecond 17 = .ok (.ireturn, 1) := by decide +kernel
abbrev zX1_startOfSecond : List Cond := .code yX1_startOfSecond cX1_startOfSecond 2 (some .int) :: BIG
def fX1_startOfSecond (x : ShT) (v : Int32) : Option (Int32) := (fX2_wantedLight v).bind (fun r1 => (fX2_at 6 x.2.2.2.2.1 v).bind (fun r2 => some (imax 0 (r1 + r2))))
set_option maxHeartbeats 4000000 in
set_option maxRecDepth 100000 in
theorem mtX1_startOfSecond (l : Launch) (D : va_G) (t : Nat → ClassId) (xa : Nat) (xb : Nat → Nat) (x : ShT) (v : Int32) (out : Int32) (h : fX1_startOfSecond x v = some out)  (sz : Nat) : Met l yX1_startOfSecond zX1_startOfSecond ({ frames := 1, cells := 0, slots := 0, locals := 21 }) (sPc D t (gS t xa xb x) sz [.ref xa, .int v]) (qI D t (gS t xa xb x) out (va_A (gS t xa xb x) sz)) 0 0 (va_A (gS t xa xb x) sz) := by
  refine met_of (Qf := fun A => qI D t (gS t xa xb x) out A) (cc := cX1_startOfSecond) (maxL := 2) (ret := some .int) (by decide) rfl (Nat.le_of_ble_eq_true rfl) ?_
  intro p e s m args below meth c A hx hb hr hml hts hown hlocks hA hP hK hD hE hS ls hl
  have htB : ∀ w ∈ BIG, w.before args s = true := fun w h => hts w (List.mem_cons_of_mem _ h)
  have hown : s.vm.findClass RX1 = some m.cls := hown
  have hl : lv_has ls 2 [(0, .ref xa), (1, .int v)] := hl
  unfold fX1_startOfSecond at h
  refine lv_iconst (v := 0) hx hb dX1_startOfSecond_0 (by decide) ?_
  refine lv_iload_n hx hb dX1_startOfSecond_1 rfl (lv_at hl 1 rfl) ?_
  obtain ⟨r1, h1, h⟩ := ob h
  refine call_i (v := r1) (wc := ([] : va_W)) (wc' := ([] : va_W)) (ws' := (gS t xa xb x)) (cutB (bs := [gS t xa xb x]) (cs := []) (cs' := []) (bs' := [gS t xa xb x]) [] hP hD hS hA rfl rfl rfl rfl) hS (fun hPc hDc => va_runSN (As := [.int v]) (rest := [.int 0]) ⟨hx, hb, hml, hown, hts⟩ (mtX2_wantedLight l D t v r1 h1 _) ⟨va_cnB 1 hts (gB kw123) rfl rfl rfl hE.2.2.2.2.1 (htB _ kw2) (by decide +kernel) ⟨Nat.le_of_ble_eq_true rfl, Nat.le_of_ble_eq_true rfl⟩, (htB _ kw122), trivial⟩ (sPc_S hPc hK hDc hE) rfl rfl hl.1 rfl (lv_room (Nat.le_of_ble_eq_true rfl)) dX1_startOfSecond_2 ⟨Nat.zero_le _, Nat.zero_le _⟩) (fun H locs hP hD hS => ?_)
  refine lv_aload_n hx hb dX1_startOfSecond_5 rfl (lv_at hl 0 rfl) ?_
  refine va_get (D := D) (ci := 1) (v := .ref (xb 4)) (C := RX1) (T := TX1) (N := 10) hx hb htB inlX1 hown hK hP 0 rfl rfl 4 (by decide) (htB _ kw32) (fun _ h9 => h9) rfl dX1_startOfSecond_6 ?_
  refine lv_iload_n hx hb dX1_startOfSecond_9 rfl (lv_at hl 1 rfl) ?_
  obtain ⟨r2, h2, h⟩ := ob h
  refine call_i (v := r2) (wc := (gA t (xb 4) 6 x.2.2.2.2.1)) (wc' := (gA t (xb 4) 6 x.2.2.2.2.1)) (ws' := (gS t xa xb x)) (cutI (wc := (gA t (xb 4) 6 x.2.2.2.2.1)) (wc' := (gA t (xb 4) 6 x.2.2.2.2.1)) (ws' := (gS t xa xb x)) [5] hP hD hS hA rfl rfl rfl rfl) hS (fun hPc hDc => va_runSN (As := [.ref (xb 4), .int v]) (rest := [.int r1, .int 0]) ⟨hx, hb, hml, hown, hts⟩ (mtX2_at l D t (xb 4) 6 x.2.2.2.2.1 v r2 h2 (by decide) _) ⟨va_cnB 2 hts (gB kw66) rfl rfl rfl hE.2.2.2.1 (htB _ kw2) (by decide +kernel) ⟨Nat.le_of_ble_eq_true rfl, Nat.le_of_ble_eq_true rfl⟩, (htB _ kw65), trivial⟩ (sPc_S hPc hK hDc hE) rfl rfl hl.1 rfl (lv_room (Nat.le_of_ble_eq_true rfl)) dX1_startOfSecond_10 ⟨Nat.zero_le _, Nat.zero_le _⟩) (fun H locs hP hD hS => ?_)
  refine lv_iadd hx hb dX1_startOfSecond_13 ?_
  refine va_mmax hx hb (by rw [hml]; exact hl.1.symm) hown (htB _ kw121) (htB _ kw111) (htB _ kw63) (htB _ kw112) (Nat.le_of_ble_eq_true rfl) (Nat.le_of_ble_eq_true rfl) (Nat.zero_le _) (Nat.zero_le _) dX1_startOfSecond_14 ?_
  obtain rfl := os h
  exact ret_i hx hb hr hlocks hP hK hD hS dX1_startOfSecond_17

theorem dX1_bounceColumns_0 : decode cX1_bounceColumns 0 = .ok (.aload_n 0, 1) := by decide +kernel
theorem dX1_bounceColumns_1 : decode cX1_bounceColumns 1 = .ok (.getfield 9, 3) := by decide +kernel
theorem dX1_bounceColumns_4 : decode cX1_bounceColumns 4 = .ok (.iconst 0, 1) := by decide +kernel
theorem dX1_bounceColumns_5 : decode cX1_bounceColumns 5 = .ok (.invokestatic 47, 3) := by decide +kernel
theorem dX1_bounceColumns_8 : decode cX1_bounceColumns 8 = .ok (.aload_n 0, 1) := by decide +kernel
theorem dX1_bounceColumns_9 : decode cX1_bounceColumns 9 = .ok (.getfield 27, 3) := by decide +kernel
theorem dX1_bounceColumns_12 : decode cX1_bounceColumns 12 = .ok (.iconst 1, 1) := by decide +kernel
theorem dX1_bounceColumns_13 : decode cX1_bounceColumns 13 = .ok (.invokestatic 47, 3) := by decide +kernel
theorem dX1_bounceColumns_16 : decode cX1_bounceColumns 16 = .ok (.isub, 1) := by decide +kernel
theorem dX1_bounceColumns_17 : decode cX1_bounceColumns 17 = .ok (.istore_n 1, 1) := by decide +kernel
theorem dX1_bounceColumns_18 : decode cX1_bounceColumns 18 = .ok (.iload_n 1, 1) := by decide +kernel
theorem dX1_bounceColumns_19 : decode cX1_bounceColumns 19 = .ok (.ifCond .le 14, 3) := by decide +kernel
theorem dX1_bounceColumns_22 : decode cX1_bounceColumns 22 = .ok (.iload_n 1, 1) := by decide +kernel
theorem dX1_bounceColumns_23 : decode cX1_bounceColumns 23 = .ok (.iconst 5, 1) := by decide +kernel
theorem dX1_bounceColumns_24 : decode cX1_bounceColumns 24 = .ok (.idiv, 1) := by decide +kernel
theorem dX1_bounceColumns_25 : decode cX1_bounceColumns 25 = .ok (.bipush 6, 2) := by decide +kernel
theorem dX1_bounceColumns_27 : decode cX1_bounceColumns 27 = .ok (.invokestatic 68, 3) := by decide +kernel
theorem dX1_bounceColumns_30 : decode cX1_bounceColumns 30 = .ok (.goto 4, 3) := by decide +kernel
theorem dX1_bounceColumns_33 : decode cX1_bounceColumns 33 = .ok (.iconst 0, 1) := by decide +kernel
theorem dX1_bounceColumns_34 : decode cX1_bounceColumns 34 = .ok (.ireturn, 1) := by decide +kernel
abbrev zX1_bounceColumns : List Cond := .code yX1_bounceColumns cX1_bounceColumns 2 (some .int) :: BIG
def fX1_bounceColumns (x : ShT) : Option (Int32) := (fX2_at 2 x.1 0).bind (fun r1 => (fX2_at 4 x.2.2.2.2.2.1 1).bind (fun r2 => (if (r1 - r2) ≤ 0 then some 0 else some (imin ((r1 - r2) / 5) 6))))
set_option maxHeartbeats 4000000 in
set_option maxRecDepth 100000 in
theorem mtX1_bounceColumns (l : Launch) (D : va_G) (t : Nat → ClassId) (xa : Nat) (xb : Nat → Nat) (x : ShT) (out : Int32) (h : fX1_bounceColumns x = some out)  (sz : Nat) : Met l yX1_bounceColumns zX1_bounceColumns ({ frames := 1, cells := 0, slots := 0, locals := 21 }) (sPc D t (gS t xa xb x) sz [.ref xa]) (qI D t (gS t xa xb x) out (va_A (gS t xa xb x) sz)) 0 0 (va_A (gS t xa xb x) sz) := by
  refine met_of (Qf := fun A => qI D t (gS t xa xb x) out A) (cc := cX1_bounceColumns) (maxL := 2) (ret := some .int) (by decide) rfl (Nat.le_of_ble_eq_true rfl) ?_
  intro p e s m args below meth c A hx hb hr hml hts hown hlocks hA hP hK hD hE hS ls hl
  have htB : ∀ w ∈ BIG, w.before args s = true := fun w h => hts w (List.mem_cons_of_mem _ h)
  have hown : s.vm.findClass RX1 = some m.cls := hown
  have hl : lv_has ls 2 [(0, .ref xa)] := hl
  unfold fX1_bounceColumns at h
  refine lv_aload_n hx hb dX1_bounceColumns_0 rfl (lv_at hl 0 rfl) ?_
  refine va_get (D := D) (ci := 1) (v := .ref (xb 0)) (C := RX1) (T := TX1) (N := 10) hx hb htB inlX1 hown hK hP 0 rfl rfl 0 (by decide) (htB _ kw28) (fun _ h9 => h9) rfl dX1_bounceColumns_1 ?_
  refine lv_iconst (v := 0) hx hb dX1_bounceColumns_4 (by decide) ?_
  obtain ⟨r1, h1, h⟩ := ob h
  refine call_i (v := r1) (wc := (gA t (xb 0) 2 x.1)) (wc' := (gA t (xb 0) 2 x.1)) (ws' := (gS t xa xb x)) (cutI (wc := (gA t (xb 0) 2 x.1)) (wc' := (gA t (xb 0) 2 x.1)) (ws' := (gS t xa xb x)) [1] hP hD hS hA rfl rfl rfl rfl) hS (fun hPc hDc => va_runSN (As := [.ref (xb 0), .int 0]) (rest := []) ⟨hx, hb, hml, hown, hts⟩ (mtX2_at l D t (xb 0) 2 x.1 0 r1 h1 (by decide) _) ⟨va_cnB 2 hts (gB kw66) rfl rfl rfl hE.2.2.2.1 (htB _ kw2) (by decide +kernel) ⟨Nat.le_of_ble_eq_true rfl, Nat.le_of_ble_eq_true rfl⟩, (htB _ kw65), trivial⟩ (sPc_S hPc hK hDc hE) rfl rfl hl.1 rfl (lv_room (Nat.le_of_ble_eq_true rfl)) dX1_bounceColumns_5 ⟨Nat.zero_le _, Nat.zero_le _⟩) (fun H locs hP hD hS => ?_)
  refine lv_aload_n hx hb dX1_bounceColumns_8 rfl (lv_at hl 0 rfl) ?_
  refine va_get (D := D) (ci := 1) (v := .ref (xb 5)) (C := RX1) (T := TX1) (N := 10) hx hb htB inlX1 hown hK hP 0 rfl rfl 5 (by decide) (htB _ kw33) (fun _ h9 => h9) rfl dX1_bounceColumns_9 ?_
  refine lv_iconst (v := 1) hx hb dX1_bounceColumns_12 (by decide) ?_
  obtain ⟨r2, h2, h⟩ := ob h
  refine call_i (v := r2) (wc := (gA t (xb 5) 4 x.2.2.2.2.2.1)) (wc' := (gA t (xb 5) 4 x.2.2.2.2.2.1)) (ws' := (gS t xa xb x)) (cutI (wc := (gA t (xb 5) 4 x.2.2.2.2.2.1)) (wc' := (gA t (xb 5) 4 x.2.2.2.2.2.1)) (ws' := (gS t xa xb x)) [6] hP hD hS hA rfl rfl rfl rfl) hS (fun hPc hDc => va_runSN (As := [.ref (xb 5), .int 1]) (rest := [.int r1]) ⟨hx, hb, hml, hown, hts⟩ (mtX2_at l D t (xb 5) 4 x.2.2.2.2.2.1 1 r2 h2 (by decide) _) ⟨va_cnB 2 hts (gB kw66) rfl rfl rfl hE.2.2.2.1 (htB _ kw2) (by decide +kernel) ⟨Nat.le_of_ble_eq_true rfl, Nat.le_of_ble_eq_true rfl⟩, (htB _ kw65), trivial⟩ (sPc_S hPc hK hDc hE) rfl rfl hl.1 rfl (lv_room (Nat.le_of_ble_eq_true rfl)) dX1_bounceColumns_13 ⟨Nat.zero_le _, Nat.zero_le _⟩) (fun H locs hP hD hS => ?_)
  refine lv_isub hx hb dX1_bounceColumns_16 ?_
  refine lv_istore_n (lv' := [(1, .int (r1 - r2)), (0, .ref xa)]) hx hb dX1_bounceColumns_17 rfl hl (by decide) rfl (fun ls hl => ?_)
  refine lv_iload_n hx hb dX1_bounceColumns_18 rfl (lv_at hl 0 rfl) ?_
  refine lv_if_le (tgt := 33) hx hb dX1_bounceColumns_19 (by decide) (fun c3 => ?_) (fun c3 => ?_)
  · have h := it_p c3 h
    refine lv_iconst (v := 0) hx hb dX1_bounceColumns_33 (by decide) ?_
    obtain rfl := os h
    exact ret_i hx hb hr hlocks hP hK hD hS dX1_bounceColumns_34
  · have h := it_n c3 h
    refine lv_iload_n hx hb dX1_bounceColumns_22 rfl (lv_at hl 0 rfl) ?_
    refine lv_iconst (v := 5) hx hb dX1_bounceColumns_23 (by decide) ?_
    refine lv_idiv hx hb dX1_bounceColumns_24 (by decide) ?_
    refine lv_bipush (v := 6) hx hb dX1_bounceColumns_25 (by decide) ?_
    refine va_mmin hx hb (by rw [hml]; exact hl.1.symm) hown (htB _ kw61) (htB _ kw62) (htB _ kw63) (htB _ kw64) (Nat.le_of_ble_eq_true rfl) (Nat.le_of_ble_eq_true rfl) (Nat.zero_le _) (Nat.zero_le _) dX1_bounceColumns_27 ?_
    refine lv_goto (tgt := 34) hx hb dX1_bounceColumns_30 (by decide) ?_
    obtain rfl := os h
    exact ret_i hx hb hr hlocks hP hK hD hS dX1_bounceColumns_34

theorem dX0_spread_0 : decode cX0_spread 0 = .ok (.aload_n 0, 1) := by decide +kernel
theorem dX0_spread_1 : decode cX0_spread 1 = .ok (.getfield 21, 3) := by decide +kernel
theorem dX0_spread_4 : decode cX0_spread 4 = .ok (.aload_n 0, 1) := by decide +kernel
theorem dX0_spread_5 : decode cX0_spread 5 = .ok (.getfield 25, 3) := by decide +kernel
theorem dX0_spread_8 : decode cX0_spread 8 = .ok (.isub, 1) := by decide +kernel
theorem dX0_spread_9 : decode cX0_spread 9 = .ok (.ireturn, 1) := by decide +kernel
abbrev zX0_spread : List Cond := .code yX0_spread cX0_spread 1 (some .int) :: BIG
def fX0_spread (ex : ExT) : Option (Int32) := some (ex.2.2.2.2.2.1 - ex.2.2.2.2.1)
set_option maxHeartbeats 4000000 in
set_option maxRecDepth 100000 in
theorem mtX0_spread (l : Launch) (D : va_G) (t : Nat → ClassId) (ea : Nat) (eb : Nat → Nat) (ex : ExT) (out : Int32) (h : fX0_spread ex = some out)  (sz : Nat) : Met l yX0_spread zX0_spread ({ frames := 0, cells := 0, slots := 0, locals := 0 }) (sPc D t (gE t ea eb ex) sz [.ref ea]) (qI D t (gE t ea eb ex) out (va_A (gE t ea eb ex) sz)) 0 0 (va_A (gE t ea eb ex) sz) := by
  refine met_of (Qf := fun A => qI D t (gE t ea eb ex) out A) (cc := cX0_spread) (maxL := 1) (ret := some .int) (by decide) rfl (Nat.le_of_ble_eq_true rfl) ?_
  intro p e s m args below meth c A hx hb hr hml hts hown hlocks hA hP hK hD hE hS ls hl
  have htB : ∀ w ∈ BIG, w.before args s = true := fun w h => hts w (List.mem_cons_of_mem _ h)
  have hown : s.vm.findClass RX0 = some m.cls := hown
  have hl : lv_has ls 1 [(0, .ref ea)] := hl
  unfold fX0_spread at h
  refine lv_aload_n hx hb dX0_spread_0 rfl (lv_at hl 0 rfl) ?_
  refine va_get (D := D) (ci := 0) (v := .int ex.2.2.2.2.2.1) (C := RX0) (T := TX0) (N := 10) hx hb htB inlX0 hown hK hP 0 rfl rfl 5 (by decide) (htB _ kw137) (fun _ h9 => h9) rfl dX0_spread_1 ?_
  refine lv_aload_n hx hb dX0_spread_4 rfl (lv_at hl 0 rfl) ?_
  refine va_get (D := D) (ci := 0) (v := .int ex.2.2.2.2.1) (C := RX0) (T := TX0) (N := 10) hx hb htB inlX0 hown hK hP 0 rfl rfl 4 (by decide) (htB _ kw136) (fun _ h9 => h9) rfl dX0_spread_5 ?_
  refine lv_isub hx hb dX0_spread_8 ?_
  obtain rfl := os h
  exact ret_i hx hb hr hlocks hP hK hD hS dX0_spread_9

theorem dX1_tally_0 : decode cX1_tally 0 = .ok (.aload_n 0, 1) := by decide +kernel
theorem dX1_tally_1 : decode cX1_tally 1 = .ok (.dup, 1) := by decide +kernel
theorem dX1_tally_2 : decode cX1_tally 2 = .ok (.getfield 33, 3) := by decide +kernel
theorem dX1_tally_5 : decode cX1_tally 5 = .ok (.iconst 1, 1) := by decide +kernel
theorem dX1_tally_6 : decode cX1_tally 6 = .ok (.iadd, 1) := by decide +kernel
theorem dX1_tally_7 : decode cX1_tally 7 = .ok (.putfield 33, 3) := by decide +kernel
theorem dX1_tally_10 : decode cX1_tally 10 = .ok (.aload_n 0, 1) := by decide +kernel
theorem dX1_tally_11 : decode cX1_tally 11 = .ok (.getfield 30, 3) := by decide +kernel
theorem dX1_tally_14 : decode cX1_tally 14 = .ok (.iload_n 1, 1) := by decide +kernel
theorem dX1_tally_15 : decode cX1_tally 15 = .ok (.aload_n 0, 1) := by decide +kernel
theorem dX1_tally_16 : decode cX1_tally 16 = .ok (.getfield 30, 3) := by decide +kernel
theorem dX1_tally_19 : decode cX1_tally 19 = .ok (.iload_n 1, 1) := by decide +kernel
theorem dX1_tally_20 : decode cX1_tally 20 = .ok (.invokestatic 47, 3) := by decide +kernel
theorem dX1_tally_23 : decode cX1_tally 23 = .ok (.iconst 1, 1) := by decide +kernel
theorem dX1_tally_24 : decode cX1_tally 24 = .ok (.iadd, 1) := by decide +kernel
theorem dX1_tally_25 : decode cX1_tally 25 = .ok (.invokestatic 71, 3) := by decide +kernel
theorem dX1_tally_28 : decode cX1_tally 28 = .ok (.aload_n 0, 1) := by decide +kernel
theorem dX1_tally_29 : decode cX1_tally 29 = .ok (.aload_n 2, 1) := by decide +kernel
theorem dX1_tally_30 : decode cX1_tally 30 = .ok (.getfield 75, 3) := by decide +kernel
theorem dX1_tally_33 : decode cX1_tally 33 = .ok (.putfield 37, 3) := by decide +kernel
theorem dX1_tally_36 : decode cX1_tally 36 = .ok (.aload_n 0, 1) := by decide +kernel
theorem dX1_tally_37 : decode cX1_tally 37 = .ok (.aload_n 0, 1) := by decide +kernel
theorem dX1_tally_38 : decode cX1_tally 38 = .ok (.getfield 40, 3) := by decide +kernel
theorem dX1_tally_41 : decode cX1_tally 41 = .ok (.aload_n 2, 1) := by decide +kernel
theorem dX1_tally_42 : decode cX1_tally 42 = .ok (.invokevirtual 80, 3) := by decide +kernel
theorem dX1_tally_45 : decode cX1_tally 45 = .ok (.invokestatic 62, 3) := by decide +kernel
theorem dX1_tally_48 : decode cX1_tally 48 = .ok (.putfield 40, 3) := by decide +kernel
theorem dX1_tally_51 : decode cX1_tally 51 = .ok (.aload_n 0, 1) := by decide +kernel
theorem dX1_tally_52 : decode cX1_tally 52 = .ok (.getfield 27, 3) := by decide +kernel
theorem dX1_tally_55 : decode cX1_tally 55 = .ok (.iconst 3, 1) := by decide +kernel
theorem dX1_tally_56 : decode cX1_tally 56 = .ok (.invokestatic 47, 3) := by decide +kernel
theorem dX1_tally_59 : decode cX1_tally 59 = .ok (.istore_n 3, 1) := by decide +kernel
theorem dX1_tally_60 : decode cX1_tally 60 = .ok (.iload_n 3, 1) := by decide +kernel
theorem dX1_tally_61 : decode cX1_tally 61 = .ok (.ifCond .le 16, 3) := by decide +kernel
theorem dX1_tally_64 : decode cX1_tally 64 = .ok (.aload_n 0, 1) := by decide +kernel
theorem dX1_tally_65 : decode cX1_tally 65 = .ok (.getfield 33, 3) := by decide +kernel
theorem dX1_tally_68 : decode cX1_tally 68 = .ok (.iload_n 3, 1) := by decide +kernel
theorem dX1_tally_69 : decode cX1_tally 69 = .ok (.irem, 1) := by decide +kernel
theorem dX1_tally_70 : decode cX1_tally 70 = .ok (.ifCond .ne 7, 3) := by decide +kernel
theorem dX1_tally_73 : decode cX1_tally 73 = .ok (.iconst 1, 1) := by decide +kernel
theorem dX1_tally_74 : decode cX1_tally 74 = .ok (.goto 4, 3) := by decide +kernel
theorem dX1_tally_77 : decode cX1_tally 77 = .ok (.iconst 0, 1) := by decide +kernel
theorem dX1_tally_78 : decode cX1_tally 78 = .ok (.istore 4, 2) := by decide +kernel
theorem dX1_tally_80 : decode cX1_tally 80 = .ok (.iconst 0, 1) := by decide +kernel
theorem dX1_tally_81 : decode cX1_tally 81 = .ok (.istore 5, 2) := by decide +kernel
theorem dX1_tally_83 : decode cX1_tally 83 = .ok (.iload 5, 2) := by decide +kernel
theorem dX1_tally_85 : decode cX1_tally 85 = .ok (.iconst 2, 1) := by decide +kernel
theorem dX1_tally_86 : decode cX1_tally 86 = .ok (.if_icmp .ge 58, 3) := by decide +kernel
theorem dX1_tally_89 : decode cX1_tally 89 = .ok (.aload_n 0, 1) := by decide +kernel
theorem dX1_tally_90 : decode cX1_tally 90 = .ok (.getfield 15, 3) := by decide +kernel
theorem dX1_tally_93 : decode cX1_tally 93 = .ok (.iload 5, 2) := by decide +kernel
theorem dX1_tally_95 : decode cX1_tally 95 = .ok (.aload_n 0, 1) := by decide +kernel
theorem dX1_tally_96 : decode cX1_tally 96 = .ok (.getfield 15, 3) := by decide +kernel
theorem dX1_tally_99 : decode cX1_tally 99 = .ok (.iload 5, 2) := by decide +kernel
theorem dX1_tally_101 : decode cX1_tally 101 = .ok (.invokestatic 47, 3) := by decide +kernel
theorem dX1_tally_104 : decode cX1_tally 104 = .ok (.iconst 1, 1) := by decide +kernel
theorem dX1_tally_105 : decode cX1_tally 105 = .ok (.iadd, 1) := by decide +kernel
theorem dX1_tally_106 : decode cX1_tally 106 = .ok (.invokestatic 71, 3) := by decide +kernel
theorem dX1_tally_109 : decode cX1_tally 109 = .ok (.iload 4, 2) := by decide +kernel
theorem dX1_tally_111 : decode cX1_tally 111 = .ok (.ifCond .eq 27, 3) := by decide +kernel
theorem dX1_tally_114 : decode cX1_tally 114 = .ok (.aload_n 0, 1) := by decide +kernel
theorem dX1_tally_115 : decode cX1_tally 115 = .ok (.getfield 9, 3) := by decide +kernel
theorem dX1_tally_118 : decode cX1_tally 118 = .ok (.iload 5, 2) := by decide +kernel
theorem dX1_tally_120 : decode cX1_tally 120 = .ok (.iconst 1, 1) := by decide +kernel
theorem dX1_tally_121 : decode cX1_tally 121 = .ok (.aload_n 0, 1) := by decide +kernel
theorem dX1_tally_122 : decode cX1_tally 122 = .ok (.getfield 9, 3) := by decide +kernel
theorem dX1_tally_125 : decode cX1_tally 125 = .ok (.iload 5, 2) := by decide +kernel
theorem dX1_tally_127 : decode cX1_tally 127 = .ok (.invokestatic 47, 3) := by decide +kernel
theorem dX1_tally_130 : decode cX1_tally 130 = .ok (.iconst 1, 1) := by decide +kernel
theorem dX1_tally_131 : decode cX1_tally 131 = .ok (.isub, 1) := by decide +kernel
theorem dX1_tally_132 : decode cX1_tally 132 = .ok (.invokestatic 62, 3) := by decide +kernel
theorem dX1_tally_135 : decode cX1_tally 135 = .ok (.invokestatic 71, 3) := by decide +kernel
theorem dX1_tally_138 : decode cX1_tally 138 = .ok (.iinc 5 1, 3) := by decide +kernel
theorem dX1_tally_141 : decode cX1_tally 141 = .ok (.goto (-58), 3) := by decide +kernel
theorem dX1_tally_144 : decode cX1_tally 144 = .ok (.return_, 1) := by decide +kernel
abbrev zX1_tally : List Cond := .code yX1_tally cX1_tally 6 none :: BIG
def fX1_tally_l83 (ex : ExT)  (K83 : (ShT × Int32 × Int32) → Option (ShT)) (v83 : ShT × Int32 × Int32) : Option (ShT) := (if 2 ≤ v83.2.2 then some v83.1 else (fX2_at 2 v83.1.2.1 v83.2.2).bind (fun r9 => (fX2_put 2 v83.1.2.1 v83.2.2 (r9 + 1)).bind (fun r10 => (if v83.2.1 = 0 then K83 ((v83.1.1, r10, v83.1.2.2.1, v83.1.2.2.2.1, v83.1.2.2.2.2.1, v83.1.2.2.2.2.2.1, v83.1.2.2.2.2.2.2.1, v83.1.2.2.2.2.2.2.2.1, v83.1.2.2.2.2.2.2.2.2.1, v83.1.2.2.2.2.2.2.2.2.2), v83.2.1, v83.2.2 + 1) else (fX2_at 2 v83.1.1 v83.2.2).bind (fun r12 => (fX2_put 2 v83.1.1 v83.2.2 (imax 1 (r12 - 1))).bind (fun r13 => K83 ((r13, r10, v83.1.2.2.1, v83.1.2.2.2.1, v83.1.2.2.2.2.1, v83.1.2.2.2.2.2.1, v83.1.2.2.2.2.2.2.1, v83.1.2.2.2.2.2.2.2.1, v83.1.2.2.2.2.2.2.2.2.1, v83.1.2.2.2.2.2.2.2.2.2), v83.2.1, v83.2.2 + 1)))))))
def fX1_tally (x : ShT) (ex : ExT) (v : Int32) : Option (ShT) := (fX2_at 6 x.2.2.2.2.2.2.1 v).bind (fun r1 => (fX2_put 6 x.2.2.2.2.2.2.1 v (r1 + 1)).bind (fun r2 => (fX0_spread ex).bind (fun r3 => (fX2_at 4 x.2.2.2.2.2.1 3).bind (fun r4 => (if r4 ≤ 0 then lp (fX1_tally_l83 ex) 2000 ((x.1, x.2.1, x.2.2.1, x.2.2.2.1, x.2.2.2.2.1, x.2.2.2.2.2.1, r2, (x.2.2.2.2.2.2.2.1 + 1), ex.2.2.2.1, (imax x.2.2.2.2.2.2.2.2.2 r3)), 0, 0) else gd (nz r4) ((if ((x.2.2.2.2.2.2.2.1 + 1) - (x.2.2.2.2.2.2.2.1 + 1) / r4 * r4) = 0 then lp (fX1_tally_l83 ex) 2000 ((x.1, x.2.1, x.2.2.1, x.2.2.2.1, x.2.2.2.2.1, x.2.2.2.2.2.1, r2, (x.2.2.2.2.2.2.2.1 + 1), ex.2.2.2.1, (imax x.2.2.2.2.2.2.2.2.2 r3)), 1, 0) else lp (fX1_tally_l83 ex) 2000 ((x.1, x.2.1, x.2.2.1, x.2.2.2.1, x.2.2.2.2.1, x.2.2.2.2.2.1, r2, (x.2.2.2.2.2.2.2.1 + 1), ex.2.2.2.1, (imax x.2.2.2.2.2.2.2.2.2 r3)), 0, 0))))))))
set_option maxHeartbeats 4000000 in
set_option maxRecDepth 100000 in
theorem mtX1_tally (l : Launch) (D : va_G) (t : Nat → ClassId) (xa : Nat) (xb : Nat → Nat) (x : ShT) (ea : Nat) (eb : Nat → Nat) (ex : ExT) (v : Int32) (out : ShT) (h : fX1_tally x ex v = some out)  (sz : Nat) : Met l yX1_tally zX1_tally ({ frames := 1, cells := 0, slots := 0, locals := 22 }) (sPc D t (gS t xa xb x ++ (gE t ea eb ex)) sz [.ref xa, .int v, .ref ea]) (qV D t (gS t xa xb out ++ (gE t ea eb ex)) (va_A (gS t xa xb x ++ (gE t ea eb ex)) sz)) 0 0 (va_A (gS t xa xb x ++ (gE t ea eb ex)) sz) := by
  refine met_of (Qf := fun A => qV D t (gS t xa xb out ++ (gE t ea eb ex)) A) (cc := cX1_tally) (maxL := 6) (ret := none) (by decide) rfl (Nat.le_of_ble_eq_true rfl) ?_
  intro p e s m args below meth c A hx hb hr hml hts hown hlocks hA hP hK hD hE hS ls hl
  have htB : ∀ w ∈ BIG, w.before args s = true := fun w h => hts w (List.mem_cons_of_mem _ h)
  have hown : s.vm.findClass RX1 = some m.cls := hown
  have hl : lv_has ls 6 [(0, .ref xa), (1, .int v), (2, .ref ea)] := hl
  unfold fX1_tally at h
  have J83 : ∀ (fu83 : Nat) (v83 : ShT × Int32 × Int32), lp (fX1_tally_l83 ex) fu83 v83 = some out → ∀ (H : Heap) (locs : List Loc), va_P D vwCl (gS t xa xb v83.1 ++ (gE t ea eb ex)) H → va_D A (gS t xa xb v83.1 ++ (gE t ea eb ex)) → va_S A s.heap H locs → ∀ ls : Array Slot, lv_has ls 6 [(0, .ref xa), (4, .int v83.2.1), (5, .int v83.2.2)] → W p l e ({ frames := 1, cells := 0, slots := 0, locals := 22 }) s m args below meth c H locs 0 0 (MQ below (qV D t (gS t xa xb out ++ (gE t ea eb ex)) A) args s 0 0 A) (F0 m 83 ls []) := by
    intro fu83
    induction fu83 with
    | zero => intro v83 h; cases h
    | succ fu83 ih83 =>
      intro v83 h H locs hP hD hS ls hl
      have h : fX1_tally_l83 ex (lp (fX1_tally_l83 ex) fu83) v83 = some out := h
      unfold fX1_tally_l83 at h
      refine lv_iload hx hb dX1_tally_83 (lv_at hl 2 rfl) ?_
      refine lv_iconst (v := 2) hx hb dX1_tally_85 (by decide) ?_
      refine lv_icmp_ge (tgt := 144) hx hb dX1_tally_86 (by decide) (fun c8 => ?_) (fun c8 => ?_)
      · have h := it_p c8 h
        obtain rfl := os h
        exact ret_v hx hb hr hlocks hP hK hD hS dX1_tally_144
      · have h := it_n c8 h
        refine lv_aload_n hx hb dX1_tally_89 rfl (lv_at hl 0 rfl) ?_
        refine va_get (D := D) (ci := 1) (v := .ref (xb 1)) (C := RX1) (T := TX1) (N := 10) hx hb htB inlX1 hown hK hP 0 rfl rfl 1 (by decide) (htB _ kw29) (fun _ h9 => h9) rfl dX1_tally_90 ?_
        refine lv_iload hx hb dX1_tally_93 (lv_at hl 2 rfl) ?_
        refine lv_aload_n hx hb dX1_tally_95 rfl (lv_at hl 0 rfl) ?_
        refine va_get (D := D) (ci := 1) (v := .ref (xb 1)) (C := RX1) (T := TX1) (N := 10) hx hb htB inlX1 hown hK hP 0 rfl rfl 1 (by decide) (htB _ kw29) (fun _ h9 => h9) rfl dX1_tally_96 ?_
        refine lv_iload hx hb dX1_tally_99 (lv_at hl 2 rfl) ?_
        obtain ⟨r9, h9, h⟩ := ob h
        refine call_i (v := r9) (wc := (gA t (xb 1) 2 v83.1.2.1)) (wc' := (gA t (xb 1) 2 v83.1.2.1)) (ws' := (gS t xa xb v83.1 ++ (gE t ea eb ex))) (cutI (wc := (gA t (xb 1) 2 v83.1.2.1)) (wc' := (gA t (xb 1) 2 v83.1.2.1)) (ws' := (gS t xa xb v83.1 ++ (gE t ea eb ex))) [2] hP hD hS hA rfl rfl rfl rfl) hS (fun hPc hDc => va_runSN (As := [.ref (xb 1), .int v83.2.2]) (rest := [.int v83.2.2, .ref (xb 1)]) ⟨hx, hb, hml, hown, hts⟩ (mtX2_at l D t (xb 1) 2 v83.1.2.1 v83.2.2 r9 h9 (by decide) _) ⟨va_cnB 2 hts (gB kw66) rfl rfl rfl hE.2.2.2.1 (htB _ kw2) (by decide +kernel) ⟨Nat.le_of_ble_eq_true rfl, Nat.le_of_ble_eq_true rfl⟩, (htB _ kw65), trivial⟩ (sPc_S hPc hK hDc hE) rfl rfl hl.1 rfl (lv_room (Nat.le_of_ble_eq_true rfl)) dX1_tally_101 ⟨Nat.zero_le _, Nat.zero_le _⟩) (fun H locs hP hD hS => ?_)
        refine lv_iconst (v := 1) hx hb dX1_tally_104 (by decide) ?_
        refine lv_iadd hx hb dX1_tally_105 ?_
        obtain ⟨r10, h10, h⟩ := ob h
        refine call_v (wc := (gA t (xb 1) 2 v83.1.2.1)) (wc' := (gA t (xb 1) 2 r10)) (ws' := (gS t xa xb (v83.1.1, r10, v83.1.2.2.1, v83.1.2.2.2.1, v83.1.2.2.2.2.1, v83.1.2.2.2.2.2.1, v83.1.2.2.2.2.2.2.1, v83.1.2.2.2.2.2.2.2.1, v83.1.2.2.2.2.2.2.2.2.1, v83.1.2.2.2.2.2.2.2.2.2) ++ (gE t ea eb ex))) (cutI (wc := (gA t (xb 1) 2 v83.1.2.1)) (wc' := (gA t (xb 1) 2 r10)) (ws' := (gS t xa xb (v83.1.1, r10, v83.1.2.2.1, v83.1.2.2.2.1, v83.1.2.2.2.2.1, v83.1.2.2.2.2.2.1, v83.1.2.2.2.2.2.2.1, v83.1.2.2.2.2.2.2.2.1, v83.1.2.2.2.2.2.2.2.2.1, v83.1.2.2.2.2.2.2.2.2.2) ++ (gE t ea eb ex))) [2] hP hD hS hA rfl rfl rfl rfl) hS (fun hPc hDc => va_runSN (As := [.ref (xb 1), .int v83.2.2, .int (r9 + 1)]) (rest := []) ⟨hx, hb, hml, hown, hts⟩ (mtX2_put l D t (xb 1) 2 v83.1.2.1 v83.2.2 (r9 + 1) r10 h10 (by decide) _) ⟨va_cnB 3 hts (gB kw151) rfl rfl rfl hE.2.2.2.2.2 (htB _ kw2) (by decide +kernel) ⟨Nat.le_of_ble_eq_true rfl, Nat.le_of_ble_eq_true rfl⟩, (htB _ kw150), trivial⟩ (sPc_S hPc hK hDc hE) rfl rfl hl.1 rfl (lv_room (Nat.le_of_ble_eq_true rfl)) dX1_tally_106 ⟨Nat.zero_le _, Nat.zero_le _⟩) (fun H locs hP hD hS => ?_)
        refine lv_iload hx hb dX1_tally_109 (lv_at hl 1 rfl) ?_
        refine lv_if_eq (tgt := 138) hx hb dX1_tally_111 (by decide) (fun c11 => ?_) (fun c11 => ?_)
        · have h := it_p c11 h
          refine lv_iinc (v := v83.2.2 + 1) (lv' := [(5, .int (v83.2.2 + 1)), (0, .ref xa), (4, .int v83.2.1)]) hx hb dX1_tally_138 hl (k := 2) rfl rfl (by decide) rfl (fun ls hl => ?_)
          refine lv_goto (tgt := 83) hx hb dX1_tally_141 (by decide) ?_
          exact ih83 ((v83.1.1, r10, v83.1.2.2.1, v83.1.2.2.2.1, v83.1.2.2.2.2.1, v83.1.2.2.2.2.2.1, v83.1.2.2.2.2.2.2.1, v83.1.2.2.2.2.2.2.2.1, v83.1.2.2.2.2.2.2.2.2.1, v83.1.2.2.2.2.2.2.2.2.2), v83.2.1, v83.2.2 + 1) h _ _ hP hD hS _ (lv_sub hl [1, 2, 0] rfl)
        · have h := it_n c11 h
          refine lv_aload_n hx hb dX1_tally_114 rfl (lv_at hl 0 rfl) ?_
          refine va_get (D := D) (ci := 1) (v := .ref (xb 0)) (C := RX1) (T := TX1) (N := 10) hx hb htB inlX1 hown hK hP 0 rfl rfl 0 (by decide) (htB _ kw28) (fun _ h9 => h9) rfl dX1_tally_115 ?_
          refine lv_iload hx hb dX1_tally_118 (lv_at hl 2 rfl) ?_
          refine lv_iconst (v := 1) hx hb dX1_tally_120 (by decide) ?_
          refine lv_aload_n hx hb dX1_tally_121 rfl (lv_at hl 0 rfl) ?_
          refine va_get (D := D) (ci := 1) (v := .ref (xb 0)) (C := RX1) (T := TX1) (N := 10) hx hb htB inlX1 hown hK hP 0 rfl rfl 0 (by decide) (htB _ kw28) (fun _ h9 => h9) rfl dX1_tally_122 ?_
          refine lv_iload hx hb dX1_tally_125 (lv_at hl 2 rfl) ?_
          obtain ⟨r12, h12, h⟩ := ob h
          refine call_i (v := r12) (wc := (gA t (xb 0) 2 v83.1.1)) (wc' := (gA t (xb 0) 2 v83.1.1)) (ws' := (gS t xa xb (v83.1.1, r10, v83.1.2.2.1, v83.1.2.2.2.1, v83.1.2.2.2.2.1, v83.1.2.2.2.2.2.1, v83.1.2.2.2.2.2.2.1, v83.1.2.2.2.2.2.2.2.1, v83.1.2.2.2.2.2.2.2.2.1, v83.1.2.2.2.2.2.2.2.2.2) ++ (gE t ea eb ex))) (cutI (wc := (gA t (xb 0) 2 v83.1.1)) (wc' := (gA t (xb 0) 2 v83.1.1)) (ws' := (gS t xa xb (v83.1.1, r10, v83.1.2.2.1, v83.1.2.2.2.1, v83.1.2.2.2.2.1, v83.1.2.2.2.2.2.1, v83.1.2.2.2.2.2.2.1, v83.1.2.2.2.2.2.2.2.1, v83.1.2.2.2.2.2.2.2.2.1, v83.1.2.2.2.2.2.2.2.2.2) ++ (gE t ea eb ex))) [1] hP hD hS hA rfl rfl rfl rfl) hS (fun hPc hDc => va_runSN (As := [.ref (xb 0), .int v83.2.2]) (rest := [.int 1, .int v83.2.2, .ref (xb 0)]) ⟨hx, hb, hml, hown, hts⟩ (mtX2_at l D t (xb 0) 2 v83.1.1 v83.2.2 r12 h12 (by decide) _) ⟨va_cnB 2 hts (gB kw66) rfl rfl rfl hE.2.2.2.1 (htB _ kw2) (by decide +kernel) ⟨Nat.le_of_ble_eq_true rfl, Nat.le_of_ble_eq_true rfl⟩, (htB _ kw65), trivial⟩ (sPc_S hPc hK hDc hE) rfl rfl hl.1 rfl (lv_room (Nat.le_of_ble_eq_true rfl)) dX1_tally_127 ⟨Nat.zero_le _, Nat.zero_le _⟩) (fun H locs hP hD hS => ?_)
          refine lv_iconst (v := 1) hx hb dX1_tally_130 (by decide) ?_
          refine lv_isub hx hb dX1_tally_131 ?_
          refine va_mmax hx hb (by rw [hml]; exact hl.1.symm) hown (htB _ kw121) (htB _ kw111) (htB _ kw63) (htB _ kw112) (Nat.le_of_ble_eq_true rfl) (Nat.le_of_ble_eq_true rfl) (Nat.zero_le _) (Nat.zero_le _) dX1_tally_132 ?_
          obtain ⟨r13, h13, h⟩ := ob h
          refine call_v (wc := (gA t (xb 0) 2 v83.1.1)) (wc' := (gA t (xb 0) 2 r13)) (ws' := (gS t xa xb (r13, r10, v83.1.2.2.1, v83.1.2.2.2.1, v83.1.2.2.2.2.1, v83.1.2.2.2.2.2.1, v83.1.2.2.2.2.2.2.1, v83.1.2.2.2.2.2.2.2.1, v83.1.2.2.2.2.2.2.2.2.1, v83.1.2.2.2.2.2.2.2.2.2) ++ (gE t ea eb ex))) (cutI (wc := (gA t (xb 0) 2 v83.1.1)) (wc' := (gA t (xb 0) 2 r13)) (ws' := (gS t xa xb (r13, r10, v83.1.2.2.1, v83.1.2.2.2.1, v83.1.2.2.2.2.1, v83.1.2.2.2.2.2.1, v83.1.2.2.2.2.2.2.1, v83.1.2.2.2.2.2.2.2.1, v83.1.2.2.2.2.2.2.2.2.1, v83.1.2.2.2.2.2.2.2.2.2) ++ (gE t ea eb ex))) [1] hP hD hS hA rfl rfl rfl rfl) hS (fun hPc hDc => va_runSN (As := [.ref (xb 0), .int v83.2.2, .int (imax 1 (r12 - 1))]) (rest := []) ⟨hx, hb, hml, hown, hts⟩ (mtX2_put l D t (xb 0) 2 v83.1.1 v83.2.2 (imax 1 (r12 - 1)) r13 h13 (by decide) _) ⟨va_cnB 3 hts (gB kw151) rfl rfl rfl hE.2.2.2.2.2 (htB _ kw2) (by decide +kernel) ⟨Nat.le_of_ble_eq_true rfl, Nat.le_of_ble_eq_true rfl⟩, (htB _ kw150), trivial⟩ (sPc_S hPc hK hDc hE) rfl rfl hl.1 rfl (lv_room (Nat.le_of_ble_eq_true rfl)) dX1_tally_135 ⟨Nat.zero_le _, Nat.zero_le _⟩) (fun H locs hP hD hS => ?_)
          refine lv_iinc (v := v83.2.2 + 1) (lv' := [(5, .int (v83.2.2 + 1)), (0, .ref xa), (4, .int v83.2.1)]) hx hb dX1_tally_138 hl (k := 2) rfl rfl (by decide) rfl (fun ls hl => ?_)
          refine lv_goto (tgt := 83) hx hb dX1_tally_141 (by decide) ?_
          exact ih83 ((r13, r10, v83.1.2.2.1, v83.1.2.2.2.1, v83.1.2.2.2.2.1, v83.1.2.2.2.2.2.1, v83.1.2.2.2.2.2.2.1, v83.1.2.2.2.2.2.2.2.1, v83.1.2.2.2.2.2.2.2.2.1, v83.1.2.2.2.2.2.2.2.2.2), v83.2.1, v83.2.2 + 1) h _ _ hP hD hS _ (lv_sub hl [1, 2, 0] rfl)
  refine lv_aload_n hx hb dX1_tally_0 rfl (lv_at hl 0 rfl) ?_
  refine lv_dup hx hb dX1_tally_1 rfl ?_
  refine va_get (D := D) (ci := 1) (v := .int x.2.2.2.2.2.2.2.1) (C := RX1) (T := TX1) (N := 10) hx hb htB inlX1 hown hK hP 0 rfl rfl 7 (by decide) (htB _ kw35) (fun _ h9 => h9) rfl dX1_tally_2 ?_
  refine lv_iconst (v := 1) hx hb dX1_tally_5 (by decide) ?_
  refine lv_iadd hx hb dX1_tally_6 ?_
  refine va_put (D := D) (ci := 1) (v := .int (x.2.2.2.2.2.2.2.1 + 1)) (ty := .int) (C := RX1) (T := TX1) (N := 10) hx hb htB inlX1 tyX1 tyX1_ok nmX1 hown hK hP hD hS 0 rfl rfl 7 (by decide) (htB _ kw35) (fun _ h9 => h9) rfl (by decide +kernel) rfl rfl (Nat.le_of_ble_eq_true rfl) dX1_tally_7 (fun H locs hP hD hS => ?_)
  have hP : va_P D vwCl (gS t xa xb (x.1, x.2.1, x.2.2.1, x.2.2.2.1, x.2.2.2.2.1, x.2.2.2.2.2.1, x.2.2.2.2.2.2.1, (x.2.2.2.2.2.2.2.1 + 1), x.2.2.2.2.2.2.2.2.1, x.2.2.2.2.2.2.2.2.2) ++ (gE t ea eb ex)) H := hP
  have hD : va_D A (gS t xa xb (x.1, x.2.1, x.2.2.1, x.2.2.2.1, x.2.2.2.2.1, x.2.2.2.2.2.1, x.2.2.2.2.2.2.1, (x.2.2.2.2.2.2.2.1 + 1), x.2.2.2.2.2.2.2.2.1, x.2.2.2.2.2.2.2.2.2) ++ (gE t ea eb ex)) := hD
  refine lv_aload_n hx hb dX1_tally_10 rfl (lv_at hl 0 rfl) ?_
  refine va_get (D := D) (ci := 1) (v := .ref (xb 6)) (C := RX1) (T := TX1) (N := 10) hx hb htB inlX1 hown hK hP 0 rfl rfl 6 (by decide) (htB _ kw34) (fun _ h9 => h9) rfl dX1_tally_11 ?_
  refine lv_iload_n hx hb dX1_tally_14 rfl (lv_at hl 1 rfl) ?_
  refine lv_aload_n hx hb dX1_tally_15 rfl (lv_at hl 0 rfl) ?_
  refine va_get (D := D) (ci := 1) (v := .ref (xb 6)) (C := RX1) (T := TX1) (N := 10) hx hb htB inlX1 hown hK hP 0 rfl rfl 6 (by decide) (htB _ kw34) (fun _ h9 => h9) rfl dX1_tally_16 ?_
  refine lv_iload_n hx hb dX1_tally_19 rfl (lv_at hl 1 rfl) ?_
  obtain ⟨r1, h1, h⟩ := ob h
  refine call_i (v := r1) (wc := (gA t (xb 6) 6 x.2.2.2.2.2.2.1)) (wc' := (gA t (xb 6) 6 x.2.2.2.2.2.2.1)) (ws' := (gS t xa xb (x.1, x.2.1, x.2.2.1, x.2.2.2.1, x.2.2.2.2.1, x.2.2.2.2.2.1, x.2.2.2.2.2.2.1, (x.2.2.2.2.2.2.2.1 + 1), x.2.2.2.2.2.2.2.2.1, x.2.2.2.2.2.2.2.2.2) ++ (gE t ea eb ex))) (cutI (wc := (gA t (xb 6) 6 x.2.2.2.2.2.2.1)) (wc' := (gA t (xb 6) 6 x.2.2.2.2.2.2.1)) (ws' := (gS t xa xb (x.1, x.2.1, x.2.2.1, x.2.2.2.1, x.2.2.2.2.1, x.2.2.2.2.2.1, x.2.2.2.2.2.2.1, (x.2.2.2.2.2.2.2.1 + 1), x.2.2.2.2.2.2.2.2.1, x.2.2.2.2.2.2.2.2.2) ++ (gE t ea eb ex))) [7] hP hD hS hA rfl rfl rfl rfl) hS (fun hPc hDc => va_runSN (As := [.ref (xb 6), .int v]) (rest := [.int v, .ref (xb 6)]) ⟨hx, hb, hml, hown, hts⟩ (mtX2_at l D t (xb 6) 6 x.2.2.2.2.2.2.1 v r1 h1 (by decide) _) ⟨va_cnB 2 hts (gB kw66) rfl rfl rfl hE.2.2.2.1 (htB _ kw2) (by decide +kernel) ⟨Nat.le_of_ble_eq_true rfl, Nat.le_of_ble_eq_true rfl⟩, (htB _ kw65), trivial⟩ (sPc_S hPc hK hDc hE) rfl rfl hl.1 rfl (lv_room (Nat.le_of_ble_eq_true rfl)) dX1_tally_20 ⟨Nat.zero_le _, Nat.zero_le _⟩) (fun H locs hP hD hS => ?_)
  refine lv_iconst (v := 1) hx hb dX1_tally_23 (by decide) ?_
  refine lv_iadd hx hb dX1_tally_24 ?_
  obtain ⟨r2, h2, h⟩ := ob h
  refine call_v (wc := (gA t (xb 6) 6 x.2.2.2.2.2.2.1)) (wc' := (gA t (xb 6) 6 r2)) (ws' := (gS t xa xb (x.1, x.2.1, x.2.2.1, x.2.2.2.1, x.2.2.2.2.1, x.2.2.2.2.2.1, r2, (x.2.2.2.2.2.2.2.1 + 1), x.2.2.2.2.2.2.2.2.1, x.2.2.2.2.2.2.2.2.2) ++ (gE t ea eb ex))) (cutI (wc := (gA t (xb 6) 6 x.2.2.2.2.2.2.1)) (wc' := (gA t (xb 6) 6 r2)) (ws' := (gS t xa xb (x.1, x.2.1, x.2.2.1, x.2.2.2.1, x.2.2.2.2.1, x.2.2.2.2.2.1, r2, (x.2.2.2.2.2.2.2.1 + 1), x.2.2.2.2.2.2.2.2.1, x.2.2.2.2.2.2.2.2.2) ++ (gE t ea eb ex))) [7] hP hD hS hA rfl rfl rfl rfl) hS (fun hPc hDc => va_runSN (As := [.ref (xb 6), .int v, .int (r1 + 1)]) (rest := []) ⟨hx, hb, hml, hown, hts⟩ (mtX2_put l D t (xb 6) 6 x.2.2.2.2.2.2.1 v (r1 + 1) r2 h2 (by decide) _) ⟨va_cnB 3 hts (gB kw151) rfl rfl rfl hE.2.2.2.2.2 (htB _ kw2) (by decide +kernel) ⟨Nat.le_of_ble_eq_true rfl, Nat.le_of_ble_eq_true rfl⟩, (htB _ kw150), trivial⟩ (sPc_S hPc hK hDc hE) rfl rfl hl.1 rfl (lv_room (Nat.le_of_ble_eq_true rfl)) dX1_tally_25 ⟨Nat.zero_le _, Nat.zero_le _⟩) (fun H locs hP hD hS => ?_)
  refine lv_aload_n hx hb dX1_tally_28 rfl (lv_at hl 0 rfl) ?_
  refine lv_aload_n hx hb dX1_tally_29 rfl (lv_at hl 2 rfl) ?_
  refine va_get (D := D) (ci := 0) (v := .int ex.2.2.2.1) (C := RX0) (T := TX0) (N := 10) hx hb htB inlX0 hown hK hP 8 rfl rfl 3 (by decide) (htB _ kw149) (fun _ h9 => h9) rfl dX1_tally_30 ?_
  refine va_put (D := D) (ci := 1) (v := .int ex.2.2.2.1) (ty := .int) (C := RX1) (T := TX1) (N := 10) hx hb htB inlX1 tyX1 tyX1_ok nmX1 hown hK hP hD hS 0 rfl rfl 8 (by decide) (htB _ kw36) (fun _ h9 => h9) rfl (by decide +kernel) rfl rfl (Nat.le_of_ble_eq_true rfl) dX1_tally_33 (fun H locs hP hD hS => ?_)
  have hP : va_P D vwCl (gS t xa xb (x.1, x.2.1, x.2.2.1, x.2.2.2.1, x.2.2.2.2.1, x.2.2.2.2.2.1, r2, (x.2.2.2.2.2.2.2.1 + 1), ex.2.2.2.1, x.2.2.2.2.2.2.2.2.2) ++ (gE t ea eb ex)) H := hP
  have hD : va_D A (gS t xa xb (x.1, x.2.1, x.2.2.1, x.2.2.2.1, x.2.2.2.2.1, x.2.2.2.2.2.1, r2, (x.2.2.2.2.2.2.2.1 + 1), ex.2.2.2.1, x.2.2.2.2.2.2.2.2.2) ++ (gE t ea eb ex)) := hD
  refine lv_aload_n hx hb dX1_tally_36 rfl (lv_at hl 0 rfl) ?_
  refine lv_aload_n hx hb dX1_tally_37 rfl (lv_at hl 0 rfl) ?_
  refine va_get (D := D) (ci := 1) (v := .int x.2.2.2.2.2.2.2.2.2) (C := RX1) (T := TX1) (N := 10) hx hb htB inlX1 hown hK hP 0 rfl rfl 9 (by decide) (htB _ kw37) (fun _ h9 => h9) rfl dX1_tally_38 ?_
  refine lv_aload_n hx hb dX1_tally_41 rfl (lv_at hl 2 rfl) ?_
  obtain ⟨r3, h3, h⟩ := ob h
  refine call_i (v := r3) (wc := (gE t ea eb ex)) (wc' := (gE t ea eb ex)) (ws' := (gS t xa xb (x.1, x.2.1, x.2.2.1, x.2.2.2.1, x.2.2.2.2.1, x.2.2.2.2.2.1, r2, (x.2.2.2.2.2.2.2.1 + 1), ex.2.2.2.1, x.2.2.2.2.2.2.2.2.2) ++ (gE t ea eb ex))) (cutB (bs := [gS t xa xb (x.1, x.2.1, x.2.2.1, x.2.2.2.1, x.2.2.2.2.1, x.2.2.2.2.2.1, r2, (x.2.2.2.2.2.2.2.1 + 1), ex.2.2.2.1, x.2.2.2.2.2.2.2.2.2), gE t ea eb ex]) (cs := [gE t ea eb ex]) (cs' := [gE t ea eb ex]) (bs' := [gS t xa xb (x.1, x.2.1, x.2.2.1, x.2.2.2.1, x.2.2.2.2.1, x.2.2.2.2.2.1, r2, (x.2.2.2.2.2.2.2.1 + 1), ex.2.2.2.1, x.2.2.2.2.2.2.2.2.2), gE t ea eb ex]) [1] hP hD hS hA rfl rfl rfl rfl) hS (fun hPc hDc => va_runV (As := []) (rest := [.int x.2.2.2.2.2.2.2.2.2, .ref xa]) ⟨hx, hb, hml, hown, hts⟩ (mtX0_spread l D t ea eb ex r3 h3 _) (cwV 0 hts (gBV kw152 kw153 kw154 kw16 kw155) rfl rfl rfl (by decide +kernel) ⟨Nat.le_of_ble_eq_true rfl, Nat.le_of_ble_eq_true rfl⟩) (sPc_V hPc hK hDc hE (va_recv hK hP (ci := 0) (q0 := 8) rfl rfl)) rfl rfl hl.1 rfl (lv_room (Nat.le_of_ble_eq_true rfl)) dX1_tally_42 ⟨Nat.zero_le _, Nat.zero_le _⟩) (fun H locs hP hD hS => ?_)
  refine va_mmax hx hb (by rw [hml]; exact hl.1.symm) hown (htB _ kw121) (htB _ kw111) (htB _ kw63) (htB _ kw112) (Nat.le_of_ble_eq_true rfl) (Nat.le_of_ble_eq_true rfl) (Nat.zero_le _) (Nat.zero_le _) dX1_tally_45 ?_
  refine va_put (D := D) (ci := 1) (v := .int (imax x.2.2.2.2.2.2.2.2.2 r3)) (ty := .int) (C := RX1) (T := TX1) (N := 10) hx hb htB inlX1 tyX1 tyX1_ok nmX1 hown hK hP hD hS 0 rfl rfl 9 (by decide) (htB _ kw37) (fun _ h9 => h9) rfl (by decide +kernel) rfl rfl (Nat.le_of_ble_eq_true rfl) dX1_tally_48 (fun H locs hP hD hS => ?_)
  have hP : va_P D vwCl (gS t xa xb (x.1, x.2.1, x.2.2.1, x.2.2.2.1, x.2.2.2.2.1, x.2.2.2.2.2.1, r2, (x.2.2.2.2.2.2.2.1 + 1), ex.2.2.2.1, (imax x.2.2.2.2.2.2.2.2.2 r3)) ++ (gE t ea eb ex)) H := hP
  have hD : va_D A (gS t xa xb (x.1, x.2.1, x.2.2.1, x.2.2.2.1, x.2.2.2.2.1, x.2.2.2.2.2.1, r2, (x.2.2.2.2.2.2.2.1 + 1), ex.2.2.2.1, (imax x.2.2.2.2.2.2.2.2.2 r3)) ++ (gE t ea eb ex)) := hD
  refine lv_aload_n hx hb dX1_tally_51 rfl (lv_at hl 0 rfl) ?_
  refine va_get (D := D) (ci := 1) (v := .ref (xb 5)) (C := RX1) (T := TX1) (N := 10) hx hb htB inlX1 hown hK hP 0 rfl rfl 5 (by decide) (htB _ kw33) (fun _ h9 => h9) rfl dX1_tally_52 ?_
  refine lv_iconst (v := 3) hx hb dX1_tally_55 (by decide) ?_
  obtain ⟨r4, h4, h⟩ := ob h
  refine call_i (v := r4) (wc := (gA t (xb 5) 4 x.2.2.2.2.2.1)) (wc' := (gA t (xb 5) 4 x.2.2.2.2.2.1)) (ws' := (gS t xa xb (x.1, x.2.1, x.2.2.1, x.2.2.2.1, x.2.2.2.2.1, x.2.2.2.2.2.1, r2, (x.2.2.2.2.2.2.2.1 + 1), ex.2.2.2.1, (imax x.2.2.2.2.2.2.2.2.2 r3)) ++ (gE t ea eb ex))) (cutI (wc := (gA t (xb 5) 4 x.2.2.2.2.2.1)) (wc' := (gA t (xb 5) 4 x.2.2.2.2.2.1)) (ws' := (gS t xa xb (x.1, x.2.1, x.2.2.1, x.2.2.2.1, x.2.2.2.2.1, x.2.2.2.2.2.1, r2, (x.2.2.2.2.2.2.2.1 + 1), ex.2.2.2.1, (imax x.2.2.2.2.2.2.2.2.2 r3)) ++ (gE t ea eb ex))) [6] hP hD hS hA rfl rfl rfl rfl) hS (fun hPc hDc => va_runSN (As := [.ref (xb 5), .int 3]) (rest := []) ⟨hx, hb, hml, hown, hts⟩ (mtX2_at l D t (xb 5) 4 x.2.2.2.2.2.1 3 r4 h4 (by decide) _) ⟨va_cnB 2 hts (gB kw66) rfl rfl rfl hE.2.2.2.1 (htB _ kw2) (by decide +kernel) ⟨Nat.le_of_ble_eq_true rfl, Nat.le_of_ble_eq_true rfl⟩, (htB _ kw65), trivial⟩ (sPc_S hPc hK hDc hE) rfl rfl hl.1 rfl (lv_room (Nat.le_of_ble_eq_true rfl)) dX1_tally_56 ⟨Nat.zero_le _, Nat.zero_le _⟩) (fun H locs hP hD hS => ?_)
  refine lv_istore_n (lv' := [(3, .int r4), (0, .ref xa), (1, .int v), (2, .ref ea)]) hx hb dX1_tally_59 rfl hl (by decide) rfl (fun ls hl => ?_)
  refine lv_iload_n hx hb dX1_tally_60 rfl (lv_at hl 0 rfl) ?_
  refine lv_if_le (tgt := 77) hx hb dX1_tally_61 (by decide) (fun c5 => ?_) (fun c5 => ?_)
  · have h := it_p c5 h
    refine lv_iconst (v := 0) hx hb dX1_tally_77 (by decide) ?_
    refine lv_istore (lv' := [(4, .int 0), (3, .int r4), (0, .ref xa), (1, .int v), (2, .ref ea)]) hx hb dX1_tally_78 hl (by decide) rfl (fun ls hl => ?_)
    refine lv_iconst (v := 0) hx hb dX1_tally_80 (by decide) ?_
    refine lv_istore (lv' := [(5, .int 0), (4, .int 0), (3, .int r4), (0, .ref xa), (1, .int v), (2, .ref ea)]) hx hb dX1_tally_81 hl (by decide) rfl (fun ls hl => ?_)
    exact J83 2000 ((x.1, x.2.1, x.2.2.1, x.2.2.2.1, x.2.2.2.2.1, x.2.2.2.2.2.1, r2, (x.2.2.2.2.2.2.2.1 + 1), ex.2.2.2.1, (imax x.2.2.2.2.2.2.2.2.2 r3)), 0, 0) h _ _ hP hD hS _ (lv_sub hl [3, 1, 0] rfl)
  · have h := it_n c5 h
    refine lv_aload_n hx hb dX1_tally_64 rfl (lv_at hl 1 rfl) ?_
    refine va_get (D := D) (ci := 1) (v := .int (x.2.2.2.2.2.2.2.1 + 1)) (C := RX1) (T := TX1) (N := 10) hx hb htB inlX1 hown hK hP 0 rfl rfl 7 (by decide) (htB _ kw35) (fun _ h9 => h9) rfl dX1_tally_65 ?_
    refine lv_iload_n hx hb dX1_tally_68 rfl (lv_at hl 0 rfl) ?_
    obtain ⟨g6, h⟩ := og h
    refine lv_irem hx hb dX1_tally_69 (nz_ne g6) ?_
    refine lv_if_ne (tgt := 77) hx hb dX1_tally_70 (by decide) (fun c7 => ?_) (fun c7 => ?_)
    · have h := it_n c7 h
      refine lv_iconst (v := 0) hx hb dX1_tally_77 (by decide) ?_
      refine lv_istore (lv' := [(4, .int 0), (3, .int r4), (0, .ref xa), (1, .int v), (2, .ref ea)]) hx hb dX1_tally_78 hl (by decide) rfl (fun ls hl => ?_)
      refine lv_iconst (v := 0) hx hb dX1_tally_80 (by decide) ?_
      refine lv_istore (lv' := [(5, .int 0), (4, .int 0), (3, .int r4), (0, .ref xa), (1, .int v), (2, .ref ea)]) hx hb dX1_tally_81 hl (by decide) rfl (fun ls hl => ?_)
      exact J83 2000 ((x.1, x.2.1, x.2.2.1, x.2.2.2.1, x.2.2.2.2.1, x.2.2.2.2.2.1, r2, (x.2.2.2.2.2.2.2.1 + 1), ex.2.2.2.1, (imax x.2.2.2.2.2.2.2.2.2 r3)), 0, 0) h _ _ hP hD hS _ (lv_sub hl [3, 1, 0] rfl)
    · have h := it_p c7 h
      refine lv_iconst (v := 1) hx hb dX1_tally_73 (by decide) ?_
      refine lv_goto (tgt := 78) hx hb dX1_tally_74 (by decide) ?_
      refine lv_istore (lv' := [(4, .int 1), (3, .int r4), (0, .ref xa), (1, .int v), (2, .ref ea)]) hx hb dX1_tally_78 hl (by decide) rfl (fun ls hl => ?_)
      refine lv_iconst (v := 0) hx hb dX1_tally_80 (by decide) ?_
      refine lv_istore (lv' := [(5, .int 0), (4, .int 1), (3, .int r4), (0, .ref xa), (1, .int v), (2, .ref ea)]) hx hb dX1_tally_81 hl (by decide) rfl (fun ls hl => ?_)
      exact J83 2000 ((x.1, x.2.1, x.2.2.1, x.2.2.2.1, x.2.2.2.2.1, x.2.2.2.2.2.1, r2, (x.2.2.2.2.2.2.2.1 + 1), ex.2.2.2.1, (imax x.2.2.2.2.2.2.2.2.2 r3)), 1, 0) h _ _ hP hD hS _ (lv_sub hl [3, 1, 0] rfl)
