theorem dX3_ofCurtain_0 : decode cX3_ofCurtain 0 = .ok (.iload_n 2, 1) := by decide +kernel
theorem dX3_ofCurtain_1 : decode cX3_ofCurtain 1 = .ok (.iconst 2, 1) := by decide +kernel
theorem dX3_ofCurtain_2 : decode cX3_ofCurtain 2 = .ok (.if_icmp .ge 21, 3) := by decide +kernel
theorem dX3_ofCurtain_5 : decode cX3_ofCurtain 5 = .ok (.aload_n 0, 1) := by decide +kernel
theorem dX3_ofCurtain_6 : decode cX3_ofCurtain 6 = .ok (.getfield 7, 3) := by decide +kernel
theorem dX3_ofCurtain_9 : decode cX3_ofCurtain 9 = .ok (.iload_n 2, 1) := by decide +kernel
theorem dX3_ofCurtain_10 : decode cX3_ofCurtain 10 = .ok (.ifCond .ne 7, 3) := by decide +kernel
theorem dX3_ofCurtain_13 : decode cX3_ofCurtain 13 = .ok (.iconst 4, 1) := by decide +kernel
theorem dX3_ofCurtain_14 : decode cX3_ofCurtain 14 = .ok (.goto 5, 3) := by decide +kernel
theorem dX3_ofCurtain_17 : decode cX3_ofCurtain 17 = .ok (.bipush 6, 2) := by decide +kernel
theorem dX3_ofCurtain_19 : decode cX3_ofCurtain 19 = .ok (.iload_n 1, 1) := by decide +kernel
theorem dX3_ofCurtain_20 : decode cX3_ofCurtain 20 = .ok (.iadd, 1) := by decide +kernel
theorem dX3_ofCurtain_21 : decode cX3_ofCurtain 21 = .ok (.iaload, 1) := by decide +kernel
theorem dX3_ofCurtain_22 : decode cX3_ofCurtain 22 = .ok (.ireturn, 1) := by decide +kernel
theorem dX3_ofCurtain_23 : decode cX3_ofCurtain 23 = .ok (.iconst 0, 1) := by decide +kernel
theorem dX3_ofCurtain_24 : decode cX3_ofCurtain 24 = .ok (.istore_n 3, 1) := by decide +kernel
theorem dX3_ofCurtain_25 : decode cX3_ofCurtain 25 = .ok (.iconst 0, 1) := by decide +kernel
theorem dX3_ofCurtain_26 : decode cX3_ofCurtain 26 = .ok (.istore 4, 2) := by decide +kernel
theorem dX3_ofCurtain_28 : decode cX3_ofCurtain 28 = .ok (.iconst 0, 1) := by decide +kernel
theorem dX3_ofCurtain_29 : decode cX3_ofCurtain 29 = .ok (.istore 5, 2) := by decide +kernel
theorem dX3_ofCurtain_31 : decode cX3_ofCurtain 31 = .ok (.iload 5, 2) := by decide +kernel
theorem dX3_ofCurtain_33 : decode cX3_ofCurtain 33 = .ok (.bipush 24, 2) := by decide +kernel
theorem dX3_ofCurtain_35 : decode cX3_ofCurtain 35 = .ok (.if_icmp .ge 54, 3) := by decide +kernel
theorem dX3_ofCurtain_38 : decode cX3_ofCurtain 38 = .ok (.iload_n 3, 1) := by decide +kernel
theorem dX3_ofCurtain_39 : decode cX3_ofCurtain 39 = .ok (.aload_n 0, 1) := by decide +kernel
theorem dX3_ofCurtain_40 : decode cX3_ofCurtain 40 = .ok (.getfield 7, 3) := by decide +kernel
theorem dX3_ofCurtain_43 : decode cX3_ofCurtain 43 = .ok (.iload_n 1, 1) := by decide +kernel
theorem dX3_ofCurtain_44 : decode cX3_ofCurtain 44 = .ok (.iload 5, 2) := by decide +kernel
theorem dX3_ofCurtain_46 : decode cX3_ofCurtain 46 = .ok (.invokestatic 60, 3) := by decide +kernel
theorem dX3_ofCurtain_49 : decode cX3_ofCurtain 49 = .ok (.iadd, 1) := by decide +kernel
theorem dX3_ofCurtain_50 : decode cX3_ofCurtain 50 = .ok (.istore_n 3, 1) := by decide +kernel
theorem dX3_ofCurtain_51 : decode cX3_ofCurtain 51 = .ok (.aload_n 0, 1) := by decide +kernel
theorem dX3_ofCurtain_52 : decode cX3_ofCurtain 52 = .ok (.getfield 7, 3) := by decide +kernel
theorem dX3_ofCurtain_55 : decode cX3_ofCurtain 55 = .ok (.iload_n 1, 1) := by decide +kernel
theorem dX3_ofCurtain_56 : decode cX3_ofCurtain 56 = .ok (.iload 5, 2) := by decide +kernel
theorem dX3_ofCurtain_58 : decode cX3_ofCurtain 58 = .ok (.invokestatic 60, 3) := by decide +kernel
theorem dX3_ofCurtain_61 : decode cX3_ofCurtain 61 = .ok (.aload_n 0, 1) := by decide +kernel
theorem dX3_ofCurtain_62 : decode cX3_ofCurtain 62 = .ok (.getfield 7, 3) := by decide +kernel
theorem dX3_ofCurtain_65 : decode cX3_ofCurtain 65 = .ok (.iload_n 1, 1) := by decide +kernel
theorem dX3_ofCurtain_66 : decode cX3_ofCurtain 66 = .ok (.iload 4, 2) := by decide +kernel
theorem dX3_ofCurtain_68 : decode cX3_ofCurtain 68 = .ok (.invokestatic 60, 3) := by decide +kernel
theorem dX3_ofCurtain_71 : decode cX3_ofCurtain 71 = .ok (.if_icmp .le 8, 3) := by decide +kernel
theorem dX3_ofCurtain_74 : decode cX3_ofCurtain 74 = .ok (.iload 5, 2) := by decide +kernel
theorem dX3_ofCurtain_76 : decode cX3_ofCurtain 76 = .ok (.goto 5, 3) := by decide +kernel
theorem dX3_ofCurtain_79 : decode cX3_ofCurtain 79 = .ok (.iload 4, 2) := by decide +kernel
theorem dX3_ofCurtain_81 : decode cX3_ofCurtain 81 = .ok (.istore 4, 2) := by decide +kernel
theorem dX3_ofCurtain_83 : decode cX3_ofCurtain 83 = .ok (.iinc 5 1, 3) := by decide +kernel
theorem dX3_ofCurtain_86 : decode cX3_ofCurtain 86 = .ok (.goto (-55), 3) := by decide +kernel
theorem dX3_ofCurtain_89 : decode cX3_ofCurtain 89 = .ok (.iload_n 2, 1) := by decide +kernel
theorem dX3_ofCurtain_90 : decode cX3_ofCurtain 90 = .ok (.iconst 2, 1) := by decide +kernel
theorem dX3_ofCurtain_91 : decode cX3_ofCurtain 91 = .ok (.if_icmp .ne 7, 3) := by decide +kernel
theorem dX3_ofCurtain_94 : decode cX3_ofCurtain 94 = .ok (.iload_n 3, 1) := by decide +kernel
theorem dX3_ofCurtain_95 : decode cX3_ofCurtain 95 = .ok (.goto 5, 3) := by decide +kernel
theorem dX3_ofCurtain_98 : decode cX3_ofCurtain 98 = .ok (.iload 4, 2) := by decide +kernel
theorem dX3_ofCurtain_100 : decode cX3_ofCurtain 100 = .ok (.ireturn, 1) := by decide +kernel
abbrev zX3_ofCurtain : List Cond := .code yX3_ofCurtain cX3_ofCurtain 6 (some .int) :: BIG
def fX3_ofCurtain_l31 (mo : MoT) (fn : (Nat → Int32))  (K31 : (Int32 × Int32 × Int32 × Int32 × Int32) → Option (Int32)) (v31 : Int32 × Int32 × Int32 × Int32 × Int32) : Option (Int32) := (if 24 ≤ v31.2.2.2.2 then (if v31.2.1 = 2 then some v31.2.2.1 else some v31.2.2.2.1) else (fX3_takes fn v31.1 v31.2.2.2.2).bind (fun r7 => (fX3_takes fn v31.1 v31.2.2.2.2).bind (fun r8 => (fX3_takes fn v31.1 v31.2.2.2.1).bind (fun r9 => (if r8 ≤ r9 then K31 (v31.1, v31.2.1, v31.2.2.1 + r7, v31.2.2.2.1, v31.2.2.2.2 + 1) else K31 (v31.1, v31.2.1, v31.2.2.1 + r7, v31.2.2.2.2, v31.2.2.2.2 + 1))))))
def fX3_ofCurtain (mo : MoT) (fn : (Nat → Int32)) (cu : Int32) (w : Int32) : Option (Int32) := (if 2 ≤ w then lp (fX3_ofCurtain_l31 mo fn) 2000 (cu, w, 0, 0, 0) else (if w = 0 then gd (pin (4 + cu) 71) (some (fn (Int32.toNatClampNeg (4 + cu)))) else gd (pin (6 + cu) 71) (some (fn (Int32.toNatClampNeg (6 + cu))))))
set_option maxHeartbeats 4000000 in
set_option maxRecDepth 100000 in
theorem mtX3_ofCurtain (l : Launch) (D : va_G) (t : Nat → ClassId) (mh : Nat) (mb : Nat → Nat) (mo : MoT) (fn : (Nat → Int32)) (cu : Int32) (w : Int32) (out : Int32) (h : fX3_ofCurtain mo fn cu w = some out)  (sz : Nat) : Met l yX3_ofCurtain zX3_ofCurtain ({ frames := 1, cells := 0, slots := 0, locals := 22 }) (sPc D t (gMo mh mb mo ++ (gA t (mb 0) 71 fn)) sz [.ref mh, .int cu, .int w]) (qI D t (gMo mh mb mo ++ (gA t (mb 0) 71 fn)) out (va_A (gMo mh mb mo ++ (gA t (mb 0) 71 fn)) sz)) 0 0 (va_A (gMo mh mb mo ++ (gA t (mb 0) 71 fn)) sz) := by
  refine met_of (Qf := fun A => qI D t (gMo mh mb mo ++ (gA t (mb 0) 71 fn)) out A) (cc := cX3_ofCurtain) (maxL := 6) (ret := some .int) (by decide) rfl (Nat.le_of_ble_eq_true rfl) ?_
  intro p e s m args below meth c A hx hb hr hml hts hown hlocks hA hP hK hD hE hS ls hl
  have htB : ∀ w ∈ BIG, w.before args s = true := fun w h => hts w (List.mem_cons_of_mem _ h)
  have hown : s.vm.findClass RX3 = some m.cls := hown
  have hl : lv_has ls 6 [(0, .ref mh), (1, .int cu), (2, .int w)] := hl
  unfold fX3_ofCurtain at h
  have J31 : ∀ (fu31 : Nat) (v31 : Int32 × Int32 × Int32 × Int32 × Int32), lp (fX3_ofCurtain_l31 mo fn) fu31 v31 = some out → ∀ (H : Heap) (locs : List Loc), va_P D vwCl (gMo mh mb mo ++ (gA t (mb 0) 71 fn)) H → va_D A (gMo mh mb mo ++ (gA t (mb 0) 71 fn)) → va_S A s.heap H locs → ∀ ls : Array Slot, lv_has ls 6 [(0, .ref mh), (1, .int v31.1), (2, .int v31.2.1), (3, .int v31.2.2.1), (4, .int v31.2.2.2.1), (5, .int v31.2.2.2.2)] → W p l e ({ frames := 1, cells := 0, slots := 0, locals := 22 }) s m args below meth c H locs 0 0 (MQ below (qI D t (gMo mh mb mo ++ (gA t (mb 0) 71 fn)) out A) args s 0 0 A) (F0 m 31 ls []) := by
    intro fu31
    induction fu31 with
    | zero => intro v31 h; cases h
    | succ fu31 ih31 =>
      intro v31 h H locs hP hD hS ls hl
      have h : fX3_ofCurtain_l31 mo fn (lp (fX3_ofCurtain_l31 mo fn) fu31) v31 = some out := h
      unfold fX3_ofCurtain_l31 at h
      refine lv_iload hx hb dX3_ofCurtain_31 (lv_at hl 5 rfl) ?_
      refine lv_bipush (v := 24) hx hb dX3_ofCurtain_33 (by decide) ?_
      refine lv_icmp_ge (tgt := 89) hx hb dX3_ofCurtain_35 (by decide) (fun c5 => ?_) (fun c5 => ?_)
      · have h := it_p c5 h
        refine lv_iload_n hx hb dX3_ofCurtain_89 rfl (lv_at hl 2 rfl) ?_
        refine lv_iconst (v := 2) hx hb dX3_ofCurtain_90 (by decide) ?_
        refine lv_icmp_ne (tgt := 98) hx hb dX3_ofCurtain_91 (by decide) (fun c6 => ?_) (fun c6 => ?_)
        · have h := it_n c6 h
          refine lv_iload hx hb dX3_ofCurtain_98 (lv_at hl 4 rfl) ?_
          obtain rfl := os h
          exact ret_i hx hb hr hlocks hP hK hD hS dX3_ofCurtain_100
        · have h := it_p c6 h
          refine lv_iload_n hx hb dX3_ofCurtain_94 rfl (lv_at hl 3 rfl) ?_
          refine lv_goto (tgt := 100) hx hb dX3_ofCurtain_95 (by decide) ?_
          obtain rfl := os h
          exact ret_i hx hb hr hlocks hP hK hD hS dX3_ofCurtain_100
      · have h := it_n c5 h
        refine lv_iload_n hx hb dX3_ofCurtain_38 rfl (lv_at hl 3 rfl) ?_
        refine lv_aload_n hx hb dX3_ofCurtain_39 rfl (lv_at hl 0 rfl) ?_
        refine va_get (D := D) (ci := 3) (v := .ref (mb 0)) (C := RX3) (T := TX3) (N := 14) hx hb htB inlX3 hown hK hP 0 rfl rfl 0 (by decide) (htB _ kw54) (fun _ h9 => h9) rfl dX3_ofCurtain_40 ?_
        refine lv_iload_n hx hb dX3_ofCurtain_43 rfl (lv_at hl 1 rfl) ?_
        refine lv_iload hx hb dX3_ofCurtain_44 (lv_at hl 5 rfl) ?_
        obtain ⟨r7, h7, h⟩ := ob h
        refine call_i (v := r7) (wc := (gA t (mb 0) 71 fn)) (wc' := (gA t (mb 0) 71 fn)) (ws' := (gMo mh mb mo ++ (gA t (mb 0) 71 fn))) (cutB (bs := [gMo mh mb mo, gA t (mb 0) 71 fn]) (cs := [gA t (mb 0) 71 fn]) (cs' := [gA t (mb 0) 71 fn]) (bs' := [gMo mh mb mo, gA t (mb 0) 71 fn]) [1] hP hD hS hA rfl rfl rfl rfl) hS (fun hPc hDc => va_runS (As := [.ref (mb 0), .int v31.1, .int v31.2.2.2.2]) (rest := [.int v31.2.2.1]) ⟨hx, hb, hml, hown, hts⟩ (mtX3_takes l D t (mb 0) fn v31.1 v31.2.2.2.2 r7 h7 _) (va_cwS 3 hts (gBS kw305 kw306 kw5 kw307) rfl rfl rfl (by decide +kernel) ⟨Nat.le_of_ble_eq_true rfl, Nat.le_of_ble_eq_true rfl⟩) (sPc_S hPc hK hDc hE) rfl rfl hl.1 rfl (lv_room (Nat.le_of_ble_eq_true rfl)) dX3_ofCurtain_46 ⟨Nat.zero_le _, Nat.zero_le _⟩) (fun H locs hP hD hS => ?_)
        refine lv_iadd hx hb dX3_ofCurtain_49 ?_
        refine lv_istore_n (lv' := [(3, .int (v31.2.2.1 + r7)), (0, .ref mh), (1, .int v31.1), (2, .int v31.2.1), (4, .int v31.2.2.2.1), (5, .int v31.2.2.2.2)]) hx hb dX3_ofCurtain_50 rfl hl (by decide) rfl (fun ls hl => ?_)
        refine lv_aload_n hx hb dX3_ofCurtain_51 rfl (lv_at hl 1 rfl) ?_
        refine va_get (D := D) (ci := 3) (v := .ref (mb 0)) (C := RX3) (T := TX3) (N := 14) hx hb htB inlX3 hown hK hP 0 rfl rfl 0 (by decide) (htB _ kw54) (fun _ h9 => h9) rfl dX3_ofCurtain_52 ?_
        refine lv_iload_n hx hb dX3_ofCurtain_55 rfl (lv_at hl 2 rfl) ?_
        refine lv_iload hx hb dX3_ofCurtain_56 (lv_at hl 5 rfl) ?_
        obtain ⟨r8, h8, h⟩ := ob h
        refine call_i (v := r8) (wc := (gA t (mb 0) 71 fn)) (wc' := (gA t (mb 0) 71 fn)) (ws' := (gMo mh mb mo ++ (gA t (mb 0) 71 fn))) (cutB (bs := [gMo mh mb mo, gA t (mb 0) 71 fn]) (cs := [gA t (mb 0) 71 fn]) (cs' := [gA t (mb 0) 71 fn]) (bs' := [gMo mh mb mo, gA t (mb 0) 71 fn]) [1] hP hD hS hA rfl rfl rfl rfl) hS (fun hPc hDc => va_runS (As := [.ref (mb 0), .int v31.1, .int v31.2.2.2.2]) (rest := []) ⟨hx, hb, hml, hown, hts⟩ (mtX3_takes l D t (mb 0) fn v31.1 v31.2.2.2.2 r8 h8 _) (va_cwS 3 hts (gBS kw305 kw306 kw5 kw307) rfl rfl rfl (by decide +kernel) ⟨Nat.le_of_ble_eq_true rfl, Nat.le_of_ble_eq_true rfl⟩) (sPc_S hPc hK hDc hE) rfl rfl hl.1 rfl (lv_room (Nat.le_of_ble_eq_true rfl)) dX3_ofCurtain_58 ⟨Nat.zero_le _, Nat.zero_le _⟩) (fun H locs hP hD hS => ?_)
        refine lv_aload_n hx hb dX3_ofCurtain_61 rfl (lv_at hl 1 rfl) ?_
        refine va_get (D := D) (ci := 3) (v := .ref (mb 0)) (C := RX3) (T := TX3) (N := 14) hx hb htB inlX3 hown hK hP 0 rfl rfl 0 (by decide) (htB _ kw54) (fun _ h9 => h9) rfl dX3_ofCurtain_62 ?_
        refine lv_iload_n hx hb dX3_ofCurtain_65 rfl (lv_at hl 2 rfl) ?_
        refine lv_iload hx hb dX3_ofCurtain_66 (lv_at hl 4 rfl) ?_
        obtain ⟨r9, h9, h⟩ := ob h
        refine call_i (v := r9) (wc := (gA t (mb 0) 71 fn)) (wc' := (gA t (mb 0) 71 fn)) (ws' := (gMo mh mb mo ++ (gA t (mb 0) 71 fn))) (cutB (bs := [gMo mh mb mo, gA t (mb 0) 71 fn]) (cs := [gA t (mb 0) 71 fn]) (cs' := [gA t (mb 0) 71 fn]) (bs' := [gMo mh mb mo, gA t (mb 0) 71 fn]) [1] hP hD hS hA rfl rfl rfl rfl) hS (fun hPc hDc => va_runS (As := [.ref (mb 0), .int v31.1, .int v31.2.2.2.1]) (rest := [.int r8]) ⟨hx, hb, hml, hown, hts⟩ (mtX3_takes l D t (mb 0) fn v31.1 v31.2.2.2.1 r9 h9 _) (va_cwS 3 hts (gBS kw305 kw306 kw5 kw307) rfl rfl rfl (by decide +kernel) ⟨Nat.le_of_ble_eq_true rfl, Nat.le_of_ble_eq_true rfl⟩) (sPc_S hPc hK hDc hE) rfl rfl hl.1 rfl (lv_room (Nat.le_of_ble_eq_true rfl)) dX3_ofCurtain_68 ⟨Nat.zero_le _, Nat.zero_le _⟩) (fun H locs hP hD hS => ?_)
        refine lv_icmp_le (tgt := 79) hx hb dX3_ofCurtain_71 (by decide) (fun c10 => ?_) (fun c10 => ?_)
        · have h := it_p c10 h
          refine lv_iload hx hb dX3_ofCurtain_79 (lv_at hl 4 rfl) ?_
          refine lv_istore (lv' := [(4, .int v31.2.2.2.1), (3, .int (v31.2.2.1 + r7)), (0, .ref mh), (1, .int v31.1), (2, .int v31.2.1), (5, .int v31.2.2.2.2)]) hx hb dX3_ofCurtain_81 hl (by decide) rfl (fun ls hl => ?_)
          refine lv_iinc (v := v31.2.2.2.2 + 1) (lv' := [(5, .int (v31.2.2.2.2 + 1)), (4, .int v31.2.2.2.1), (3, .int (v31.2.2.1 + r7)), (0, .ref mh), (1, .int v31.1), (2, .int v31.2.1)]) hx hb dX3_ofCurtain_83 hl (k := 5) rfl rfl (by decide) rfl (fun ls hl => ?_)
          refine lv_goto (tgt := 31) hx hb dX3_ofCurtain_86 (by decide) ?_
          exact ih31 (v31.1, v31.2.1, v31.2.2.1 + r7, v31.2.2.2.1, v31.2.2.2.2 + 1) h _ _ hP hD hS _ (lv_sub hl [3, 4, 5, 2, 1, 0] rfl)
        · have h := it_n c10 h
          refine lv_iload hx hb dX3_ofCurtain_74 (lv_at hl 5 rfl) ?_
          refine lv_goto (tgt := 81) hx hb dX3_ofCurtain_76 (by decide) ?_
          refine lv_istore (lv' := [(4, .int v31.2.2.2.2), (3, .int (v31.2.2.1 + r7)), (0, .ref mh), (1, .int v31.1), (2, .int v31.2.1), (5, .int v31.2.2.2.2)]) hx hb dX3_ofCurtain_81 hl (by decide) rfl (fun ls hl => ?_)
          refine lv_iinc (v := v31.2.2.2.2 + 1) (lv' := [(5, .int (v31.2.2.2.2 + 1)), (4, .int v31.2.2.2.2), (3, .int (v31.2.2.1 + r7)), (0, .ref mh), (1, .int v31.1), (2, .int v31.2.1)]) hx hb dX3_ofCurtain_83 hl (k := 5) rfl rfl (by decide) rfl (fun ls hl => ?_)
          refine lv_goto (tgt := 31) hx hb dX3_ofCurtain_86 (by decide) ?_
          exact ih31 (v31.1, v31.2.1, v31.2.2.1 + r7, v31.2.2.2.2, v31.2.2.2.2 + 1) h _ _ hP hD hS _ (lv_sub hl [3, 4, 5, 2, 1, 0] rfl)
  refine lv_iload_n hx hb dX3_ofCurtain_0 rfl (lv_at hl 2 rfl) ?_
  refine lv_iconst (v := 2) hx hb dX3_ofCurtain_1 (by decide) ?_
  refine lv_icmp_ge (tgt := 23) hx hb dX3_ofCurtain_2 (by decide) (fun c1 => ?_) (fun c1 => ?_)
  · have h := it_p c1 h
    refine lv_iconst (v := 0) hx hb dX3_ofCurtain_23 (by decide) ?_
    refine lv_istore_n (lv' := [(3, .int 0), (0, .ref mh), (1, .int cu), (2, .int w)]) hx hb dX3_ofCurtain_24 rfl hl (by decide) rfl (fun ls hl => ?_)
    refine lv_iconst (v := 0) hx hb dX3_ofCurtain_25 (by decide) ?_
    refine lv_istore (lv' := [(4, .int 0), (3, .int 0), (0, .ref mh), (1, .int cu), (2, .int w)]) hx hb dX3_ofCurtain_26 hl (by decide) rfl (fun ls hl => ?_)
    refine lv_iconst (v := 0) hx hb dX3_ofCurtain_28 (by decide) ?_
    refine lv_istore (lv' := [(5, .int 0), (4, .int 0), (3, .int 0), (0, .ref mh), (1, .int cu), (2, .int w)]) hx hb dX3_ofCurtain_29 hl (by decide) rfl (fun ls hl => ?_)
    exact J31 2000 (cu, w, 0, 0, 0) h _ _ hP hD hS _ (lv_sub hl [3, 4, 5, 2, 1, 0] rfl)
  · have h := it_n c1 h
    refine lv_aload_n hx hb dX3_ofCurtain_5 rfl (lv_at hl 0 rfl) ?_
    refine va_get (D := D) (ci := 3) (v := .ref (mb 0)) (C := RX3) (T := TX3) (N := 14) hx hb htB inlX3 hown hK hP 0 rfl rfl 0 (by decide) (htB _ kw54) (fun _ h9 => h9) rfl dX3_ofCurtain_6 ?_
    refine lv_iload_n hx hb dX3_ofCurtain_9 rfl (lv_at hl 2 rfl) ?_
    refine lv_if_ne (tgt := 17) hx hb dX3_ofCurtain_10 (by decide) (fun c2 => ?_) (fun c2 => ?_)
    · have h := it_n c2 h
      refine lv_bipush (v := 6) hx hb dX3_ofCurtain_17 (by decide) ?_
      refine lv_iload_n hx hb dX3_ofCurtain_19 rfl (lv_at hl 1 rfl) ?_
      refine lv_iadd hx hb dX3_ofCurtain_20 ?_
      obtain ⟨g3, h⟩ := og h
      refine va_iald hx hb hK hP 1 0 rfl rfl (pin_in g3) dX3_ofCurtain_21 ?_
      obtain rfl := os h
      exact ret_i hx hb hr hlocks hP hK hD hS dX3_ofCurtain_22
    · have h := it_p c2 h
      refine lv_iconst (v := 4) hx hb dX3_ofCurtain_13 (by decide) ?_
      refine lv_goto (tgt := 19) hx hb dX3_ofCurtain_14 (by decide) ?_
      refine lv_iload_n hx hb dX3_ofCurtain_19 rfl (lv_at hl 1 rfl) ?_
      refine lv_iadd hx hb dX3_ofCurtain_20 ?_
      obtain ⟨g4, h⟩ := og h
      refine va_iald hx hb hK hP 1 0 rfl rfl (pin_in g4) dX3_ofCurtain_21 ?_
      obtain rfl := os h
      exact ret_i hx hb hr hlocks hP hK hD hS dX3_ofCurtain_22

theorem dX3_curtain_0 : decode cX3_curtain 0 = .ok (.aload_n 0, 1) := by decide +kernel
theorem dX3_curtain_1 : decode cX3_curtain 1 = .ok (.iconst 0, 1) := by decide +kernel
theorem dX3_curtain_2 : decode cX3_curtain 2 = .ok (.putfield 34, 3) := by decide +kernel
theorem dX3_curtain_5 : decode cX3_curtain 5 = .ok (.iload_n 1, 1) := by decide +kernel
theorem dX3_curtain_6 : decode cX3_curtain 6 = .ok (.invokestatic 79, 3) := by decide +kernel
theorem dX3_curtain_9 : decode cX3_curtain 9 = .ok (.ifCond .ne 9, 3) := by decide +kernel
theorem dX3_curtain_12 : decode cX3_curtain 12 = .ok (.aload_n 0, 1) := by decide +kernel
theorem dX3_curtain_13 : decode cX3_curtain 13 = .ok (.iconst 1, 1) := by decide +kernel
theorem dX3_curtain_14 : decode cX3_curtain 14 = .ok (.invokevirtual 49, 3) := by decide +kernel
theorem dX3_curtain_17 : decode cX3_curtain 17 = .ok (.ireturn, 1) := by decide +kernel
theorem dX3_curtain_18 : decode cX3_curtain 18 = .ok (.iload_n 2, 1) := by decide +kernel
theorem dX3_curtain_19 : decode cX3_curtain 19 = .ok (.iconst 0, 1) := by decide +kernel
theorem dX3_curtain_20 : decode cX3_curtain 20 = .ok (.iconst 3, 1) := by decide +kernel
theorem dX3_curtain_21 : decode cX3_curtain 21 = .ok (.invokestatic 38, 3) := by decide +kernel
theorem dX3_curtain_24 : decode cX3_curtain 24 = .ok (.ifCond .eq 12, 3) := by decide +kernel
theorem dX3_curtain_27 : decode cX3_curtain 27 = .ok (.aload_n 0, 1) := by decide +kernel
theorem dX3_curtain_28 : decode cX3_curtain 28 = .ok (.iload_n 1, 1) := by decide +kernel
theorem dX3_curtain_29 : decode cX3_curtain 29 = .ok (.iload_n 2, 1) := by decide +kernel
theorem dX3_curtain_30 : decode cX3_curtain 30 = .ok (.invokevirtual 138, 3) := by decide +kernel
theorem dX3_curtain_33 : decode cX3_curtain 33 = .ok (.goto 8, 3) := by decide +kernel
theorem dX3_curtain_36 : decode cX3_curtain 36 = .ok (.aload_n 0, 1) := by decide +kernel
theorem dX3_curtain_37 : decode cX3_curtain 37 = .ok (.iconst 2, 1) := by decide +kernel
theorem dX3_curtain_38 : decode cX3_curtain 38 = .ok (.invokevirtual 49, 3) := by decide +kernel
theorem dX3_curtain_41 : decode cX3_curtain 41 = .ok (.ireturn, 1) := by decide +kernel
abbrev zX3_curtain : List Cond := .code yX3_curtain cX3_curtain 3 (some .int) :: BIG
def fX3_curtain (mo : MoT) (fn : (Nat → Int32)) (cu : Int32) (w : Int32) : Option (Int32 × MoT) := (fX3_isCurtain cu).bind (fun r1 => (if (b2i r1) = 0 then (fX3_fails (mo.1, mo.2.1, 0, mo.2.2.2.1, mo.2.2.2.2.1, mo.2.2.2.2.2) 1).bind (fun r7 => some (r7.1, r7.2)) else (fX3_in w 0 3).bind (fun r3 => (if (b2i r3) = 0 then (fX3_fails (mo.1, mo.2.1, 0, mo.2.2.2.1, mo.2.2.2.2.1, mo.2.2.2.2.2) 2).bind (fun r5 => some (r5.1, r5.2)) else (fX3_ofCurtain (mo.1, mo.2.1, 0, mo.2.2.2.1, mo.2.2.2.2.1, mo.2.2.2.2.2) fn cu w).bind (fun r6 => some (r6, (mo.1, mo.2.1, 0, mo.2.2.2.1, mo.2.2.2.2.1, mo.2.2.2.2.2)))))))
set_option maxHeartbeats 4000000 in
set_option maxRecDepth 100000 in
theorem mtX3_curtain (l : Launch) (D : va_G) (t : Nat → ClassId) (mh : Nat) (mb : Nat → Nat) (mo : MoT) (fn : (Nat → Int32)) (cu : Int32) (w : Int32) (out : Int32 × MoT) (h : fX3_curtain mo fn cu w = some out)  (sz : Nat) : Met l yX3_curtain zX3_curtain ({ frames := 2, cells := 0, slots := 0, locals := 47 }) (sPc D t (gMo mh mb mo ++ (gA t (mb 0) 71 fn)) sz [.ref mh, .int cu, .int w]) (qI D t (gMo mh mb out.2 ++ (gA t (mb 0) 71 fn)) out.1 (va_A (gMo mh mb mo ++ (gA t (mb 0) 71 fn)) sz)) 0 0 (va_A (gMo mh mb mo ++ (gA t (mb 0) 71 fn)) sz) := by
  refine met_of (Qf := fun A => qI D t (gMo mh mb out.2 ++ (gA t (mb 0) 71 fn)) out.1 A) (cc := cX3_curtain) (maxL := 3) (ret := some .int) (by decide) rfl (Nat.le_of_ble_eq_true rfl) ?_
  intro p e s m args below meth c A hx hb hr hml hts hown hlocks hA hP hK hD hE hS ls hl
  have htB : ∀ w ∈ BIG, w.before args s = true := fun w h => hts w (List.mem_cons_of_mem _ h)
  have hown : s.vm.findClass RX3 = some m.cls := hown
  have hl : lv_has ls 3 [(0, .ref mh), (1, .int cu), (2, .int w)] := hl
  unfold fX3_curtain at h
  refine lv_aload_n hx hb dX3_curtain_0 rfl (lv_at hl 0 rfl) ?_
  refine lv_iconst (v := 0) hx hb dX3_curtain_1 (by decide) ?_
  refine va_put (D := D) (ci := 3) (v := .int 0) (ty := .int) (C := RX3) (T := TX3) (N := 14) hx hb htB inlX3 tyX3 tyX3_ok nmX3 hown hK hP hD hS 0 rfl rfl 6 (by decide) (htB _ kw114) (fun _ h9 => h9) rfl (by decide +kernel) rfl rfl (Nat.le_of_ble_eq_true rfl) dX3_curtain_2 (fun H locs hP hD hS => ?_)
  have hP : va_P D vwCl (gMo mh mb (mo.1, mo.2.1, 0, mo.2.2.2.1, mo.2.2.2.2.1, mo.2.2.2.2.2) ++ (gA t (mb 0) 71 fn)) H := hP
  have hD : va_D A (gMo mh mb (mo.1, mo.2.1, 0, mo.2.2.2.1, mo.2.2.2.2.1, mo.2.2.2.2.2) ++ (gA t (mb 0) 71 fn)) := hD
  refine lv_iload_n hx hb dX3_curtain_5 rfl (lv_at hl 1 rfl) ?_
  obtain ⟨r1, h1, h⟩ := ob h
  refine call_i (v := b2i r1) (wc := ([] : va_W)) (wc' := ([] : va_W)) (ws' := (gMo mh mb (mo.1, mo.2.1, 0, mo.2.2.2.1, mo.2.2.2.2.1, mo.2.2.2.2.2) ++ (gA t (mb 0) 71 fn))) (cutB (bs := [gMo mh mb (mo.1, mo.2.1, 0, mo.2.2.2.1, mo.2.2.2.2.1, mo.2.2.2.2.2), gA t (mb 0) 71 fn]) (cs := []) (cs' := []) (bs' := [gMo mh mb (mo.1, mo.2.1, 0, mo.2.2.2.1, mo.2.2.2.2.1, mo.2.2.2.2.2), gA t (mb 0) 71 fn]) [] hP hD hS hA rfl rfl rfl rfl) hS (fun hPc hDc => va_runS (As := [.int cu]) (rest := []) ⟨hx, hb, hml, hown, hts⟩ (mtX3_isCurtain l D t cu r1 h1 _) (va_cwS 1 hts (gBS kw115 kw116 kw5 kw117) rfl rfl rfl (by decide +kernel) ⟨Nat.le_of_ble_eq_true rfl, Nat.le_of_ble_eq_true rfl⟩) (sPc_S hPc hK hDc hE) rfl rfl hl.1 rfl (lv_room (Nat.le_of_ble_eq_true rfl)) dX3_curtain_6 ⟨Nat.zero_le _, Nat.zero_le _⟩) (fun H locs hP hD hS => ?_)
  refine lv_if_ne (tgt := 18) hx hb dX3_curtain_9 (by decide) (fun c2 => ?_) (fun c2 => ?_)
  · have h := it_n c2 h
    refine lv_iload_n hx hb dX3_curtain_18 rfl (lv_at hl 2 rfl) ?_
    refine lv_iconst (v := 0) hx hb dX3_curtain_19 (by decide) ?_
    refine lv_iconst (v := 3) hx hb dX3_curtain_20 (by decide) ?_
    obtain ⟨r3, h3, h⟩ := ob h
    refine call_i (v := b2i r3) (wc := ([] : va_W)) (wc' := ([] : va_W)) (ws' := (gMo mh mb (mo.1, mo.2.1, 0, mo.2.2.2.1, mo.2.2.2.2.1, mo.2.2.2.2.2) ++ (gA t (mb 0) 71 fn))) (cutB (bs := [gMo mh mb (mo.1, mo.2.1, 0, mo.2.2.2.1, mo.2.2.2.2.1, mo.2.2.2.2.2), gA t (mb 0) 71 fn]) (cs := []) (cs' := []) (bs' := [gMo mh mb (mo.1, mo.2.1, 0, mo.2.2.2.1, mo.2.2.2.2.1, mo.2.2.2.2.2), gA t (mb 0) 71 fn]) [] hP hD hS hA rfl rfl rfl rfl) hS (fun hPc hDc => va_runS (As := [.int w, .int 0, .int 3]) (rest := []) ⟨hx, hb, hml, hown, hts⟩ (mtX3_in l D t w 0 3 r3 h3 _) (va_cwS 3 hts (gBS kw118 kw119 kw5 kw120) rfl rfl rfl (by decide +kernel) ⟨Nat.le_of_ble_eq_true rfl, Nat.le_of_ble_eq_true rfl⟩) (sPc_S hPc hK hDc hE) rfl rfl hl.1 rfl (lv_room (Nat.le_of_ble_eq_true rfl)) dX3_curtain_21 ⟨Nat.zero_le _, Nat.zero_le _⟩) (fun H locs hP hD hS => ?_)
    refine lv_if_eq (tgt := 36) hx hb dX3_curtain_24 (by decide) (fun c4 => ?_) (fun c4 => ?_)
    · have h := it_p c4 h
      refine lv_aload_n hx hb dX3_curtain_36 rfl (lv_at hl 0 rfl) ?_
      refine lv_iconst (v := 2) hx hb dX3_curtain_37 (by decide) ?_
      obtain ⟨r5, h5, h⟩ := ob h
      refine call_i (v := r5.1) (wc := (gMo mh mb (mo.1, mo.2.1, 0, mo.2.2.2.1, mo.2.2.2.2.1, mo.2.2.2.2.2))) (wc' := (gMo mh mb r5.2)) (ws' := (gMo mh mb r5.2 ++ (gA t (mb 0) 71 fn))) (cutB (bs := [gMo mh mb (mo.1, mo.2.1, 0, mo.2.2.2.1, mo.2.2.2.2.1, mo.2.2.2.2.2), gA t (mb 0) 71 fn]) (cs := [gMo mh mb (mo.1, mo.2.1, 0, mo.2.2.2.1, mo.2.2.2.2.1, mo.2.2.2.2.2)]) (cs' := [gMo mh mb r5.2]) (bs' := [gMo mh mb r5.2, gA t (mb 0) 71 fn]) [0] hP hD hS hA rfl rfl rfl rfl) hS (fun hPc hDc => va_runV (As := [.int 2]) (rest := []) ⟨hx, hb, hml, hown, hts⟩ (mtX3_fails l D t mh mb (mo.1, mo.2.1, 0, mo.2.2.2.1, mo.2.2.2.2.1, mo.2.2.2.2.2) 2 r5 h5 _) (cwV 1 hts (gBV kw121 kw122 kw123 kw5 kw124) rfl rfl rfl (by decide +kernel) ⟨Nat.le_of_ble_eq_true rfl, Nat.le_of_ble_eq_true rfl⟩) (sPc_V hPc hK hDc hE (va_recv hK hP (ci := 3) (q0 := 0) rfl rfl)) rfl rfl hl.1 rfl (lv_room (Nat.le_of_ble_eq_true rfl)) dX3_curtain_38 ⟨Nat.zero_le _, Nat.zero_le _⟩) (fun H locs hP hD hS => ?_)
      obtain rfl := os h
      exact ret_i hx hb hr hlocks hP hK hD hS dX3_curtain_41
    · have h := it_n c4 h
      refine lv_aload_n hx hb dX3_curtain_27 rfl (lv_at hl 0 rfl) ?_
      refine lv_iload_n hx hb dX3_curtain_28 rfl (lv_at hl 1 rfl) ?_
      refine lv_iload_n hx hb dX3_curtain_29 rfl (lv_at hl 2 rfl) ?_
      obtain ⟨r6, h6, h⟩ := ob h
      refine call_i (v := r6) (wc := (gMo mh mb (mo.1, mo.2.1, 0, mo.2.2.2.1, mo.2.2.2.2.1, mo.2.2.2.2.2) ++ (gA t (mb 0) 71 fn))) (wc' := (gMo mh mb (mo.1, mo.2.1, 0, mo.2.2.2.1, mo.2.2.2.2.1, mo.2.2.2.2.2) ++ (gA t (mb 0) 71 fn))) (ws' := (gMo mh mb (mo.1, mo.2.1, 0, mo.2.2.2.1, mo.2.2.2.2.1, mo.2.2.2.2.2) ++ (gA t (mb 0) 71 fn))) (cutB (bs := [gMo mh mb (mo.1, mo.2.1, 0, mo.2.2.2.1, mo.2.2.2.2.1, mo.2.2.2.2.2), gA t (mb 0) 71 fn]) (cs := [gMo mh mb (mo.1, mo.2.1, 0, mo.2.2.2.1, mo.2.2.2.2.1, mo.2.2.2.2.2), gA t (mb 0) 71 fn]) (cs' := [gMo mh mb (mo.1, mo.2.1, 0, mo.2.2.2.1, mo.2.2.2.2.1, mo.2.2.2.2.2), gA t (mb 0) 71 fn]) (bs' := [gMo mh mb (mo.1, mo.2.1, 0, mo.2.2.2.1, mo.2.2.2.2.1, mo.2.2.2.2.2), gA t (mb 0) 71 fn]) [0, 1] hP hD hS hA rfl rfl rfl rfl) hS (fun hPc hDc => va_runV (As := [.int cu, .int w]) (rest := []) ⟨hx, hb, hml, hown, hts⟩ (mtX3_ofCurtain l D t mh mb (mo.1, mo.2.1, 0, mo.2.2.2.1, mo.2.2.2.2.1, mo.2.2.2.2.2) fn cu w r6 h6 _) (cwV 2 hts (gBV kw447 kw448 kw449 kw5 kw450) rfl rfl rfl (by decide +kernel) ⟨Nat.le_of_ble_eq_true rfl, Nat.le_of_ble_eq_true rfl⟩) (sPc_V hPc hK hDc hE (va_recv hK hP (ci := 3) (q0 := 0) rfl rfl)) rfl rfl hl.1 rfl (lv_room (Nat.le_of_ble_eq_true rfl)) dX3_curtain_30 ⟨Nat.zero_le _, Nat.zero_le _⟩) (fun H locs hP hD hS => ?_)
      refine lv_goto (tgt := 41) hx hb dX3_curtain_33 (by decide) ?_
      obtain rfl := os h
      exact ret_i hx hb hr hlocks hP hK hD hS dX3_curtain_41
  · have h := it_p c2 h
    refine lv_aload_n hx hb dX3_curtain_12 rfl (lv_at hl 0 rfl) ?_
    refine lv_iconst (v := 1) hx hb dX3_curtain_13 (by decide) ?_
    obtain ⟨r7, h7, h⟩ := ob h
    refine call_i (v := r7.1) (wc := (gMo mh mb (mo.1, mo.2.1, 0, mo.2.2.2.1, mo.2.2.2.2.1, mo.2.2.2.2.2))) (wc' := (gMo mh mb r7.2)) (ws' := (gMo mh mb r7.2 ++ (gA t (mb 0) 71 fn))) (cutB (bs := [gMo mh mb (mo.1, mo.2.1, 0, mo.2.2.2.1, mo.2.2.2.2.1, mo.2.2.2.2.2), gA t (mb 0) 71 fn]) (cs := [gMo mh mb (mo.1, mo.2.1, 0, mo.2.2.2.1, mo.2.2.2.2.1, mo.2.2.2.2.2)]) (cs' := [gMo mh mb r7.2]) (bs' := [gMo mh mb r7.2, gA t (mb 0) 71 fn]) [0] hP hD hS hA rfl rfl rfl rfl) hS (fun hPc hDc => va_runV (As := [.int 1]) (rest := []) ⟨hx, hb, hml, hown, hts⟩ (mtX3_fails l D t mh mb (mo.1, mo.2.1, 0, mo.2.2.2.1, mo.2.2.2.2.1, mo.2.2.2.2.2) 1 r7 h7 _) (cwV 1 hts (gBV kw121 kw122 kw123 kw5 kw124) rfl rfl rfl (by decide +kernel) ⟨Nat.le_of_ble_eq_true rfl, Nat.le_of_ble_eq_true rfl⟩) (sPc_V hPc hK hDc hE (va_recv hK hP (ci := 3) (q0 := 0) rfl rfl)) rfl rfl hl.1 rfl (lv_room (Nat.le_of_ble_eq_true rfl)) dX3_curtain_14 ⟨Nat.zero_le _, Nat.zero_le _⟩) (fun H locs hP hD hS => ?_)
    obtain rfl := os h
    exact ret_i hx hb hr hlocks hP hK hD hS dX3_curtain_17

theorem dX3_ofColumn_0 : decode cX3_ofColumn 0 = .ok (.aload_n 0, 1) := by decide +kernel
theorem dX3_ofColumn_1 : decode cX3_ofColumn 1 = .ok (.aload_n 0, 1) := by decide +kernel
theorem dX3_ofColumn_2 : decode cX3_ofColumn 2 = .ok (.getfield 7, 3) := by decide +kernel
theorem dX3_ofColumn_5 : decode cX3_ofColumn 5 = .ok (.iload_n 1, 1) := by decide +kernel
theorem dX3_ofColumn_6 : decode cX3_ofColumn 6 = .ok (.invokevirtual 71, 3) := by decide +kernel
theorem dX3_ofColumn_9 : decode cX3_ofColumn 9 = .ok (.iload_n 3, 1) := by decide +kernel
theorem dX3_ofColumn_10 : decode cX3_ofColumn 10 = .ok (.tableswitch 66 0 3 #[30, 37, 44, 51], 30) := by decide +kernel
theorem dX3_ofColumn_40 : decode cX3_ofColumn 40 = .ok (.aload_n 0, 1) := by decide +kernel
theorem dX3_ofColumn_41 : decode cX3_ofColumn 41 = .ok (.getfield 25, 3) := by decide +kernel
theorem dX3_ofColumn_44 : decode cX3_ofColumn 44 = .ok (.iload_n 2, 1) := by decide +kernel
theorem dX3_ofColumn_45 : decode cX3_ofColumn 45 = .ok (.iaload, 1) := by decide +kernel
theorem dX3_ofColumn_46 : decode cX3_ofColumn 46 = .ok (.ireturn, 1) := by decide +kernel
theorem dX3_ofColumn_47 : decode cX3_ofColumn 47 = .ok (.aload_n 0, 1) := by decide +kernel
theorem dX3_ofColumn_48 : decode cX3_ofColumn 48 = .ok (.getfield 28, 3) := by decide +kernel
theorem dX3_ofColumn_51 : decode cX3_ofColumn 51 = .ok (.iload_n 2, 1) := by decide +kernel
theorem dX3_ofColumn_52 : decode cX3_ofColumn 52 = .ok (.iaload, 1) := by decide +kernel
theorem dX3_ofColumn_53 : decode cX3_ofColumn 53 = .ok (.ireturn, 1) := by decide +kernel
theorem dX3_ofColumn_54 : decode cX3_ofColumn 54 = .ok (.aload_n 0, 1) := by decide +kernel
theorem dX3_ofColumn_55 : decode cX3_ofColumn 55 = .ok (.getfield 31, 3) := by decide +kernel
theorem dX3_ofColumn_58 : decode cX3_ofColumn 58 = .ok (.iload_n 2, 1) := by decide +kernel
theorem dX3_ofColumn_59 : decode cX3_ofColumn 59 = .ok (.iaload, 1) := by decide +kernel
theorem dX3_ofColumn_60 : decode cX3_ofColumn 60 = .ok (.ireturn, 1) := by decide +kernel
theorem dX3_ofColumn_61 : decode cX3_ofColumn 61 = .ok (.aload_n 0, 1) := by decide +kernel
theorem dX3_ofColumn_62 : decode cX3_ofColumn 62 = .ok (.getfield 31, 3) := by decide +kernel
theorem dX3_ofColumn_65 : decode cX3_ofColumn 65 = .ok (.iload_n 2, 1) := by decide +kernel
theorem dX3_ofColumn_66 : decode cX3_ofColumn 66 = .ok (.iaload, 1) := by decide +kernel
theorem dX3_ofColumn_67 : decode cX3_ofColumn 67 = .ok (.iload_n 1, 1) := by decide +kernel
theorem dX3_ofColumn_68 : decode cX3_ofColumn 68 = .ok (.invokestatic 53, 3) := by decide +kernel
theorem dX3_ofColumn_71 : decode cX3_ofColumn 71 = .ok (.isub, 1) := by decide +kernel
theorem dX3_ofColumn_72 : decode cX3_ofColumn 72 = .ok (.invokestatic 68, 3) := by decide +kernel
theorem dX3_ofColumn_75 : decode cX3_ofColumn 75 = .ok (.ireturn, 1) := by decide +kernel
theorem dX3_ofColumn_76 : decode cX3_ofColumn 76 = .ok (.aload_n 0, 1) := by decide +kernel
theorem dX3_ofColumn_77 : decode cX3_ofColumn 77 = .ok (.getfield 7, 3) := by decide +kernel
theorem dX3_ofColumn_80 : decode cX3_ofColumn 80 = .ok (.bipush 23, 2) := by decide +kernel
theorem dX3_ofColumn_82 : decode cX3_ofColumn 82 = .ok (.bipush 24, 2) := by decide +kernel
theorem dX3_ofColumn_84 : decode cX3_ofColumn 84 = .ok (.iload_n 3, 1) := by decide +kernel
theorem dX3_ofColumn_85 : decode cX3_ofColumn 85 = .ok (.iconst 4, 1) := by decide +kernel
theorem dX3_ofColumn_86 : decode cX3_ofColumn 86 = .ok (.isub, 1) := by decide +kernel
theorem dX3_ofColumn_87 : decode cX3_ofColumn 87 = .ok (.imul, 1) := by decide +kernel
theorem dX3_ofColumn_88 : decode cX3_ofColumn 88 = .ok (.iadd, 1) := by decide +kernel
theorem dX3_ofColumn_89 : decode cX3_ofColumn 89 = .ok (.iload_n 2, 1) := by decide +kernel
theorem dX3_ofColumn_90 : decode cX3_ofColumn 90 = .ok (.iadd, 1) := by decide +kernel
theorem dX3_ofColumn_91 : decode cX3_ofColumn 91 = .ok (.iaload, 1) := by decide +kernel
theorem dX3_ofColumn_92 : decode cX3_ofColumn 92 = .ok (.ireturn, 1) := by decide +kernel
abbrev zX3_ofColumn : List Cond := .code yX3_ofColumn cX3_ofColumn 4 (some .int) :: BIG
def fX3_ofColumn (mo : MoT) (fn : (Nat → Int32)) (le : (Nat → Int32)) (co : (Nat → Int32)) (li : (Nat → Int32)) (v : Int32) (k : Int32) (w : Int32) : Option (Int32 × (Nat → Int32) × (Nat → Int32) × (Nat → Int32)) := (fX3_lays mo fn le co li v).bind (fun r1 => (if w = 0 then gd (pin k 24) (some (r1.1 (Int32.toNatClampNeg k), r1.1, r1.2.1, r1.2.2)) else (if w = 1 then gd (pin k 24) (some (r1.2.1 (Int32.toNatClampNeg k), r1.1, r1.2.1, r1.2.2)) else (if w = 2 then gd (pin k 24) (some (r1.2.2 (Int32.toNatClampNeg k), r1.1, r1.2.1, r1.2.2)) else (if w = 3 then gd (pin k 24) ((fX3_wanted v).bind (fun r10 => (fX3_size ((r1.2.2 (Int32.toNatClampNeg k)) - r10)).bind (fun r11 => some (r11, r1.1, r1.2.1, r1.2.2)))) else gd (pin ((23 + (24 * (w - 4))) + k) 71) (some (fn (Int32.toNatClampNeg ((23 + (24 * (w - 4))) + k)), r1.1, r1.2.1, r1.2.2)))))))
set_option maxHeartbeats 4000000 in
set_option maxRecDepth 100000 in
theorem mtX3_ofColumn (l : Launch) (D : va_G) (t : Nat → ClassId) (mh : Nat) (mb : Nat → Nat) (mo : MoT) (fn : (Nat → Int32)) (le : (Nat → Int32)) (co : (Nat → Int32)) (li : (Nat → Int32)) (v : Int32) (k : Int32) (w : Int32) (out : Int32 × (Nat → Int32) × (Nat → Int32) × (Nat → Int32)) (h : fX3_ofColumn mo fn le co li v k w = some out)  (sz : Nat) : Met l yX3_ofColumn zX3_ofColumn ({ frames := 3, cells := 0, slots := 0, locals := 68 }) (sPc D t (gMo mh mb mo ++ (gA t (mb 0) 71 fn ++ (gA t (mb 5) 24 le ++ (gA t (mb 6) 24 co ++ (gA t (mb 7) 24 li))))) sz [.ref mh, .int v, .int k, .int w]) (qI D t (gMo mh mb mo ++ (gA t (mb 0) 71 fn ++ (gA t (mb 5) 24 out.2.1 ++ (gA t (mb 6) 24 out.2.2.1 ++ (gA t (mb 7) 24 out.2.2.2))))) out.1 (va_A (gMo mh mb mo ++ (gA t (mb 0) 71 fn ++ (gA t (mb 5) 24 le ++ (gA t (mb 6) 24 co ++ (gA t (mb 7) 24 li))))) sz)) 0 0 (va_A (gMo mh mb mo ++ (gA t (mb 0) 71 fn ++ (gA t (mb 5) 24 le ++ (gA t (mb 6) 24 co ++ (gA t (mb 7) 24 li))))) sz) := by
  refine met_of (Qf := fun A => qI D t (gMo mh mb mo ++ (gA t (mb 0) 71 fn ++ (gA t (mb 5) 24 out.2.1 ++ (gA t (mb 6) 24 out.2.2.1 ++ (gA t (mb 7) 24 out.2.2.2))))) out.1 A) (cc := cX3_ofColumn) (maxL := 4) (ret := some .int) (by decide) rfl (Nat.le_of_ble_eq_true rfl) ?_
  intro p e s m args below meth c A hx hb hr hml hts hown hlocks hA hP hK hD hE hS ls hl
  have htB : ∀ w ∈ BIG, w.before args s = true := fun w h => hts w (List.mem_cons_of_mem _ h)
  have hown : s.vm.findClass RX3 = some m.cls := hown
  have hl : lv_has ls 4 [(0, .ref mh), (1, .int v), (2, .int k), (3, .int w)] := hl
  unfold fX3_ofColumn at h
  refine lv_aload_n hx hb dX3_ofColumn_0 rfl (lv_at hl 0 rfl) ?_
  refine lv_aload_n hx hb dX3_ofColumn_1 rfl (lv_at hl 0 rfl) ?_
  refine va_get (D := D) (ci := 3) (v := .ref (mb 0)) (C := RX3) (T := TX3) (N := 14) hx hb htB inlX3 hown hK hP 0 rfl rfl 0 (by decide) (htB _ kw54) (fun _ h9 => h9) rfl dX3_ofColumn_2 ?_
  refine lv_iload_n hx hb dX3_ofColumn_5 rfl (lv_at hl 1 rfl) ?_
  obtain ⟨r1, h1, h⟩ := ob h
  refine call_v (wc := (gMo mh mb mo ++ (gA t (mb 0) 71 fn ++ (gA t (mb 5) 24 le ++ (gA t (mb 6) 24 co ++ (gA t (mb 7) 24 li)))))) (wc' := (gMo mh mb mo ++ (gA t (mb 0) 71 fn ++ (gA t (mb 5) 24 r1.1 ++ (gA t (mb 6) 24 r1.2.1 ++ (gA t (mb 7) 24 r1.2.2)))))) (ws' := (gMo mh mb mo ++ (gA t (mb 0) 71 fn ++ (gA t (mb 5) 24 r1.1 ++ (gA t (mb 6) 24 r1.2.1 ++ (gA t (mb 7) 24 r1.2.2)))))) (cutB (bs := [gMo mh mb mo, gA t (mb 0) 71 fn, gA t (mb 5) 24 le, gA t (mb 6) 24 co, gA t (mb 7) 24 li]) (cs := [gMo mh mb mo, gA t (mb 0) 71 fn, gA t (mb 5) 24 le, gA t (mb 6) 24 co, gA t (mb 7) 24 li]) (cs' := [gMo mh mb mo, gA t (mb 0) 71 fn, gA t (mb 5) 24 r1.1, gA t (mb 6) 24 r1.2.1, gA t (mb 7) 24 r1.2.2]) (bs' := [gMo mh mb mo, gA t (mb 0) 71 fn, gA t (mb 5) 24 r1.1, gA t (mb 6) 24 r1.2.1, gA t (mb 7) 24 r1.2.2]) [0, 1, 2, 3, 4] hP hD hS hA rfl rfl rfl rfl) hS (fun hPc hDc => va_runV (As := [.ref (mb 0), .int v]) (rest := []) ⟨hx, hb, hml, hown, hts⟩ (mtX3_lays l D t mh mb mo (mb 0) fn le co li v r1 h1 _) (cwV 2 hts (gBV kw295 kw296 kw297 kw5 kw298) rfl rfl rfl (by decide +kernel) ⟨Nat.le_of_ble_eq_true rfl, Nat.le_of_ble_eq_true rfl⟩) (sPc_V hPc hK hDc hE (va_recv hK hP (ci := 3) (q0 := 0) rfl rfl)) rfl rfl hl.1 rfl (lv_room (Nat.le_of_ble_eq_true rfl)) dX3_ofColumn_6 ⟨Nat.zero_le _, Nat.zero_le _⟩) (fun H locs hP hD hS => ?_)
  refine lv_iload_n hx hb dX3_ofColumn_9 rfl (lv_at hl 3 rfl) ?_
  by_cases c2 : w = 0
  · have h := it_p c2 h
    refine lv_tableIn (off := 30) (tgt := 40) hx hb dX3_ofColumn_10 (by rw [c2]; decide) (by rw [c2]; decide) (by rw [c2]; rfl) (by decide) ?_
    refine lv_aload_n hx hb dX3_ofColumn_40 rfl (lv_at hl 0 rfl) ?_
    refine va_get (D := D) (ci := 3) (v := .ref (mb 5)) (C := RX3) (T := TX3) (N := 14) hx hb htB inlX3 hown hK hP 0 rfl rfl 11 (by decide) (htB _ kw59) (fun _ h9 => h9) rfl dX3_ofColumn_41 ?_
    refine lv_iload_n hx hb dX3_ofColumn_44 rfl (lv_at hl 2 rfl) ?_
    obtain ⟨g3, h⟩ := og h
    refine va_iald hx hb hK hP 2 0 rfl rfl (pin_in g3) dX3_ofColumn_45 ?_
    obtain rfl := os h
    exact ret_i hx hb hr hlocks hP hK hD hS dX3_ofColumn_46
  · have h := it_n c2 h
    by_cases c4 : w = 1
    · have h := it_p c4 h
      refine lv_tableIn (off := 37) (tgt := 47) hx hb dX3_ofColumn_10 (by rw [c4]; decide) (by rw [c4]; decide) (by rw [c4]; rfl) (by decide) ?_
      refine lv_aload_n hx hb dX3_ofColumn_47 rfl (lv_at hl 0 rfl) ?_
      refine va_get (D := D) (ci := 3) (v := .ref (mb 6)) (C := RX3) (T := TX3) (N := 14) hx hb htB inlX3 hown hK hP 0 rfl rfl 12 (by decide) (htB _ kw60) (fun _ h9 => h9) rfl dX3_ofColumn_48 ?_
      refine lv_iload_n hx hb dX3_ofColumn_51 rfl (lv_at hl 2 rfl) ?_
      obtain ⟨g5, h⟩ := og h
      refine va_iald hx hb hK hP 3 0 rfl rfl (pin_in g5) dX3_ofColumn_52 ?_
      obtain rfl := os h
      exact ret_i hx hb hr hlocks hP hK hD hS dX3_ofColumn_53
    · have h := it_n c4 h
      by_cases c6 : w = 2
      · have h := it_p c6 h
        refine lv_tableIn (off := 44) (tgt := 54) hx hb dX3_ofColumn_10 (by rw [c6]; decide) (by rw [c6]; decide) (by rw [c6]; rfl) (by decide) ?_
        refine lv_aload_n hx hb dX3_ofColumn_54 rfl (lv_at hl 0 rfl) ?_
        refine va_get (D := D) (ci := 3) (v := .ref (mb 7)) (C := RX3) (T := TX3) (N := 14) hx hb htB inlX3 hown hK hP 0 rfl rfl 13 (by decide) (htB _ kw61) (fun _ h9 => h9) rfl dX3_ofColumn_55 ?_
        refine lv_iload_n hx hb dX3_ofColumn_58 rfl (lv_at hl 2 rfl) ?_
        obtain ⟨g7, h⟩ := og h
        refine va_iald hx hb hK hP 4 0 rfl rfl (pin_in g7) dX3_ofColumn_59 ?_
        obtain rfl := os h
        exact ret_i hx hb hr hlocks hP hK hD hS dX3_ofColumn_60
      · have h := it_n c6 h
        by_cases c8 : w = 3
        · have h := it_p c8 h
          refine lv_tableIn (off := 51) (tgt := 61) hx hb dX3_ofColumn_10 (by rw [c8]; decide) (by rw [c8]; decide) (by rw [c8]; rfl) (by decide) ?_
          refine lv_aload_n hx hb dX3_ofColumn_61 rfl (lv_at hl 0 rfl) ?_
          refine va_get (D := D) (ci := 3) (v := .ref (mb 7)) (C := RX3) (T := TX3) (N := 14) hx hb htB inlX3 hown hK hP 0 rfl rfl 13 (by decide) (htB _ kw61) (fun _ h9 => h9) rfl dX3_ofColumn_62 ?_
          refine lv_iload_n hx hb dX3_ofColumn_65 rfl (lv_at hl 2 rfl) ?_
          obtain ⟨g9, h⟩ := og h
          refine va_iald hx hb hK hP 4 0 rfl rfl (pin_in g9) dX3_ofColumn_66 ?_
          refine lv_iload_n hx hb dX3_ofColumn_67 rfl (lv_at hl 1 rfl) ?_
          obtain ⟨r10, h10, h⟩ := ob h
          refine call_i (v := r10) (wc := ([] : va_W)) (wc' := ([] : va_W)) (ws' := (gMo mh mb mo ++ (gA t (mb 0) 71 fn ++ (gA t (mb 5) 24 r1.1 ++ (gA t (mb 6) 24 r1.2.1 ++ (gA t (mb 7) 24 r1.2.2)))))) (cutB (bs := [gMo mh mb mo, gA t (mb 0) 71 fn, gA t (mb 5) 24 r1.1, gA t (mb 6) 24 r1.2.1, gA t (mb 7) 24 r1.2.2]) (cs := []) (cs' := []) (bs' := [gMo mh mb mo, gA t (mb 0) 71 fn, gA t (mb 5) 24 r1.1, gA t (mb 6) 24 r1.2.1, gA t (mb 7) 24 r1.2.2]) [] hP hD hS hA rfl rfl rfl rfl) hS (fun hPc hDc => va_runS (As := [.int v]) (rest := [.int (r1.2.2 (Int32.toNatClampNeg k))]) ⟨hx, hb, hml, hown, hts⟩ (mtX3_wanted l D t v r10 h10 _) (va_cwS 1 hts (gBS kw302 kw303 kw5 kw304) rfl rfl rfl (by decide +kernel) ⟨Nat.le_of_ble_eq_true rfl, Nat.le_of_ble_eq_true rfl⟩) (sPc_S hPc hK hDc hE) rfl rfl hl.1 rfl (lv_room (Nat.le_of_ble_eq_true rfl)) dX3_ofColumn_68 ⟨Nat.zero_le _, Nat.zero_le _⟩) (fun H locs hP hD hS => ?_)
          refine lv_isub hx hb dX3_ofColumn_71 ?_
          obtain ⟨r11, h11, h⟩ := ob h
          refine call_i (v := r11) (wc := ([] : va_W)) (wc' := ([] : va_W)) (ws' := (gMo mh mb mo ++ (gA t (mb 0) 71 fn ++ (gA t (mb 5) 24 r1.1 ++ (gA t (mb 6) 24 r1.2.1 ++ (gA t (mb 7) 24 r1.2.2)))))) (cutB (bs := [gMo mh mb mo, gA t (mb 0) 71 fn, gA t (mb 5) 24 r1.1, gA t (mb 6) 24 r1.2.1, gA t (mb 7) 24 r1.2.2]) (cs := []) (cs' := []) (bs' := [gMo mh mb mo, gA t (mb 0) 71 fn, gA t (mb 5) 24 r1.1, gA t (mb 6) 24 r1.2.1, gA t (mb 7) 24 r1.2.2]) [] hP hD hS hA rfl rfl rfl rfl) hS (fun hPc hDc => va_runS (As := [.int ((r1.2.2 (Int32.toNatClampNeg k)) - r10)]) (rest := []) ⟨hx, hb, hml, hown, hts⟩ (mtX3_size l D t ((r1.2.2 (Int32.toNatClampNeg k)) - r10) r11 h11 _) (va_cwS 1 hts (gBS kw315 kw316 kw5 kw317) rfl rfl rfl (by decide +kernel) ⟨Nat.le_of_ble_eq_true rfl, Nat.le_of_ble_eq_true rfl⟩) (sPc_S hPc hK hDc hE) rfl rfl hl.1 rfl (lv_room (Nat.le_of_ble_eq_true rfl)) dX3_ofColumn_72 ⟨Nat.zero_le _, Nat.zero_le _⟩) (fun H locs hP hD hS => ?_)
          obtain rfl := os h
          exact ret_i hx hb hr hlocks hP hK hD hS dX3_ofColumn_75
        · have h := it_n c8 h
          refine lv_tableOut (tgt := 76) hx hb dX3_ofColumn_10 (tab_0_3 c2 c4 c6 c8) (by decide) ?_
          refine lv_aload_n hx hb dX3_ofColumn_76 rfl (lv_at hl 0 rfl) ?_
          refine va_get (D := D) (ci := 3) (v := .ref (mb 0)) (C := RX3) (T := TX3) (N := 14) hx hb htB inlX3 hown hK hP 0 rfl rfl 0 (by decide) (htB _ kw54) (fun _ h9 => h9) rfl dX3_ofColumn_77 ?_
          refine lv_bipush (v := 23) hx hb dX3_ofColumn_80 (by decide) ?_
          refine lv_bipush (v := 24) hx hb dX3_ofColumn_82 (by decide) ?_
          refine lv_iload_n hx hb dX3_ofColumn_84 rfl (lv_at hl 3 rfl) ?_
          refine lv_iconst (v := 4) hx hb dX3_ofColumn_85 (by decide) ?_
          refine lv_isub hx hb dX3_ofColumn_86 ?_
          refine lv_imul hx hb dX3_ofColumn_87 ?_
          refine lv_iadd hx hb dX3_ofColumn_88 ?_
          refine lv_iload_n hx hb dX3_ofColumn_89 rfl (lv_at hl 2 rfl) ?_
          refine lv_iadd hx hb dX3_ofColumn_90 ?_
          obtain ⟨g12, h⟩ := og h
          refine va_iald hx hb hK hP 1 0 rfl rfl (pin_in g12) dX3_ofColumn_91 ?_
          obtain rfl := os h
          exact ret_i hx hb hr hlocks hP hK hD hS dX3_ofColumn_92

theorem dX3_column_0 : decode cX3_column 0 = .ok (.aload_n 0, 1) := by decide +kernel
theorem dX3_column_1 : decode cX3_column 1 = .ok (.iconst 0, 1) := by decide +kernel
theorem dX3_column_2 : decode cX3_column 2 = .ok (.putfield 34, 3) := by decide +kernel
theorem dX3_column_5 : decode cX3_column 5 = .ok (.iload_n 1, 1) := by decide +kernel
theorem dX3_column_6 : decode cX3_column 6 = .ok (.invokestatic 92, 3) := by decide +kernel
theorem dX3_column_9 : decode cX3_column 9 = .ok (.ifCond .eq 10, 3) := by decide +kernel
theorem dX3_column_12 : decode cX3_column 12 = .ok (.iload_n 2, 1) := by decide +kernel
theorem dX3_column_13 : decode cX3_column 13 = .ok (.invokestatic 89, 3) := by decide +kernel
theorem dX3_column_16 : decode cX3_column 16 = .ok (.ifCond .ne 9, 3) := by decide +kernel
theorem dX3_column_19 : decode cX3_column 19 = .ok (.aload_n 0, 1) := by decide +kernel
theorem dX3_column_20 : decode cX3_column 20 = .ok (.iconst 1, 1) := by decide +kernel
theorem dX3_column_21 : decode cX3_column 21 = .ok (.invokevirtual 49, 3) := by decide +kernel
theorem dX3_column_24 : decode cX3_column 24 = .ok (.ireturn, 1) := by decide +kernel
theorem dX3_column_25 : decode cX3_column 25 = .ok (.iload_n 3, 1) := by decide +kernel
theorem dX3_column_26 : decode cX3_column 26 = .ok (.iconst 0, 1) := by decide +kernel
theorem dX3_column_27 : decode cX3_column 27 = .ok (.iconst 5, 1) := by decide +kernel
theorem dX3_column_28 : decode cX3_column 28 = .ok (.invokestatic 38, 3) := by decide +kernel
theorem dX3_column_31 : decode cX3_column 31 = .ok (.ifCond .eq 13, 3) := by decide +kernel
theorem dX3_column_34 : decode cX3_column 34 = .ok (.aload_n 0, 1) := by decide +kernel
theorem dX3_column_35 : decode cX3_column 35 = .ok (.iload_n 1, 1) := by decide +kernel
theorem dX3_column_36 : decode cX3_column 36 = .ok (.iload_n 2, 1) := by decide +kernel
theorem dX3_column_37 : decode cX3_column 37 = .ok (.iload_n 3, 1) := by decide +kernel
theorem dX3_column_38 : decode cX3_column 38 = .ok (.invokevirtual 141, 3) := by decide +kernel
theorem dX3_column_41 : decode cX3_column 41 = .ok (.goto 8, 3) := by decide +kernel
theorem dX3_column_44 : decode cX3_column 44 = .ok (.aload_n 0, 1) := by decide +kernel
theorem dX3_column_45 : decode cX3_column 45 = .ok (.iconst 2, 1) := by decide +kernel
theorem dX3_column_46 : decode cX3_column 46 = .ok (.invokevirtual 49, 3) := by decide +kernel
theorem dX3_column_49 : decode cX3_column 49 = .ok (.ireturn, 1) := by decide +kernel
abbrev zX3_column : List Cond := .code yX3_column cX3_column 4 (some .int) :: BIG
def fX3_column (mo : MoT) (fn : (Nat → Int32)) (le : (Nat → Int32)) (co : (Nat → Int32)) (li : (Nat → Int32)) (v : Int32) (k : Int32) (w : Int32) : Option (Int32 × MoT × (Nat → Int32) × (Nat → Int32) × (Nat → Int32)) := (fX3_isSpeed v).bind (fun r1 => (if (b2i r1) = 0 then (fX3_fails (mo.1, mo.2.1, 0, mo.2.2.2.1, mo.2.2.2.2.1, mo.2.2.2.2.2) 1).bind (fun r3 => some (r3.1, r3.2, le, co, li)) else (fX3_isColumn k).bind (fun r4 => (if (b2i r4) = 0 then (fX3_fails (mo.1, mo.2.1, 0, mo.2.2.2.1, mo.2.2.2.2.1, mo.2.2.2.2.2) 1).bind (fun r10 => some (r10.1, r10.2, le, co, li)) else (fX3_in w 0 5).bind (fun r6 => (if (b2i r6) = 0 then (fX3_fails (mo.1, mo.2.1, 0, mo.2.2.2.1, mo.2.2.2.2.1, mo.2.2.2.2.2) 2).bind (fun r8 => some (r8.1, r8.2, le, co, li)) else (fX3_ofColumn (mo.1, mo.2.1, 0, mo.2.2.2.1, mo.2.2.2.2.1, mo.2.2.2.2.2) fn le co li v k w).bind (fun r9 => some (r9.1, (mo.1, mo.2.1, 0, mo.2.2.2.1, mo.2.2.2.2.1, mo.2.2.2.2.2), r9.2.1, r9.2.2.1, r9.2.2.2))))))))
set_option maxHeartbeats 4000000 in
set_option maxRecDepth 100000 in
theorem mtX3_column (l : Launch) (D : va_G) (t : Nat → ClassId) (mh : Nat) (mb : Nat → Nat) (mo : MoT) (fn : (Nat → Int32)) (le : (Nat → Int32)) (co : (Nat → Int32)) (li : (Nat → Int32)) (v : Int32) (k : Int32) (w : Int32) (out : Int32 × MoT × (Nat → Int32) × (Nat → Int32) × (Nat → Int32)) (h : fX3_column mo fn le co li v k w = some out)  (sz : Nat) : Met l yX3_column zX3_column ({ frames := 4, cells := 0, slots := 0, locals := 91 }) (sPc D t (gMo mh mb mo ++ (gA t (mb 0) 71 fn ++ (gA t (mb 5) 24 le ++ (gA t (mb 6) 24 co ++ (gA t (mb 7) 24 li))))) sz [.ref mh, .int v, .int k, .int w]) (qI D t (gMo mh mb out.2.1 ++ (gA t (mb 0) 71 fn ++ (gA t (mb 5) 24 out.2.2.1 ++ (gA t (mb 6) 24 out.2.2.2.1 ++ (gA t (mb 7) 24 out.2.2.2.2))))) out.1 (va_A (gMo mh mb mo ++ (gA t (mb 0) 71 fn ++ (gA t (mb 5) 24 le ++ (gA t (mb 6) 24 co ++ (gA t (mb 7) 24 li))))) sz)) 0 0 (va_A (gMo mh mb mo ++ (gA t (mb 0) 71 fn ++ (gA t (mb 5) 24 le ++ (gA t (mb 6) 24 co ++ (gA t (mb 7) 24 li))))) sz) := by
  refine met_of (Qf := fun A => qI D t (gMo mh mb out.2.1 ++ (gA t (mb 0) 71 fn ++ (gA t (mb 5) 24 out.2.2.1 ++ (gA t (mb 6) 24 out.2.2.2.1 ++ (gA t (mb 7) 24 out.2.2.2.2))))) out.1 A) (cc := cX3_column) (maxL := 4) (ret := some .int) (by decide) rfl (Nat.le_of_ble_eq_true rfl) ?_
  intro p e s m args below meth c A hx hb hr hml hts hown hlocks hA hP hK hD hE hS ls hl
  have htB : ∀ w ∈ BIG, w.before args s = true := fun w h => hts w (List.mem_cons_of_mem _ h)
  have hown : s.vm.findClass RX3 = some m.cls := hown
  have hl : lv_has ls 4 [(0, .ref mh), (1, .int v), (2, .int k), (3, .int w)] := hl
  unfold fX3_column at h
  refine lv_aload_n hx hb dX3_column_0 rfl (lv_at hl 0 rfl) ?_
  refine lv_iconst (v := 0) hx hb dX3_column_1 (by decide) ?_
  refine va_put (D := D) (ci := 3) (v := .int 0) (ty := .int) (C := RX3) (T := TX3) (N := 14) hx hb htB inlX3 tyX3 tyX3_ok nmX3 hown hK hP hD hS 0 rfl rfl 6 (by decide) (htB _ kw114) (fun _ h9 => h9) rfl (by decide +kernel) rfl rfl (Nat.le_of_ble_eq_true rfl) dX3_column_2 (fun H locs hP hD hS => ?_)
  have hP : va_P D vwCl (gMo mh mb (mo.1, mo.2.1, 0, mo.2.2.2.1, mo.2.2.2.2.1, mo.2.2.2.2.2) ++ (gA t (mb 0) 71 fn ++ (gA t (mb 5) 24 le ++ (gA t (mb 6) 24 co ++ (gA t (mb 7) 24 li))))) H := hP
  have hD : va_D A (gMo mh mb (mo.1, mo.2.1, 0, mo.2.2.2.1, mo.2.2.2.2.1, mo.2.2.2.2.2) ++ (gA t (mb 0) 71 fn ++ (gA t (mb 5) 24 le ++ (gA t (mb 6) 24 co ++ (gA t (mb 7) 24 li))))) := hD
  refine lv_iload_n hx hb dX3_column_5 rfl (lv_at hl 1 rfl) ?_
  obtain ⟨r1, h1, h⟩ := ob h
  refine call_i (v := b2i r1) (wc := ([] : va_W)) (wc' := ([] : va_W)) (ws' := (gMo mh mb (mo.1, mo.2.1, 0, mo.2.2.2.1, mo.2.2.2.2.1, mo.2.2.2.2.2) ++ (gA t (mb 0) 71 fn ++ (gA t (mb 5) 24 le ++ (gA t (mb 6) 24 co ++ (gA t (mb 7) 24 li)))))) (cutB (bs := [gMo mh mb (mo.1, mo.2.1, 0, mo.2.2.2.1, mo.2.2.2.2.1, mo.2.2.2.2.2), gA t (mb 0) 71 fn, gA t (mb 5) 24 le, gA t (mb 6) 24 co, gA t (mb 7) 24 li]) (cs := []) (cs' := []) (bs' := [gMo mh mb (mo.1, mo.2.1, 0, mo.2.2.2.1, mo.2.2.2.2.1, mo.2.2.2.2.2), gA t (mb 0) 71 fn, gA t (mb 5) 24 le, gA t (mb 6) 24 co, gA t (mb 7) 24 li]) [] hP hD hS hA rfl rfl rfl rfl) hS (fun hPc hDc => va_runS (As := [.int v]) (rest := []) ⟨hx, hb, hml, hown, hts⟩ (mtX3_isSpeed l D t v r1 h1 _) (va_cwS 1 hts (gBS kw186 kw187 kw5 kw188) rfl rfl rfl (by decide +kernel) ⟨Nat.le_of_ble_eq_true rfl, Nat.le_of_ble_eq_true rfl⟩) (sPc_S hPc hK hDc hE) rfl rfl hl.1 rfl (lv_room (Nat.le_of_ble_eq_true rfl)) dX3_column_6 ⟨Nat.zero_le _, Nat.zero_le _⟩) (fun H locs hP hD hS => ?_)
  refine lv_if_eq (tgt := 19) hx hb dX3_column_9 (by decide) (fun c2 => ?_) (fun c2 => ?_)
  · have h := it_p c2 h
    refine lv_aload_n hx hb dX3_column_19 rfl (lv_at hl 0 rfl) ?_
    refine lv_iconst (v := 1) hx hb dX3_column_20 (by decide) ?_
    obtain ⟨r3, h3, h⟩ := ob h
    refine call_i (v := r3.1) (wc := (gMo mh mb (mo.1, mo.2.1, 0, mo.2.2.2.1, mo.2.2.2.2.1, mo.2.2.2.2.2))) (wc' := (gMo mh mb r3.2)) (ws' := (gMo mh mb r3.2 ++ (gA t (mb 0) 71 fn ++ (gA t (mb 5) 24 le ++ (gA t (mb 6) 24 co ++ (gA t (mb 7) 24 li)))))) (cutB (bs := [gMo mh mb (mo.1, mo.2.1, 0, mo.2.2.2.1, mo.2.2.2.2.1, mo.2.2.2.2.2), gA t (mb 0) 71 fn, gA t (mb 5) 24 le, gA t (mb 6) 24 co, gA t (mb 7) 24 li]) (cs := [gMo mh mb (mo.1, mo.2.1, 0, mo.2.2.2.1, mo.2.2.2.2.1, mo.2.2.2.2.2)]) (cs' := [gMo mh mb r3.2]) (bs' := [gMo mh mb r3.2, gA t (mb 0) 71 fn, gA t (mb 5) 24 le, gA t (mb 6) 24 co, gA t (mb 7) 24 li]) [0] hP hD hS hA rfl rfl rfl rfl) hS (fun hPc hDc => va_runV (As := [.int 1]) (rest := []) ⟨hx, hb, hml, hown, hts⟩ (mtX3_fails l D t mh mb (mo.1, mo.2.1, 0, mo.2.2.2.1, mo.2.2.2.2.1, mo.2.2.2.2.2) 1 r3 h3 _) (cwV 1 hts (gBV kw121 kw122 kw123 kw5 kw124) rfl rfl rfl (by decide +kernel) ⟨Nat.le_of_ble_eq_true rfl, Nat.le_of_ble_eq_true rfl⟩) (sPc_V hPc hK hDc hE (va_recv hK hP (ci := 3) (q0 := 0) rfl rfl)) rfl rfl hl.1 rfl (lv_room (Nat.le_of_ble_eq_true rfl)) dX3_column_21 ⟨Nat.zero_le _, Nat.zero_le _⟩) (fun H locs hP hD hS => ?_)
    obtain rfl := os h
    exact ret_i hx hb hr hlocks hP hK hD hS dX3_column_24
  · have h := it_n c2 h
    refine lv_iload_n hx hb dX3_column_12 rfl (lv_at hl 2 rfl) ?_
    obtain ⟨r4, h4, h⟩ := ob h
    refine call_i (v := b2i r4) (wc := ([] : va_W)) (wc' := ([] : va_W)) (ws' := (gMo mh mb (mo.1, mo.2.1, 0, mo.2.2.2.1, mo.2.2.2.2.1, mo.2.2.2.2.2) ++ (gA t (mb 0) 71 fn ++ (gA t (mb 5) 24 le ++ (gA t (mb 6) 24 co ++ (gA t (mb 7) 24 li)))))) (cutB (bs := [gMo mh mb (mo.1, mo.2.1, 0, mo.2.2.2.1, mo.2.2.2.2.1, mo.2.2.2.2.2), gA t (mb 0) 71 fn, gA t (mb 5) 24 le, gA t (mb 6) 24 co, gA t (mb 7) 24 li]) (cs := []) (cs' := []) (bs' := [gMo mh mb (mo.1, mo.2.1, 0, mo.2.2.2.1, mo.2.2.2.2.1, mo.2.2.2.2.2), gA t (mb 0) 71 fn, gA t (mb 5) 24 le, gA t (mb 6) 24 co, gA t (mb 7) 24 li]) [] hP hD hS hA rfl rfl rfl rfl) hS (fun hPc hDc => va_runS (As := [.int k]) (rest := []) ⟨hx, hb, hml, hown, hts⟩ (mtX3_isColumn l D t k r4 h4 _) (va_cwS 1 hts (gBS kw156 kw157 kw5 kw158) rfl rfl rfl (by decide +kernel) ⟨Nat.le_of_ble_eq_true rfl, Nat.le_of_ble_eq_true rfl⟩) (sPc_S hPc hK hDc hE) rfl rfl hl.1 rfl (lv_room (Nat.le_of_ble_eq_true rfl)) dX3_column_13 ⟨Nat.zero_le _, Nat.zero_le _⟩) (fun H locs hP hD hS => ?_)
    refine lv_if_ne (tgt := 25) hx hb dX3_column_16 (by decide) (fun c5 => ?_) (fun c5 => ?_)
    · have h := it_n c5 h
      refine lv_iload_n hx hb dX3_column_25 rfl (lv_at hl 3 rfl) ?_
      refine lv_iconst (v := 0) hx hb dX3_column_26 (by decide) ?_
      refine lv_iconst (v := 5) hx hb dX3_column_27 (by decide) ?_
      obtain ⟨r6, h6, h⟩ := ob h
      refine call_i (v := b2i r6) (wc := ([] : va_W)) (wc' := ([] : va_W)) (ws' := (gMo mh mb (mo.1, mo.2.1, 0, mo.2.2.2.1, mo.2.2.2.2.1, mo.2.2.2.2.2) ++ (gA t (mb 0) 71 fn ++ (gA t (mb 5) 24 le ++ (gA t (mb 6) 24 co ++ (gA t (mb 7) 24 li)))))) (cutB (bs := [gMo mh mb (mo.1, mo.2.1, 0, mo.2.2.2.1, mo.2.2.2.2.1, mo.2.2.2.2.2), gA t (mb 0) 71 fn, gA t (mb 5) 24 le, gA t (mb 6) 24 co, gA t (mb 7) 24 li]) (cs := []) (cs' := []) (bs' := [gMo mh mb (mo.1, mo.2.1, 0, mo.2.2.2.1, mo.2.2.2.2.1, mo.2.2.2.2.2), gA t (mb 0) 71 fn, gA t (mb 5) 24 le, gA t (mb 6) 24 co, gA t (mb 7) 24 li]) [] hP hD hS hA rfl rfl rfl rfl) hS (fun hPc hDc => va_runS (As := [.int w, .int 0, .int 5]) (rest := []) ⟨hx, hb, hml, hown, hts⟩ (mtX3_in l D t w 0 5 r6 h6 _) (va_cwS 3 hts (gBS kw118 kw119 kw5 kw120) rfl rfl rfl (by decide +kernel) ⟨Nat.le_of_ble_eq_true rfl, Nat.le_of_ble_eq_true rfl⟩) (sPc_S hPc hK hDc hE) rfl rfl hl.1 rfl (lv_room (Nat.le_of_ble_eq_true rfl)) dX3_column_28 ⟨Nat.zero_le _, Nat.zero_le _⟩) (fun H locs hP hD hS => ?_)
      refine lv_if_eq (tgt := 44) hx hb dX3_column_31 (by decide) (fun c7 => ?_) (fun c7 => ?_)
      · have h := it_p c7 h
        refine lv_aload_n hx hb dX3_column_44 rfl (lv_at hl 0 rfl) ?_
        refine lv_iconst (v := 2) hx hb dX3_column_45 (by decide) ?_
        obtain ⟨r8, h8, h⟩ := ob h
        refine call_i (v := r8.1) (wc := (gMo mh mb (mo.1, mo.2.1, 0, mo.2.2.2.1, mo.2.2.2.2.1, mo.2.2.2.2.2))) (wc' := (gMo mh mb r8.2)) (ws' := (gMo mh mb r8.2 ++ (gA t (mb 0) 71 fn ++ (gA t (mb 5) 24 le ++ (gA t (mb 6) 24 co ++ (gA t (mb 7) 24 li)))))) (cutB (bs := [gMo mh mb (mo.1, mo.2.1, 0, mo.2.2.2.1, mo.2.2.2.2.1, mo.2.2.2.2.2), gA t (mb 0) 71 fn, gA t (mb 5) 24 le, gA t (mb 6) 24 co, gA t (mb 7) 24 li]) (cs := [gMo mh mb (mo.1, mo.2.1, 0, mo.2.2.2.1, mo.2.2.2.2.1, mo.2.2.2.2.2)]) (cs' := [gMo mh mb r8.2]) (bs' := [gMo mh mb r8.2, gA t (mb 0) 71 fn, gA t (mb 5) 24 le, gA t (mb 6) 24 co, gA t (mb 7) 24 li]) [0] hP hD hS hA rfl rfl rfl rfl) hS (fun hPc hDc => va_runV (As := [.int 2]) (rest := []) ⟨hx, hb, hml, hown, hts⟩ (mtX3_fails l D t mh mb (mo.1, mo.2.1, 0, mo.2.2.2.1, mo.2.2.2.2.1, mo.2.2.2.2.2) 2 r8 h8 _) (cwV 1 hts (gBV kw121 kw122 kw123 kw5 kw124) rfl rfl rfl (by decide +kernel) ⟨Nat.le_of_ble_eq_true rfl, Nat.le_of_ble_eq_true rfl⟩) (sPc_V hPc hK hDc hE (va_recv hK hP (ci := 3) (q0 := 0) rfl rfl)) rfl rfl hl.1 rfl (lv_room (Nat.le_of_ble_eq_true rfl)) dX3_column_46 ⟨Nat.zero_le _, Nat.zero_le _⟩) (fun H locs hP hD hS => ?_)
        obtain rfl := os h
        exact ret_i hx hb hr hlocks hP hK hD hS dX3_column_49
      · have h := it_n c7 h
        refine lv_aload_n hx hb dX3_column_34 rfl (lv_at hl 0 rfl) ?_
        refine lv_iload_n hx hb dX3_column_35 rfl (lv_at hl 1 rfl) ?_
        refine lv_iload_n hx hb dX3_column_36 rfl (lv_at hl 2 rfl) ?_
        refine lv_iload_n hx hb dX3_column_37 rfl (lv_at hl 3 rfl) ?_
        obtain ⟨r9, h9, h⟩ := ob h
        refine call_i (v := r9.1) (wc := (gMo mh mb (mo.1, mo.2.1, 0, mo.2.2.2.1, mo.2.2.2.2.1, mo.2.2.2.2.2) ++ (gA t (mb 0) 71 fn ++ (gA t (mb 5) 24 le ++ (gA t (mb 6) 24 co ++ (gA t (mb 7) 24 li)))))) (wc' := (gMo mh mb (mo.1, mo.2.1, 0, mo.2.2.2.1, mo.2.2.2.2.1, mo.2.2.2.2.2) ++ (gA t (mb 0) 71 fn ++ (gA t (mb 5) 24 r9.2.1 ++ (gA t (mb 6) 24 r9.2.2.1 ++ (gA t (mb 7) 24 r9.2.2.2)))))) (ws' := (gMo mh mb (mo.1, mo.2.1, 0, mo.2.2.2.1, mo.2.2.2.2.1, mo.2.2.2.2.2) ++ (gA t (mb 0) 71 fn ++ (gA t (mb 5) 24 r9.2.1 ++ (gA t (mb 6) 24 r9.2.2.1 ++ (gA t (mb 7) 24 r9.2.2.2)))))) (cutB (bs := [gMo mh mb (mo.1, mo.2.1, 0, mo.2.2.2.1, mo.2.2.2.2.1, mo.2.2.2.2.2), gA t (mb 0) 71 fn, gA t (mb 5) 24 le, gA t (mb 6) 24 co, gA t (mb 7) 24 li]) (cs := [gMo mh mb (mo.1, mo.2.1, 0, mo.2.2.2.1, mo.2.2.2.2.1, mo.2.2.2.2.2), gA t (mb 0) 71 fn, gA t (mb 5) 24 le, gA t (mb 6) 24 co, gA t (mb 7) 24 li]) (cs' := [gMo mh mb (mo.1, mo.2.1, 0, mo.2.2.2.1, mo.2.2.2.2.1, mo.2.2.2.2.2), gA t (mb 0) 71 fn, gA t (mb 5) 24 r9.2.1, gA t (mb 6) 24 r9.2.2.1, gA t (mb 7) 24 r9.2.2.2]) (bs' := [gMo mh mb (mo.1, mo.2.1, 0, mo.2.2.2.1, mo.2.2.2.2.1, mo.2.2.2.2.2), gA t (mb 0) 71 fn, gA t (mb 5) 24 r9.2.1, gA t (mb 6) 24 r9.2.2.1, gA t (mb 7) 24 r9.2.2.2]) [0, 1, 2, 3, 4] hP hD hS hA rfl rfl rfl rfl) hS (fun hPc hDc => va_runV (As := [.int v, .int k, .int w]) (rest := []) ⟨hx, hb, hml, hown, hts⟩ (mtX3_ofColumn l D t mh mb (mo.1, mo.2.1, 0, mo.2.2.2.1, mo.2.2.2.2.1, mo.2.2.2.2.2) fn le co li v k w r9 h9 _) (cwV 3 hts (gBV kw467 kw468 kw469 kw5 kw470) rfl rfl rfl (by decide +kernel) ⟨Nat.le_of_ble_eq_true rfl, Nat.le_of_ble_eq_true rfl⟩) (sPc_V hPc hK hDc hE (va_recv hK hP (ci := 3) (q0 := 0) rfl rfl)) rfl rfl hl.1 rfl (lv_room (Nat.le_of_ble_eq_true rfl)) dX3_column_38 ⟨Nat.zero_le _, Nat.zero_le _⟩) (fun H locs hP hD hS => ?_)
        refine lv_goto (tgt := 49) hx hb dX3_column_41 (by decide) ?_
        obtain rfl := os h
        exact ret_i hx hb hr hlocks hP hK hD hS dX3_column_49
    · have h := it_p c5 h
      refine lv_aload_n hx hb dX3_column_19 rfl (lv_at hl 0 rfl) ?_
      refine lv_iconst (v := 1) hx hb dX3_column_20 (by decide) ?_
      obtain ⟨r10, h10, h⟩ := ob h
      refine call_i (v := r10.1) (wc := (gMo mh mb (mo.1, mo.2.1, 0, mo.2.2.2.1, mo.2.2.2.2.1, mo.2.2.2.2.2))) (wc' := (gMo mh mb r10.2)) (ws' := (gMo mh mb r10.2 ++ (gA t (mb 0) 71 fn ++ (gA t (mb 5) 24 le ++ (gA t (mb 6) 24 co ++ (gA t (mb 7) 24 li)))))) (cutB (bs := [gMo mh mb (mo.1, mo.2.1, 0, mo.2.2.2.1, mo.2.2.2.2.1, mo.2.2.2.2.2), gA t (mb 0) 71 fn, gA t (mb 5) 24 le, gA t (mb 6) 24 co, gA t (mb 7) 24 li]) (cs := [gMo mh mb (mo.1, mo.2.1, 0, mo.2.2.2.1, mo.2.2.2.2.1, mo.2.2.2.2.2)]) (cs' := [gMo mh mb r10.2]) (bs' := [gMo mh mb r10.2, gA t (mb 0) 71 fn, gA t (mb 5) 24 le, gA t (mb 6) 24 co, gA t (mb 7) 24 li]) [0] hP hD hS hA rfl rfl rfl rfl) hS (fun hPc hDc => va_runV (As := [.int 1]) (rest := []) ⟨hx, hb, hml, hown, hts⟩ (mtX3_fails l D t mh mb (mo.1, mo.2.1, 0, mo.2.2.2.1, mo.2.2.2.2.1, mo.2.2.2.2.2) 1 r10 h10 _) (cwV 1 hts (gBV kw121 kw122 kw123 kw5 kw124) rfl rfl rfl (by decide +kernel) ⟨Nat.le_of_ble_eq_true rfl, Nat.le_of_ble_eq_true rfl⟩) (sPc_V hPc hK hDc hE (va_recv hK hP (ci := 3) (q0 := 0) rfl rfl)) rfl rfl hl.1 rfl (lv_room (Nat.le_of_ble_eq_true rfl)) dX3_column_21 ⟨Nat.zero_le _, Nat.zero_le _⟩) (fun H locs hP hD hS => ?_)
      obtain rfl := os h
      exact ret_i hx hb hr hlocks hP hK hD hS dX3_column_24

theorem dX3_ofSpeed_0 : decode cX3_ofSpeed 0 = .ok (.iload_n 2, 1) := by decide +kernel
theorem dX3_ofSpeed_1 : decode cX3_ofSpeed 1 = .ok (.iconst 1, 1) := by decide +kernel
theorem dX3_ofSpeed_2 : decode cX3_ofSpeed 2 = .ok (.if_icmp .eq 9, 3) := by decide +kernel
theorem dX3_ofSpeed_5 : decode cX3_ofSpeed 5 = .ok (.iload_n 2, 1) := by decide +kernel
theorem dX3_ofSpeed_6 : decode cX3_ofSpeed 6 = .ok (.bipush 8, 2) := by decide +kernel
theorem dX3_ofSpeed_8 : decode cX3_ofSpeed 8 = .ok (.if_icmp .ne 33, 3) := by decide +kernel
theorem dX3_ofSpeed_11 : decode cX3_ofSpeed 11 = .ok (.iload_n 2, 1) := by decide +kernel
theorem dX3_ofSpeed_12 : decode cX3_ofSpeed 12 = .ok (.iconst 1, 1) := by decide +kernel
theorem dX3_ofSpeed_13 : decode cX3_ofSpeed 13 = .ok (.if_icmp .ne 18, 3) := by decide +kernel
theorem dX3_ofSpeed_16 : decode cX3_ofSpeed 16 = .ok (.aload_n 0, 1) := by decide +kernel
theorem dX3_ofSpeed_17 : decode cX3_ofSpeed 17 = .ok (.getfield 7, 3) := by decide +kernel
theorem dX3_ofSpeed_20 : decode cX3_ofSpeed 20 = .ok (.bipush 8, 2) := by decide +kernel
theorem dX3_ofSpeed_22 : decode cX3_ofSpeed 22 = .ok (.iload_n 1, 1) := by decide +kernel
theorem dX3_ofSpeed_23 : decode cX3_ofSpeed 23 = .ok (.iadd, 1) := by decide +kernel
theorem dX3_ofSpeed_24 : decode cX3_ofSpeed 24 = .ok (.iaload, 1) := by decide +kernel
theorem dX3_ofSpeed_25 : decode cX3_ofSpeed 25 = .ok (.bipush 100, 2) := by decide +kernel
theorem dX3_ofSpeed_27 : decode cX3_ofSpeed 27 = .ok (.iadd, 1) := by decide +kernel
theorem dX3_ofSpeed_28 : decode cX3_ofSpeed 28 = .ok (.goto 12, 3) := by decide +kernel
theorem dX3_ofSpeed_31 : decode cX3_ofSpeed 31 = .ok (.aload_n 0, 1) := by decide +kernel
theorem dX3_ofSpeed_32 : decode cX3_ofSpeed 32 = .ok (.getfield 7, 3) := by decide +kernel
theorem dX3_ofSpeed_35 : decode cX3_ofSpeed 35 = .ok (.bipush 14, 2) := by decide +kernel
theorem dX3_ofSpeed_37 : decode cX3_ofSpeed 37 = .ok (.iload_n 1, 1) := by decide +kernel
theorem dX3_ofSpeed_38 : decode cX3_ofSpeed 38 = .ok (.iadd, 1) := by decide +kernel
theorem dX3_ofSpeed_39 : decode cX3_ofSpeed 39 = .ok (.iaload, 1) := by decide +kernel
theorem dX3_ofSpeed_40 : decode cX3_ofSpeed 40 = .ok (.ireturn, 1) := by decide +kernel
theorem dX3_ofSpeed_41 : decode cX3_ofSpeed 41 = .ok (.aload_n 0, 1) := by decide +kernel
theorem dX3_ofSpeed_42 : decode cX3_ofSpeed 42 = .ok (.aload_n 0, 1) := by decide +kernel
theorem dX3_ofSpeed_43 : decode cX3_ofSpeed 43 = .ok (.getfield 7, 3) := by decide +kernel
theorem dX3_ofSpeed_46 : decode cX3_ofSpeed 46 = .ok (.iload_n 1, 1) := by decide +kernel
theorem dX3_ofSpeed_47 : decode cX3_ofSpeed 47 = .ok (.invokevirtual 71, 3) := by decide +kernel
theorem dX3_ofSpeed_50 : decode cX3_ofSpeed 50 = .ok (.iload_n 2, 1) := by decide +kernel
theorem dX3_ofSpeed_51 : decode cX3_ofSpeed 51 = .ok (.ifCond .ne 10, 3) := by decide +kernel
theorem dX3_ofSpeed_54 : decode cX3_ofSpeed 54 = .ok (.iload_n 1, 1) := by decide +kernel
theorem dX3_ofSpeed_55 : decode cX3_ofSpeed 55 = .ok (.invokestatic 53, 3) := by decide +kernel
theorem dX3_ofSpeed_58 : decode cX3_ofSpeed 58 = .ok (.goto 25, 3) := by decide +kernel
theorem dX3_ofSpeed_61 : decode cX3_ofSpeed 61 = .ok (.iload_n 2, 1) := by decide +kernel
theorem dX3_ofSpeed_62 : decode cX3_ofSpeed 62 = .ok (.iconst 2, 1) := by decide +kernel
theorem dX3_ofSpeed_63 : decode cX3_ofSpeed 63 = .ok (.if_icmp .ne 14, 3) := by decide +kernel
theorem dX3_ofSpeed_66 : decode cX3_ofSpeed 66 = .ok (.aload_n 0, 1) := by decide +kernel
theorem dX3_ofSpeed_67 : decode cX3_ofSpeed 67 = .ok (.getfield 7, 3) := by decide +kernel
theorem dX3_ofSpeed_70 : decode cX3_ofSpeed 70 = .ok (.iload_n 1, 1) := by decide +kernel
theorem dX3_ofSpeed_71 : decode cX3_ofSpeed 71 = .ok (.invokestatic 56, 3) := by decide +kernel
theorem dX3_ofSpeed_74 : decode cX3_ofSpeed 74 = .ok (.goto 9, 3) := by decide +kernel
theorem dX3_ofSpeed_77 : decode cX3_ofSpeed 77 = .ok (.aload_n 0, 1) := by decide +kernel
theorem dX3_ofSpeed_78 : decode cX3_ofSpeed 78 = .ok (.iload_n 1, 1) := by decide +kernel
theorem dX3_ofSpeed_79 : decode cX3_ofSpeed 79 = .ok (.iload_n 2, 1) := by decide +kernel
theorem dX3_ofSpeed_80 : decode cX3_ofSpeed 80 = .ok (.invokevirtual 75, 3) := by decide +kernel
theorem dX3_ofSpeed_83 : decode cX3_ofSpeed 83 = .ok (.ireturn, 1) := by decide +kernel
abbrev zX3_ofSpeed : List Cond := .code yX3_ofSpeed cX3_ofSpeed 3 (some .int) :: BIG
def fX3_ofSpeed_j11 (mo : MoT) (fn : (Nat → Int32))  (v11 : (Nat → Int32) × (Nat → Int32) × (Nat → Int32) × Int32 × Int32) : Option (Int32 × (Nat → Int32) × (Nat → Int32) × (Nat → Int32)) := (if v11.2.2.2.2 = 1 then gd (pin (8 + v11.2.2.2.1) 71) (some ((fn (Int32.toNatClampNeg (8 + v11.2.2.2.1))) + 100, v11.1, v11.2.1, v11.2.2.1)) else gd (pin (14 + v11.2.2.2.1) 71) (some (fn (Int32.toNatClampNeg (14 + v11.2.2.2.1)), v11.1, v11.2.1, v11.2.2.1)))
def fX3_ofSpeed (mo : MoT) (fn : (Nat → Int32)) (le : (Nat → Int32)) (co : (Nat → Int32)) (li : (Nat → Int32)) (v : Int32) (w : Int32) : Option (Int32 × (Nat → Int32) × (Nat → Int32) × (Nat → Int32)) := (if w = 1 then fX3_ofSpeed_j11 mo fn (le, co, li, v, w) else (if w = 8 then fX3_ofSpeed_j11 mo fn (le, co, li, v, w) else (fX3_lays mo fn le co li v).bind (fun r3 => (if w = 0 then (fX3_wanted v).bind (fun r8 => some (r8, r3.1, r3.2.1, r3.2.2)) else (if w = 2 then (fX3_start fn v).bind (fun r7 => some (r7, r3.1, r3.2.1, r3.2.2)) else (fX3_tells mo r3.2.2 v w).bind (fun r6 => some (r6, r3.1, r3.2.1, r3.2.2)))))))
set_option maxHeartbeats 4000000 in
set_option maxRecDepth 100000 in
theorem mtX3_ofSpeed (l : Launch) (D : va_G) (t : Nat → ClassId) (mh : Nat) (mb : Nat → Nat) (mo : MoT) (fn : (Nat → Int32)) (le : (Nat → Int32)) (co : (Nat → Int32)) (li : (Nat → Int32)) (v : Int32) (w : Int32) (out : Int32 × (Nat → Int32) × (Nat → Int32) × (Nat → Int32)) (h : fX3_ofSpeed mo fn le co li v w = some out)  (sz : Nat) : Met l yX3_ofSpeed zX3_ofSpeed ({ frames := 3, cells := 0, slots := 0, locals := 68 }) (sPc D t (gMo mh mb mo ++ (gA t (mb 0) 71 fn ++ (gA t (mb 5) 24 le ++ (gA t (mb 6) 24 co ++ (gA t (mb 7) 24 li))))) sz [.ref mh, .int v, .int w]) (qI D t (gMo mh mb mo ++ (gA t (mb 0) 71 fn ++ (gA t (mb 5) 24 out.2.1 ++ (gA t (mb 6) 24 out.2.2.1 ++ (gA t (mb 7) 24 out.2.2.2))))) out.1 (va_A (gMo mh mb mo ++ (gA t (mb 0) 71 fn ++ (gA t (mb 5) 24 le ++ (gA t (mb 6) 24 co ++ (gA t (mb 7) 24 li))))) sz)) 0 0 (va_A (gMo mh mb mo ++ (gA t (mb 0) 71 fn ++ (gA t (mb 5) 24 le ++ (gA t (mb 6) 24 co ++ (gA t (mb 7) 24 li))))) sz) := by
  refine met_of (Qf := fun A => qI D t (gMo mh mb mo ++ (gA t (mb 0) 71 fn ++ (gA t (mb 5) 24 out.2.1 ++ (gA t (mb 6) 24 out.2.2.1 ++ (gA t (mb 7) 24 out.2.2.2))))) out.1 A) (cc := cX3_ofSpeed) (maxL := 3) (ret := some .int) (by decide) rfl (Nat.le_of_ble_eq_true rfl) ?_
  intro p e s m args below meth c A hx hb hr hml hts hown hlocks hA hP hK hD hE hS ls hl
  have htB : ∀ w ∈ BIG, w.before args s = true := fun w h => hts w (List.mem_cons_of_mem _ h)
  have hown : s.vm.findClass RX3 = some m.cls := hown
  have hl : lv_has ls 3 [(0, .ref mh), (1, .int v), (2, .int w)] := hl
  unfold fX3_ofSpeed at h
  have J11 : ∀ v11 : (Nat → Int32) × (Nat → Int32) × (Nat → Int32) × Int32 × Int32, fX3_ofSpeed_j11 mo fn v11 = some out → ∀ (H : Heap) (locs : List Loc), va_P D vwCl (gMo mh mb mo ++ (gA t (mb 0) 71 fn ++ (gA t (mb 5) 24 v11.1 ++ (gA t (mb 6) 24 v11.2.1 ++ (gA t (mb 7) 24 v11.2.2.1))))) H → va_D A (gMo mh mb mo ++ (gA t (mb 0) 71 fn ++ (gA t (mb 5) 24 v11.1 ++ (gA t (mb 6) 24 v11.2.1 ++ (gA t (mb 7) 24 v11.2.2.1))))) → va_S A s.heap H locs → ∀ ls : Array Slot, lv_has ls 3 [(0, .ref mh), (1, .int v11.2.2.2.1), (2, .int v11.2.2.2.2)] → W p l e ({ frames := 3, cells := 0, slots := 0, locals := 68 }) s m args below meth c H locs 0 0 (MQ below (qI D t (gMo mh mb mo ++ (gA t (mb 0) 71 fn ++ (gA t (mb 5) 24 out.2.1 ++ (gA t (mb 6) 24 out.2.2.1 ++ (gA t (mb 7) 24 out.2.2.2))))) out.1 A) args s 0 0 A) (F0 m 11 ls []) := by
    intro v11 h H locs hP hD hS ls hl
    unfold fX3_ofSpeed_j11 at h
    refine lv_iload_n hx hb dX3_ofSpeed_11 rfl (lv_at hl 2 rfl) ?_
    refine lv_iconst (v := 1) hx hb dX3_ofSpeed_12 (by decide) ?_
    refine lv_icmp_ne (tgt := 31) hx hb dX3_ofSpeed_13 (by decide) (fun c9 => ?_) (fun c9 => ?_)
    · have h := it_n c9 h
      refine lv_aload_n hx hb dX3_ofSpeed_31 rfl (lv_at hl 0 rfl) ?_
      refine va_get (D := D) (ci := 3) (v := .ref (mb 0)) (C := RX3) (T := TX3) (N := 14) hx hb htB inlX3 hown hK hP 0 rfl rfl 0 (by decide) (htB _ kw54) (fun _ h9 => h9) rfl dX3_ofSpeed_32 ?_
      refine lv_bipush (v := 14) hx hb dX3_ofSpeed_35 (by decide) ?_
      refine lv_iload_n hx hb dX3_ofSpeed_37 rfl (lv_at hl 1 rfl) ?_
      refine lv_iadd hx hb dX3_ofSpeed_38 ?_
      obtain ⟨g10, h⟩ := og h
      refine va_iald hx hb hK hP 1 0 rfl rfl (pin_in g10) dX3_ofSpeed_39 ?_
      obtain rfl := os h
      exact ret_i hx hb hr hlocks hP hK hD hS dX3_ofSpeed_40
    · have h := it_p c9 h
      refine lv_aload_n hx hb dX3_ofSpeed_16 rfl (lv_at hl 0 rfl) ?_
      refine va_get (D := D) (ci := 3) (v := .ref (mb 0)) (C := RX3) (T := TX3) (N := 14) hx hb htB inlX3 hown hK hP 0 rfl rfl 0 (by decide) (htB _ kw54) (fun _ h9 => h9) rfl dX3_ofSpeed_17 ?_
      refine lv_bipush (v := 8) hx hb dX3_ofSpeed_20 (by decide) ?_
      refine lv_iload_n hx hb dX3_ofSpeed_22 rfl (lv_at hl 1 rfl) ?_
      refine lv_iadd hx hb dX3_ofSpeed_23 ?_
      obtain ⟨g11, h⟩ := og h
      refine va_iald hx hb hK hP 1 0 rfl rfl (pin_in g11) dX3_ofSpeed_24 ?_
      refine lv_bipush (v := 100) hx hb dX3_ofSpeed_25 (by decide) ?_
      refine lv_iadd hx hb dX3_ofSpeed_27 ?_
      refine lv_goto (tgt := 40) hx hb dX3_ofSpeed_28 (by decide) ?_
      obtain rfl := os h
      exact ret_i hx hb hr hlocks hP hK hD hS dX3_ofSpeed_40
  refine lv_iload_n hx hb dX3_ofSpeed_0 rfl (lv_at hl 2 rfl) ?_
  refine lv_iconst (v := 1) hx hb dX3_ofSpeed_1 (by decide) ?_
  refine lv_icmp_eq (tgt := 11) hx hb dX3_ofSpeed_2 (by decide) (fun c1 => ?_) (fun c1 => ?_)
  · have h := it_p c1 h
    exact J11 (le, co, li, v, w) h _ _ hP hD hS _ (lv_sub hl [0, 1, 2] rfl)
  · have h := it_n c1 h
    refine lv_iload_n hx hb dX3_ofSpeed_5 rfl (lv_at hl 2 rfl) ?_
    refine lv_bipush (v := 8) hx hb dX3_ofSpeed_6 (by decide) ?_
    refine lv_icmp_ne (tgt := 41) hx hb dX3_ofSpeed_8 (by decide) (fun c2 => ?_) (fun c2 => ?_)
    · have h := it_n c2 h
      refine lv_aload_n hx hb dX3_ofSpeed_41 rfl (lv_at hl 0 rfl) ?_
      refine lv_aload_n hx hb dX3_ofSpeed_42 rfl (lv_at hl 0 rfl) ?_
      refine va_get (D := D) (ci := 3) (v := .ref (mb 0)) (C := RX3) (T := TX3) (N := 14) hx hb htB inlX3 hown hK hP 0 rfl rfl 0 (by decide) (htB _ kw54) (fun _ h9 => h9) rfl dX3_ofSpeed_43 ?_
      refine lv_iload_n hx hb dX3_ofSpeed_46 rfl (lv_at hl 1 rfl) ?_
      obtain ⟨r3, h3, h⟩ := ob h
      refine call_v (wc := (gMo mh mb mo ++ (gA t (mb 0) 71 fn ++ (gA t (mb 5) 24 le ++ (gA t (mb 6) 24 co ++ (gA t (mb 7) 24 li)))))) (wc' := (gMo mh mb mo ++ (gA t (mb 0) 71 fn ++ (gA t (mb 5) 24 r3.1 ++ (gA t (mb 6) 24 r3.2.1 ++ (gA t (mb 7) 24 r3.2.2)))))) (ws' := (gMo mh mb mo ++ (gA t (mb 0) 71 fn ++ (gA t (mb 5) 24 r3.1 ++ (gA t (mb 6) 24 r3.2.1 ++ (gA t (mb 7) 24 r3.2.2)))))) (cutB (bs := [gMo mh mb mo, gA t (mb 0) 71 fn, gA t (mb 5) 24 le, gA t (mb 6) 24 co, gA t (mb 7) 24 li]) (cs := [gMo mh mb mo, gA t (mb 0) 71 fn, gA t (mb 5) 24 le, gA t (mb 6) 24 co, gA t (mb 7) 24 li]) (cs' := [gMo mh mb mo, gA t (mb 0) 71 fn, gA t (mb 5) 24 r3.1, gA t (mb 6) 24 r3.2.1, gA t (mb 7) 24 r3.2.2]) (bs' := [gMo mh mb mo, gA t (mb 0) 71 fn, gA t (mb 5) 24 r3.1, gA t (mb 6) 24 r3.2.1, gA t (mb 7) 24 r3.2.2]) [0, 1, 2, 3, 4] hP hD hS hA rfl rfl rfl rfl) hS (fun hPc hDc => va_runV (As := [.ref (mb 0), .int v]) (rest := []) ⟨hx, hb, hml, hown, hts⟩ (mtX3_lays l D t mh mb mo (mb 0) fn le co li v r3 h3 _) (cwV 2 hts (gBV kw295 kw296 kw297 kw5 kw298) rfl rfl rfl (by decide +kernel) ⟨Nat.le_of_ble_eq_true rfl, Nat.le_of_ble_eq_true rfl⟩) (sPc_V hPc hK hDc hE (va_recv hK hP (ci := 3) (q0 := 0) rfl rfl)) rfl rfl hl.1 rfl (lv_room (Nat.le_of_ble_eq_true rfl)) dX3_ofSpeed_47 ⟨Nat.zero_le _, Nat.zero_le _⟩) (fun H locs hP hD hS => ?_)
      refine lv_iload_n hx hb dX3_ofSpeed_50 rfl (lv_at hl 2 rfl) ?_
      refine lv_if_ne (tgt := 61) hx hb dX3_ofSpeed_51 (by decide) (fun c4 => ?_) (fun c4 => ?_)
      · have h := it_n c4 h
        refine lv_iload_n hx hb dX3_ofSpeed_61 rfl (lv_at hl 2 rfl) ?_
        refine lv_iconst (v := 2) hx hb dX3_ofSpeed_62 (by decide) ?_
        refine lv_icmp_ne (tgt := 77) hx hb dX3_ofSpeed_63 (by decide) (fun c5 => ?_) (fun c5 => ?_)
        · have h := it_n c5 h
          refine lv_aload_n hx hb dX3_ofSpeed_77 rfl (lv_at hl 0 rfl) ?_
          refine lv_iload_n hx hb dX3_ofSpeed_78 rfl (lv_at hl 1 rfl) ?_
          refine lv_iload_n hx hb dX3_ofSpeed_79 rfl (lv_at hl 2 rfl) ?_
          obtain ⟨r6, h6, h⟩ := ob h
          refine call_i (v := r6) (wc := (gMo mh mb mo ++ (gA t (mb 7) 24 r3.2.2))) (wc' := (gMo mh mb mo ++ (gA t (mb 7) 24 r3.2.2))) (ws' := (gMo mh mb mo ++ (gA t (mb 0) 71 fn ++ (gA t (mb 5) 24 r3.1 ++ (gA t (mb 6) 24 r3.2.1 ++ (gA t (mb 7) 24 r3.2.2)))))) (cutB (bs := [gMo mh mb mo, gA t (mb 0) 71 fn, gA t (mb 5) 24 r3.1, gA t (mb 6) 24 r3.2.1, gA t (mb 7) 24 r3.2.2]) (cs := [gMo mh mb mo, gA t (mb 7) 24 r3.2.2]) (cs' := [gMo mh mb mo, gA t (mb 7) 24 r3.2.2]) (bs' := [gMo mh mb mo, gA t (mb 0) 71 fn, gA t (mb 5) 24 r3.1, gA t (mb 6) 24 r3.2.1, gA t (mb 7) 24 r3.2.2]) [0, 4] hP hD hS hA rfl rfl rfl rfl) hS (fun hPc hDc => va_runV (As := [.int v, .int w]) (rest := []) ⟨hx, hb, hml, hown, hts⟩ (mtX3_tells l D t mh mb mo r3.2.2 v w r6 h6 _) (cwV 2 hts (gBV kw311 kw312 kw313 kw5 kw314) rfl rfl rfl (by decide +kernel) ⟨Nat.le_of_ble_eq_true rfl, Nat.le_of_ble_eq_true rfl⟩) (sPc_V hPc hK hDc hE (va_recv hK hP (ci := 3) (q0 := 0) rfl rfl)) rfl rfl hl.1 rfl (lv_room (Nat.le_of_ble_eq_true rfl)) dX3_ofSpeed_80 ⟨Nat.zero_le _, Nat.zero_le _⟩) (fun H locs hP hD hS => ?_)
          obtain rfl := os h
          exact ret_i hx hb hr hlocks hP hK hD hS dX3_ofSpeed_83
        · have h := it_p c5 h
          refine lv_aload_n hx hb dX3_ofSpeed_66 rfl (lv_at hl 0 rfl) ?_
          refine va_get (D := D) (ci := 3) (v := .ref (mb 0)) (C := RX3) (T := TX3) (N := 14) hx hb htB inlX3 hown hK hP 0 rfl rfl 0 (by decide) (htB _ kw54) (fun _ h9 => h9) rfl dX3_ofSpeed_67 ?_
          refine lv_iload_n hx hb dX3_ofSpeed_70 rfl (lv_at hl 1 rfl) ?_
          obtain ⟨r7, h7, h⟩ := ob h
          refine call_i (v := r7) (wc := (gA t (mb 0) 71 fn)) (wc' := (gA t (mb 0) 71 fn)) (ws' := (gMo mh mb mo ++ (gA t (mb 0) 71 fn ++ (gA t (mb 5) 24 r3.1 ++ (gA t (mb 6) 24 r3.2.1 ++ (gA t (mb 7) 24 r3.2.2)))))) (cutB (bs := [gMo mh mb mo, gA t (mb 0) 71 fn, gA t (mb 5) 24 r3.1, gA t (mb 6) 24 r3.2.1, gA t (mb 7) 24 r3.2.2]) (cs := [gA t (mb 0) 71 fn]) (cs' := [gA t (mb 0) 71 fn]) (bs' := [gMo mh mb mo, gA t (mb 0) 71 fn, gA t (mb 5) 24 r3.1, gA t (mb 6) 24 r3.2.1, gA t (mb 7) 24 r3.2.2]) [1] hP hD hS hA rfl rfl rfl rfl) hS (fun hPc hDc => va_runS (As := [.ref (mb 0), .int v]) (rest := []) ⟨hx, hb, hml, hown, hts⟩ (mtX3_start l D t (mb 0) fn v r7 h7 _) (va_cwS 2 hts (gBS kw299 kw300 kw5 kw301) rfl rfl rfl (by decide +kernel) ⟨Nat.le_of_ble_eq_true rfl, Nat.le_of_ble_eq_true rfl⟩) (sPc_S hPc hK hDc hE) rfl rfl hl.1 rfl (lv_room (Nat.le_of_ble_eq_true rfl)) dX3_ofSpeed_71 ⟨Nat.zero_le _, Nat.zero_le _⟩) (fun H locs hP hD hS => ?_)
          refine lv_goto (tgt := 83) hx hb dX3_ofSpeed_74 (by decide) ?_
          obtain rfl := os h
          exact ret_i hx hb hr hlocks hP hK hD hS dX3_ofSpeed_83
      · have h := it_p c4 h
        refine lv_iload_n hx hb dX3_ofSpeed_54 rfl (lv_at hl 1 rfl) ?_
        obtain ⟨r8, h8, h⟩ := ob h
        refine call_i (v := r8) (wc := ([] : va_W)) (wc' := ([] : va_W)) (ws' := (gMo mh mb mo ++ (gA t (mb 0) 71 fn ++ (gA t (mb 5) 24 r3.1 ++ (gA t (mb 6) 24 r3.2.1 ++ (gA t (mb 7) 24 r3.2.2)))))) (cutB (bs := [gMo mh mb mo, gA t (mb 0) 71 fn, gA t (mb 5) 24 r3.1, gA t (mb 6) 24 r3.2.1, gA t (mb 7) 24 r3.2.2]) (cs := []) (cs' := []) (bs' := [gMo mh mb mo, gA t (mb 0) 71 fn, gA t (mb 5) 24 r3.1, gA t (mb 6) 24 r3.2.1, gA t (mb 7) 24 r3.2.2]) [] hP hD hS hA rfl rfl rfl rfl) hS (fun hPc hDc => va_runS (As := [.int v]) (rest := []) ⟨hx, hb, hml, hown, hts⟩ (mtX3_wanted l D t v r8 h8 _) (va_cwS 1 hts (gBS kw302 kw303 kw5 kw304) rfl rfl rfl (by decide +kernel) ⟨Nat.le_of_ble_eq_true rfl, Nat.le_of_ble_eq_true rfl⟩) (sPc_S hPc hK hDc hE) rfl rfl hl.1 rfl (lv_room (Nat.le_of_ble_eq_true rfl)) dX3_ofSpeed_55 ⟨Nat.zero_le _, Nat.zero_le _⟩) (fun H locs hP hD hS => ?_)
        refine lv_goto (tgt := 83) hx hb dX3_ofSpeed_58 (by decide) ?_
        obtain rfl := os h
        exact ret_i hx hb hr hlocks hP hK hD hS dX3_ofSpeed_83
    · have h := it_p c2 h
      exact J11 (le, co, li, v, w) h _ _ hP hD hS _ (lv_sub hl [0, 1, 2] rfl)

theorem dX3_speed_0 : decode cX3_speed 0 = .ok (.aload_n 0, 1) := by decide +kernel
theorem dX3_speed_1 : decode cX3_speed 1 = .ok (.iconst 0, 1) := by decide +kernel
theorem dX3_speed_2 : decode cX3_speed 2 = .ok (.putfield 34, 3) := by decide +kernel
theorem dX3_speed_5 : decode cX3_speed 5 = .ok (.iload_n 1, 1) := by decide +kernel
theorem dX3_speed_6 : decode cX3_speed 6 = .ok (.invokestatic 92, 3) := by decide +kernel
theorem dX3_speed_9 : decode cX3_speed 9 = .ok (.ifCond .ne 9, 3) := by decide +kernel
theorem dX3_speed_12 : decode cX3_speed 12 = .ok (.aload_n 0, 1) := by decide +kernel
theorem dX3_speed_13 : decode cX3_speed 13 = .ok (.iconst 1, 1) := by decide +kernel
theorem dX3_speed_14 : decode cX3_speed 14 = .ok (.invokevirtual 49, 3) := by decide +kernel
theorem dX3_speed_17 : decode cX3_speed 17 = .ok (.ireturn, 1) := by decide +kernel
theorem dX3_speed_18 : decode cX3_speed 18 = .ok (.iload_n 2, 1) := by decide +kernel
theorem dX3_speed_19 : decode cX3_speed 19 = .ok (.iconst 0, 1) := by decide +kernel
theorem dX3_speed_20 : decode cX3_speed 20 = .ok (.bipush 8, 2) := by decide +kernel
theorem dX3_speed_22 : decode cX3_speed 22 = .ok (.invokestatic 38, 3) := by decide +kernel
theorem dX3_speed_25 : decode cX3_speed 25 = .ok (.ifCond .eq 12, 3) := by decide +kernel
theorem dX3_speed_28 : decode cX3_speed 28 = .ok (.aload_n 0, 1) := by decide +kernel
theorem dX3_speed_29 : decode cX3_speed 29 = .ok (.iload_n 1, 1) := by decide +kernel
theorem dX3_speed_30 : decode cX3_speed 30 = .ok (.iload_n 2, 1) := by decide +kernel
theorem dX3_speed_31 : decode cX3_speed 31 = .ok (.invokevirtual 145, 3) := by decide +kernel
theorem dX3_speed_34 : decode cX3_speed 34 = .ok (.goto 8, 3) := by decide +kernel
theorem dX3_speed_37 : decode cX3_speed 37 = .ok (.aload_n 0, 1) := by decide +kernel
theorem dX3_speed_38 : decode cX3_speed 38 = .ok (.iconst 2, 1) := by decide +kernel
theorem dX3_speed_39 : decode cX3_speed 39 = .ok (.invokevirtual 49, 3) := by decide +kernel
theorem dX3_speed_42 : decode cX3_speed 42 = .ok (.ireturn, 1) := by decide +kernel
abbrev zX3_speed : List Cond := .code yX3_speed cX3_speed 3 (some .int) :: BIG
def fX3_speed (mo : MoT) (fn : (Nat → Int32)) (le : (Nat → Int32)) (co : (Nat → Int32)) (li : (Nat → Int32)) (v : Int32) (w : Int32) : Option (Int32 × MoT × (Nat → Int32) × (Nat → Int32) × (Nat → Int32)) := (fX3_isSpeed v).bind (fun r1 => (if (b2i r1) = 0 then (fX3_fails (mo.1, mo.2.1, 0, mo.2.2.2.1, mo.2.2.2.2.1, mo.2.2.2.2.2) 1).bind (fun r7 => some (r7.1, r7.2, le, co, li)) else (fX3_in w 0 8).bind (fun r3 => (if (b2i r3) = 0 then (fX3_fails (mo.1, mo.2.1, 0, mo.2.2.2.1, mo.2.2.2.2.1, mo.2.2.2.2.2) 2).bind (fun r5 => some (r5.1, r5.2, le, co, li)) else (fX3_ofSpeed (mo.1, mo.2.1, 0, mo.2.2.2.1, mo.2.2.2.2.1, mo.2.2.2.2.2) fn le co li v w).bind (fun r6 => some (r6.1, (mo.1, mo.2.1, 0, mo.2.2.2.1, mo.2.2.2.2.1, mo.2.2.2.2.2), r6.2.1, r6.2.2.1, r6.2.2.2))))))
set_option maxHeartbeats 4000000 in
set_option maxRecDepth 100000 in
theorem mtX3_speed (l : Launch) (D : va_G) (t : Nat → ClassId) (mh : Nat) (mb : Nat → Nat) (mo : MoT) (fn : (Nat → Int32)) (le : (Nat → Int32)) (co : (Nat → Int32)) (li : (Nat → Int32)) (v : Int32) (w : Int32) (out : Int32 × MoT × (Nat → Int32) × (Nat → Int32) × (Nat → Int32)) (h : fX3_speed mo fn le co li v w = some out)  (sz : Nat) : Met l yX3_speed zX3_speed ({ frames := 4, cells := 0, slots := 0, locals := 90 }) (sPc D t (gMo mh mb mo ++ (gA t (mb 0) 71 fn ++ (gA t (mb 5) 24 le ++ (gA t (mb 6) 24 co ++ (gA t (mb 7) 24 li))))) sz [.ref mh, .int v, .int w]) (qI D t (gMo mh mb out.2.1 ++ (gA t (mb 0) 71 fn ++ (gA t (mb 5) 24 out.2.2.1 ++ (gA t (mb 6) 24 out.2.2.2.1 ++ (gA t (mb 7) 24 out.2.2.2.2))))) out.1 (va_A (gMo mh mb mo ++ (gA t (mb 0) 71 fn ++ (gA t (mb 5) 24 le ++ (gA t (mb 6) 24 co ++ (gA t (mb 7) 24 li))))) sz)) 0 0 (va_A (gMo mh mb mo ++ (gA t (mb 0) 71 fn ++ (gA t (mb 5) 24 le ++ (gA t (mb 6) 24 co ++ (gA t (mb 7) 24 li))))) sz) := by
  refine met_of (Qf := fun A => qI D t (gMo mh mb out.2.1 ++ (gA t (mb 0) 71 fn ++ (gA t (mb 5) 24 out.2.2.1 ++ (gA t (mb 6) 24 out.2.2.2.1 ++ (gA t (mb 7) 24 out.2.2.2.2))))) out.1 A) (cc := cX3_speed) (maxL := 3) (ret := some .int) (by decide) rfl (Nat.le_of_ble_eq_true rfl) ?_
  intro p e s m args below meth c A hx hb hr hml hts hown hlocks hA hP hK hD hE hS ls hl
  have htB : ∀ w ∈ BIG, w.before args s = true := fun w h => hts w (List.mem_cons_of_mem _ h)
  have hown : s.vm.findClass RX3 = some m.cls := hown
  have hl : lv_has ls 3 [(0, .ref mh), (1, .int v), (2, .int w)] := hl
  unfold fX3_speed at h
  refine lv_aload_n hx hb dX3_speed_0 rfl (lv_at hl 0 rfl) ?_
  refine lv_iconst (v := 0) hx hb dX3_speed_1 (by decide) ?_
  refine va_put (D := D) (ci := 3) (v := .int 0) (ty := .int) (C := RX3) (T := TX3) (N := 14) hx hb htB inlX3 tyX3 tyX3_ok nmX3 hown hK hP hD hS 0 rfl rfl 6 (by decide) (htB _ kw114) (fun _ h9 => h9) rfl (by decide +kernel) rfl rfl (Nat.le_of_ble_eq_true rfl) dX3_speed_2 (fun H locs hP hD hS => ?_)
  have hP : va_P D vwCl (gMo mh mb (mo.1, mo.2.1, 0, mo.2.2.2.1, mo.2.2.2.2.1, mo.2.2.2.2.2) ++ (gA t (mb 0) 71 fn ++ (gA t (mb 5) 24 le ++ (gA t (mb 6) 24 co ++ (gA t (mb 7) 24 li))))) H := hP
  have hD : va_D A (gMo mh mb (mo.1, mo.2.1, 0, mo.2.2.2.1, mo.2.2.2.2.1, mo.2.2.2.2.2) ++ (gA t (mb 0) 71 fn ++ (gA t (mb 5) 24 le ++ (gA t (mb 6) 24 co ++ (gA t (mb 7) 24 li))))) := hD
  refine lv_iload_n hx hb dX3_speed_5 rfl (lv_at hl 1 rfl) ?_
  obtain ⟨r1, h1, h⟩ := ob h
  refine call_i (v := b2i r1) (wc := ([] : va_W)) (wc' := ([] : va_W)) (ws' := (gMo mh mb (mo.1, mo.2.1, 0, mo.2.2.2.1, mo.2.2.2.2.1, mo.2.2.2.2.2) ++ (gA t (mb 0) 71 fn ++ (gA t (mb 5) 24 le ++ (gA t (mb 6) 24 co ++ (gA t (mb 7) 24 li)))))) (cutB (bs := [gMo mh mb (mo.1, mo.2.1, 0, mo.2.2.2.1, mo.2.2.2.2.1, mo.2.2.2.2.2), gA t (mb 0) 71 fn, gA t (mb 5) 24 le, gA t (mb 6) 24 co, gA t (mb 7) 24 li]) (cs := []) (cs' := []) (bs' := [gMo mh mb (mo.1, mo.2.1, 0, mo.2.2.2.1, mo.2.2.2.2.1, mo.2.2.2.2.2), gA t (mb 0) 71 fn, gA t (mb 5) 24 le, gA t (mb 6) 24 co, gA t (mb 7) 24 li]) [] hP hD hS hA rfl rfl rfl rfl) hS (fun hPc hDc => va_runS (As := [.int v]) (rest := []) ⟨hx, hb, hml, hown, hts⟩ (mtX3_isSpeed l D t v r1 h1 _) (va_cwS 1 hts (gBS kw186 kw187 kw5 kw188) rfl rfl rfl (by decide +kernel) ⟨Nat.le_of_ble_eq_true rfl, Nat.le_of_ble_eq_true rfl⟩) (sPc_S hPc hK hDc hE) rfl rfl hl.1 rfl (lv_room (Nat.le_of_ble_eq_true rfl)) dX3_speed_6 ⟨Nat.zero_le _, Nat.zero_le _⟩) (fun H locs hP hD hS => ?_)
  refine lv_if_ne (tgt := 18) hx hb dX3_speed_9 (by decide) (fun c2 => ?_) (fun c2 => ?_)
  · have h := it_n c2 h
    refine lv_iload_n hx hb dX3_speed_18 rfl (lv_at hl 2 rfl) ?_
    refine lv_iconst (v := 0) hx hb dX3_speed_19 (by decide) ?_
    refine lv_bipush (v := 8) hx hb dX3_speed_20 (by decide) ?_
    obtain ⟨r3, h3, h⟩ := ob h
    refine call_i (v := b2i r3) (wc := ([] : va_W)) (wc' := ([] : va_W)) (ws' := (gMo mh mb (mo.1, mo.2.1, 0, mo.2.2.2.1, mo.2.2.2.2.1, mo.2.2.2.2.2) ++ (gA t (mb 0) 71 fn ++ (gA t (mb 5) 24 le ++ (gA t (mb 6) 24 co ++ (gA t (mb 7) 24 li)))))) (cutB (bs := [gMo mh mb (mo.1, mo.2.1, 0, mo.2.2.2.1, mo.2.2.2.2.1, mo.2.2.2.2.2), gA t (mb 0) 71 fn, gA t (mb 5) 24 le, gA t (mb 6) 24 co, gA t (mb 7) 24 li]) (cs := []) (cs' := []) (bs' := [gMo mh mb (mo.1, mo.2.1, 0, mo.2.2.2.1, mo.2.2.2.2.1, mo.2.2.2.2.2), gA t (mb 0) 71 fn, gA t (mb 5) 24 le, gA t (mb 6) 24 co, gA t (mb 7) 24 li]) [] hP hD hS hA rfl rfl rfl rfl) hS (fun hPc hDc => va_runS (As := [.int w, .int 0, .int 8]) (rest := []) ⟨hx, hb, hml, hown, hts⟩ (mtX3_in l D t w 0 8 r3 h3 _) (va_cwS 3 hts (gBS kw118 kw119 kw5 kw120) rfl rfl rfl (by decide +kernel) ⟨Nat.le_of_ble_eq_true rfl, Nat.le_of_ble_eq_true rfl⟩) (sPc_S hPc hK hDc hE) rfl rfl hl.1 rfl (lv_room (Nat.le_of_ble_eq_true rfl)) dX3_speed_22 ⟨Nat.zero_le _, Nat.zero_le _⟩) (fun H locs hP hD hS => ?_)
    refine lv_if_eq (tgt := 37) hx hb dX3_speed_25 (by decide) (fun c4 => ?_) (fun c4 => ?_)
    · have h := it_p c4 h
      refine lv_aload_n hx hb dX3_speed_37 rfl (lv_at hl 0 rfl) ?_
      refine lv_iconst (v := 2) hx hb dX3_speed_38 (by decide) ?_
      obtain ⟨r5, h5, h⟩ := ob h
      refine call_i (v := r5.1) (wc := (gMo mh mb (mo.1, mo.2.1, 0, mo.2.2.2.1, mo.2.2.2.2.1, mo.2.2.2.2.2))) (wc' := (gMo mh mb r5.2)) (ws' := (gMo mh mb r5.2 ++ (gA t (mb 0) 71 fn ++ (gA t (mb 5) 24 le ++ (gA t (mb 6) 24 co ++ (gA t (mb 7) 24 li)))))) (cutB (bs := [gMo mh mb (mo.1, mo.2.1, 0, mo.2.2.2.1, mo.2.2.2.2.1, mo.2.2.2.2.2), gA t (mb 0) 71 fn, gA t (mb 5) 24 le, gA t (mb 6) 24 co, gA t (mb 7) 24 li]) (cs := [gMo mh mb (mo.1, mo.2.1, 0, mo.2.2.2.1, mo.2.2.2.2.1, mo.2.2.2.2.2)]) (cs' := [gMo mh mb r5.2]) (bs' := [gMo mh mb r5.2, gA t (mb 0) 71 fn, gA t (mb 5) 24 le, gA t (mb 6) 24 co, gA t (mb 7) 24 li]) [0] hP hD hS hA rfl rfl rfl rfl) hS (fun hPc hDc => va_runV (As := [.int 2]) (rest := []) ⟨hx, hb, hml, hown, hts⟩ (mtX3_fails l D t mh mb (mo.1, mo.2.1, 0, mo.2.2.2.1, mo.2.2.2.2.1, mo.2.2.2.2.2) 2 r5 h5 _) (cwV 1 hts (gBV kw121 kw122 kw123 kw5 kw124) rfl rfl rfl (by decide +kernel) ⟨Nat.le_of_ble_eq_true rfl, Nat.le_of_ble_eq_true rfl⟩) (sPc_V hPc hK hDc hE (va_recv hK hP (ci := 3) (q0 := 0) rfl rfl)) rfl rfl hl.1 rfl (lv_room (Nat.le_of_ble_eq_true rfl)) dX3_speed_39 ⟨Nat.zero_le _, Nat.zero_le _⟩) (fun H locs hP hD hS => ?_)
      obtain rfl := os h
      exact ret_i hx hb hr hlocks hP hK hD hS dX3_speed_42
    · have h := it_n c4 h
      refine lv_aload_n hx hb dX3_speed_28 rfl (lv_at hl 0 rfl) ?_
      refine lv_iload_n hx hb dX3_speed_29 rfl (lv_at hl 1 rfl) ?_
      refine lv_iload_n hx hb dX3_speed_30 rfl (lv_at hl 2 rfl) ?_
      obtain ⟨r6, h6, h⟩ := ob h
      refine call_i (v := r6.1) (wc := (gMo mh mb (mo.1, mo.2.1, 0, mo.2.2.2.1, mo.2.2.2.2.1, mo.2.2.2.2.2) ++ (gA t (mb 0) 71 fn ++ (gA t (mb 5) 24 le ++ (gA t (mb 6) 24 co ++ (gA t (mb 7) 24 li)))))) (wc' := (gMo mh mb (mo.1, mo.2.1, 0, mo.2.2.2.1, mo.2.2.2.2.1, mo.2.2.2.2.2) ++ (gA t (mb 0) 71 fn ++ (gA t (mb 5) 24 r6.2.1 ++ (gA t (mb 6) 24 r6.2.2.1 ++ (gA t (mb 7) 24 r6.2.2.2)))))) (ws' := (gMo mh mb (mo.1, mo.2.1, 0, mo.2.2.2.1, mo.2.2.2.2.1, mo.2.2.2.2.2) ++ (gA t (mb 0) 71 fn ++ (gA t (mb 5) 24 r6.2.1 ++ (gA t (mb 6) 24 r6.2.2.1 ++ (gA t (mb 7) 24 r6.2.2.2)))))) (cutB (bs := [gMo mh mb (mo.1, mo.2.1, 0, mo.2.2.2.1, mo.2.2.2.2.1, mo.2.2.2.2.2), gA t (mb 0) 71 fn, gA t (mb 5) 24 le, gA t (mb 6) 24 co, gA t (mb 7) 24 li]) (cs := [gMo mh mb (mo.1, mo.2.1, 0, mo.2.2.2.1, mo.2.2.2.2.1, mo.2.2.2.2.2), gA t (mb 0) 71 fn, gA t (mb 5) 24 le, gA t (mb 6) 24 co, gA t (mb 7) 24 li]) (cs' := [gMo mh mb (mo.1, mo.2.1, 0, mo.2.2.2.1, mo.2.2.2.2.1, mo.2.2.2.2.2), gA t (mb 0) 71 fn, gA t (mb 5) 24 r6.2.1, gA t (mb 6) 24 r6.2.2.1, gA t (mb 7) 24 r6.2.2.2]) (bs' := [gMo mh mb (mo.1, mo.2.1, 0, mo.2.2.2.1, mo.2.2.2.2.1, mo.2.2.2.2.2), gA t (mb 0) 71 fn, gA t (mb 5) 24 r6.2.1, gA t (mb 6) 24 r6.2.2.1, gA t (mb 7) 24 r6.2.2.2]) [0, 1, 2, 3, 4] hP hD hS hA rfl rfl rfl rfl) hS (fun hPc hDc => va_runV (As := [.int v, .int w]) (rest := []) ⟨hx, hb, hml, hown, hts⟩ (mtX3_ofSpeed l D t mh mb (mo.1, mo.2.1, 0, mo.2.2.2.1, mo.2.2.2.2.1, mo.2.2.2.2.2) fn le co li v w r6 h6 _) (cwV 2 hts (gBV kw488 kw489 kw490 kw5 kw491) rfl rfl rfl (by decide +kernel) ⟨Nat.le_of_ble_eq_true rfl, Nat.le_of_ble_eq_true rfl⟩) (sPc_V hPc hK hDc hE (va_recv hK hP (ci := 3) (q0 := 0) rfl rfl)) rfl rfl hl.1 rfl (lv_room (Nat.le_of_ble_eq_true rfl)) dX3_speed_31 ⟨Nat.zero_le _, Nat.zero_le _⟩) (fun H locs hP hD hS => ?_)
      refine lv_goto (tgt := 42) hx hb dX3_speed_34 (by decide) ?_
      obtain rfl := os h
      exact ret_i hx hb hr hlocks hP hK hD hS dX3_speed_42
  · have h := it_p c2 h
    refine lv_aload_n hx hb dX3_speed_12 rfl (lv_at hl 0 rfl) ?_
    refine lv_iconst (v := 1) hx hb dX3_speed_13 (by decide) ?_
    obtain ⟨r7, h7, h⟩ := ob h
    refine call_i (v := r7.1) (wc := (gMo mh mb (mo.1, mo.2.1, 0, mo.2.2.2.1, mo.2.2.2.2.1, mo.2.2.2.2.2))) (wc' := (gMo mh mb r7.2)) (ws' := (gMo mh mb r7.2 ++ (gA t (mb 0) 71 fn ++ (gA t (mb 5) 24 le ++ (gA t (mb 6) 24 co ++ (gA t (mb 7) 24 li)))))) (cutB (bs := [gMo mh mb (mo.1, mo.2.1, 0, mo.2.2.2.1, mo.2.2.2.2.1, mo.2.2.2.2.2), gA t (mb 0) 71 fn, gA t (mb 5) 24 le, gA t (mb 6) 24 co, gA t (mb 7) 24 li]) (cs := [gMo mh mb (mo.1, mo.2.1, 0, mo.2.2.2.1, mo.2.2.2.2.1, mo.2.2.2.2.2)]) (cs' := [gMo mh mb r7.2]) (bs' := [gMo mh mb r7.2, gA t (mb 0) 71 fn, gA t (mb 5) 24 le, gA t (mb 6) 24 co, gA t (mb 7) 24 li]) [0] hP hD hS hA rfl rfl rfl rfl) hS (fun hPc hDc => va_runV (As := [.int 1]) (rest := []) ⟨hx, hb, hml, hown, hts⟩ (mtX3_fails l D t mh mb (mo.1, mo.2.1, 0, mo.2.2.2.1, mo.2.2.2.2.1, mo.2.2.2.2.2) 1 r7 h7 _) (cwV 1 hts (gBV kw121 kw122 kw123 kw5 kw124) rfl rfl rfl (by decide +kernel) ⟨Nat.le_of_ble_eq_true rfl, Nat.le_of_ble_eq_true rfl⟩) (sPc_V hPc hK hDc hE (va_recv hK hP (ci := 3) (q0 := 0) rfl rfl)) rfl rfl hl.1 rfl (lv_room (Nat.le_of_ble_eq_true rfl)) dX3_speed_14 ⟨Nat.zero_le _, Nat.zero_le _⟩) (fun H locs hP hD hS => ?_)
    obtain rfl := os h
    exact ret_i hx hb hr hlocks hP hK hD hS dX3_speed_17

theorem dX3_counted_0 : decode cX3_counted 0 = .ok (.iload_n 1, 1) := by decide +kernel
theorem dX3_counted_1 : decode cX3_counted 1 = .ok (.iconst 2, 1) := by decide +kernel
theorem dX3_counted_2 : decode cX3_counted 2 = .ok (.if_icmp .ge 15, 3) := by decide +kernel
theorem dX3_counted_5 : decode cX3_counted 5 = .ok (.aload_n 0, 1) := by decide +kernel
theorem dX3_counted_6 : decode cX3_counted 6 = .ok (.getfield 7, 3) := by decide +kernel
theorem dX3_counted_9 : decode cX3_counted 9 = .ok (.bipush 20, 2) := by decide +kernel
theorem dX3_counted_11 : decode cX3_counted 11 = .ok (.iload_n 1, 1) := by decide +kernel
theorem dX3_counted_12 : decode cX3_counted 12 = .ok (.iadd, 1) := by decide +kernel
theorem dX3_counted_13 : decode cX3_counted 13 = .ok (.iaload, 1) := by decide +kernel
theorem dX3_counted_14 : decode cX3_counted 14 = .ok (.goto 37, 3) := by decide +kernel
theorem dX3_counted_17 : decode cX3_counted 17 = .ok (.iload_n 1, 1) := by decide +kernel
theorem dX3_counted_18 : decode cX3_counted 18 = .ok (.iconst 2, 1) := by decide +kernel
theorem dX3_counted_19 : decode cX3_counted 19 = .ok (.if_icmp .ne 13, 3) := by decide +kernel
theorem dX3_counted_22 : decode cX3_counted 22 = .ok (.aload_n 0, 1) := by decide +kernel
theorem dX3_counted_23 : decode cX3_counted 23 = .ok (.getfield 7, 3) := by decide +kernel
theorem dX3_counted_26 : decode cX3_counted 26 = .ok (.invokestatic 64, 3) := by decide +kernel
theorem dX3_counted_29 : decode cX3_counted 29 = .ok (.goto 22, 3) := by decide +kernel
theorem dX3_counted_32 : decode cX3_counted 32 = .ok (.iload_n 1, 1) := by decide +kernel
theorem dX3_counted_33 : decode cX3_counted 33 = .ok (.iconst 3, 1) := by decide +kernel
theorem dX3_counted_34 : decode cX3_counted 34 = .ok (.if_icmp .ne 13, 3) := by decide +kernel
theorem dX3_counted_37 : decode cX3_counted 37 = .ok (.aload_n 0, 1) := by decide +kernel
theorem dX3_counted_38 : decode cX3_counted 38 = .ok (.getfield 7, 3) := by decide +kernel
theorem dX3_counted_41 : decode cX3_counted 41 = .ok (.bipush 22, 2) := by decide +kernel
theorem dX3_counted_43 : decode cX3_counted 43 = .ok (.iaload, 1) := by decide +kernel
theorem dX3_counted_44 : decode cX3_counted 44 = .ok (.goto 7, 3) := by decide +kernel
theorem dX3_counted_47 : decode cX3_counted 47 = .ok (.aload_n 0, 1) := by decide +kernel
theorem dX3_counted_48 : decode cX3_counted 48 = .ok (.getfield 42, 3) := by decide +kernel
theorem dX3_counted_51 : decode cX3_counted 51 = .ok (.ireturn, 1) := by decide +kernel
abbrev zX3_counted : List Cond := .code yX3_counted cX3_counted 2 (some .int) :: BIG
def fX3_counted (mo : MoT) (fn : (Nat → Int32)) (w : Int32) : Option (Int32) := (if 2 ≤ w then (if w = 2 then (fX3_bounced fn).bind (fun r4 => some r4) else (if w = 3 then some (fn (Int32.toNatClampNeg 22)) else some mo.1)) else gd (pin (20 + w) 71) (some (fn (Int32.toNatClampNeg (20 + w)))))
set_option maxHeartbeats 4000000 in
set_option maxRecDepth 100000 in
theorem mtX3_counted (l : Launch) (D : va_G) (t : Nat → ClassId) (mh : Nat) (mb : Nat → Nat) (mo : MoT) (fn : (Nat → Int32)) (w : Int32) (out : Int32) (h : fX3_counted mo fn w = some out)  (sz : Nat) : Met l yX3_counted zX3_counted ({ frames := 1, cells := 0, slots := 0, locals := 21 }) (sPc D t (gMo mh mb mo ++ (gA t (mb 0) 71 fn)) sz [.ref mh, .int w]) (qI D t (gMo mh mb mo ++ (gA t (mb 0) 71 fn)) out (va_A (gMo mh mb mo ++ (gA t (mb 0) 71 fn)) sz)) 0 0 (va_A (gMo mh mb mo ++ (gA t (mb 0) 71 fn)) sz) := by
  refine met_of (Qf := fun A => qI D t (gMo mh mb mo ++ (gA t (mb 0) 71 fn)) out A) (cc := cX3_counted) (maxL := 2) (ret := some .int) (by decide) rfl (Nat.le_of_ble_eq_true rfl) ?_
  intro p e s m args below meth c A hx hb hr hml hts hown hlocks hA hP hK hD hE hS ls hl
  have htB : ∀ w ∈ BIG, w.before args s = true := fun w h => hts w (List.mem_cons_of_mem _ h)
  have hown : s.vm.findClass RX3 = some m.cls := hown
  have hl : lv_has ls 2 [(0, .ref mh), (1, .int w)] := hl
  unfold fX3_counted at h
  refine lv_iload_n hx hb dX3_counted_0 rfl (lv_at hl 1 rfl) ?_
  refine lv_iconst (v := 2) hx hb dX3_counted_1 (by decide) ?_
  refine lv_icmp_ge (tgt := 17) hx hb dX3_counted_2 (by decide) (fun c1 => ?_) (fun c1 => ?_)
  · have h := it_p c1 h
    refine lv_iload_n hx hb dX3_counted_17 rfl (lv_at hl 1 rfl) ?_
    refine lv_iconst (v := 2) hx hb dX3_counted_18 (by decide) ?_
    refine lv_icmp_ne (tgt := 32) hx hb dX3_counted_19 (by decide) (fun c2 => ?_) (fun c2 => ?_)
    · have h := it_n c2 h
      refine lv_iload_n hx hb dX3_counted_32 rfl (lv_at hl 1 rfl) ?_
      refine lv_iconst (v := 3) hx hb dX3_counted_33 (by decide) ?_
      refine lv_icmp_ne (tgt := 47) hx hb dX3_counted_34 (by decide) (fun c3 => ?_) (fun c3 => ?_)
      · have h := it_n c3 h
        refine lv_aload_n hx hb dX3_counted_47 rfl (lv_at hl 0 rfl) ?_
        refine va_get (D := D) (ci := 3) (v := .int mo.1) (C := RX3) (T := TX3) (N := 14) hx hb htB inlX3 hown hK hP 0 rfl rfl 3 (by decide) (htB _ kw129) (fun _ h9 => h9) rfl dX3_counted_48 ?_
        obtain rfl := os h
        exact ret_i hx hb hr hlocks hP hK hD hS dX3_counted_51
      · have h := it_p c3 h
        refine lv_aload_n hx hb dX3_counted_37 rfl (lv_at hl 0 rfl) ?_
        refine va_get (D := D) (ci := 3) (v := .ref (mb 0)) (C := RX3) (T := TX3) (N := 14) hx hb htB inlX3 hown hK hP 0 rfl rfl 0 (by decide) (htB _ kw54) (fun _ h9 => h9) rfl dX3_counted_38 ?_
        refine lv_bipush (v := 22) hx hb dX3_counted_41 (by decide) ?_
        refine va_iald hx hb hK hP 1 0 rfl rfl (pin_in (by decide)) dX3_counted_43 ?_
        refine lv_goto (tgt := 51) hx hb dX3_counted_44 (by decide) ?_
        obtain rfl := os h
        exact ret_i hx hb hr hlocks hP hK hD hS dX3_counted_51
    · have h := it_p c2 h
      refine lv_aload_n hx hb dX3_counted_22 rfl (lv_at hl 0 rfl) ?_
      refine va_get (D := D) (ci := 3) (v := .ref (mb 0)) (C := RX3) (T := TX3) (N := 14) hx hb htB inlX3 hown hK hP 0 rfl rfl 0 (by decide) (htB _ kw54) (fun _ h9 => h9) rfl dX3_counted_23 ?_
      obtain ⟨r4, h4, h⟩ := ob h
      refine call_i (v := r4) (wc := (gA t (mb 0) 71 fn)) (wc' := (gA t (mb 0) 71 fn)) (ws' := (gMo mh mb mo ++ (gA t (mb 0) 71 fn))) (cutB (bs := [gMo mh mb mo, gA t (mb 0) 71 fn]) (cs := [gA t (mb 0) 71 fn]) (cs' := [gA t (mb 0) 71 fn]) (bs' := [gMo mh mb mo, gA t (mb 0) 71 fn]) [1] hP hD hS hA rfl rfl rfl rfl) hS (fun hPc hDc => va_runS (As := [.ref (mb 0)]) (rest := []) ⟨hx, hb, hml, hown, hts⟩ (mtX3_bounced l D t (mb 0) fn r4 h4 _) (va_cwS 1 hts (gBS kw308 kw309 kw5 kw310) rfl rfl rfl (by decide +kernel) ⟨Nat.le_of_ble_eq_true rfl, Nat.le_of_ble_eq_true rfl⟩) (sPc_S hPc hK hDc hE) rfl rfl hl.1 rfl (lv_room (Nat.le_of_ble_eq_true rfl)) dX3_counted_26 ⟨Nat.zero_le _, Nat.zero_le _⟩) (fun H locs hP hD hS => ?_)
      refine lv_goto (tgt := 51) hx hb dX3_counted_29 (by decide) ?_
      obtain rfl := os h
      exact ret_i hx hb hr hlocks hP hK hD hS dX3_counted_51
  · have h := it_n c1 h
    refine lv_aload_n hx hb dX3_counted_5 rfl (lv_at hl 0 rfl) ?_
    refine va_get (D := D) (ci := 3) (v := .ref (mb 0)) (C := RX3) (T := TX3) (N := 14) hx hb htB inlX3 hown hK hP 0 rfl rfl 0 (by decide) (htB _ kw54) (fun _ h9 => h9) rfl dX3_counted_6 ?_
    refine lv_bipush (v := 20) hx hb dX3_counted_9 (by decide) ?_
    refine lv_iload_n hx hb dX3_counted_11 rfl (lv_at hl 1 rfl) ?_
    refine lv_iadd hx hb dX3_counted_12 ?_
    obtain ⟨g5, h⟩ := og h
    refine va_iald hx hb hK hP 1 0 rfl rfl (pin_in g5) dX3_counted_13 ?_
    refine lv_goto (tgt := 51) hx hb dX3_counted_14 (by decide) ?_
    obtain rfl := os h
    exact ret_i hx hb hr hlocks hP hK hD hS dX3_counted_51

theorem dX3_count_0 : decode cX3_count 0 = .ok (.aload_n 0, 1) := by decide +kernel
theorem dX3_count_1 : decode cX3_count 1 = .ok (.iconst 0, 1) := by decide +kernel
theorem dX3_count_2 : decode cX3_count 2 = .ok (.putfield 34, 3) := by decide +kernel
theorem dX3_count_5 : decode cX3_count 5 = .ok (.iload_n 1, 1) := by decide +kernel
theorem dX3_count_6 : decode cX3_count 6 = .ok (.iconst 0, 1) := by decide +kernel
theorem dX3_count_7 : decode cX3_count 7 = .ok (.iconst 4, 1) := by decide +kernel
theorem dX3_count_8 : decode cX3_count 8 = .ok (.invokestatic 38, 3) := by decide +kernel
theorem dX3_count_11 : decode cX3_count 11 = .ok (.ifCond .eq 11, 3) := by decide +kernel
theorem dX3_count_14 : decode cX3_count 14 = .ok (.aload_n 0, 1) := by decide +kernel
theorem dX3_count_15 : decode cX3_count 15 = .ok (.iload_n 1, 1) := by decide +kernel
theorem dX3_count_16 : decode cX3_count 16 = .ok (.invokevirtual 148, 3) := by decide +kernel
theorem dX3_count_19 : decode cX3_count 19 = .ok (.goto 8, 3) := by decide +kernel
theorem dX3_count_22 : decode cX3_count 22 = .ok (.aload_n 0, 1) := by decide +kernel
theorem dX3_count_23 : decode cX3_count 23 = .ok (.iconst 1, 1) := by decide +kernel
theorem dX3_count_24 : decode cX3_count 24 = .ok (.invokevirtual 49, 3) := by decide +kernel
theorem dX3_count_27 : decode cX3_count 27 = .ok (.ireturn, 1) := by decide +kernel
abbrev zX3_count : List Cond := .code yX3_count cX3_count 2 (some .int) :: BIG
def fX3_count (mo : MoT) (fn : (Nat → Int32)) (w : Int32) : Option (Int32 × MoT) := (fX3_in w 0 4).bind (fun r1 => (if (b2i r1) = 0 then (fX3_fails (mo.1, mo.2.1, 0, mo.2.2.2.1, mo.2.2.2.2.1, mo.2.2.2.2.2) 1).bind (fun r3 => some (r3.1, r3.2)) else (fX3_counted (mo.1, mo.2.1, 0, mo.2.2.2.1, mo.2.2.2.2.1, mo.2.2.2.2.2) fn w).bind (fun r4 => some (r4, (mo.1, mo.2.1, 0, mo.2.2.2.1, mo.2.2.2.2.1, mo.2.2.2.2.2)))))
set_option maxHeartbeats 4000000 in
set_option maxRecDepth 100000 in
theorem mtX3_count (l : Launch) (D : va_G) (t : Nat → ClassId) (mh : Nat) (mb : Nat → Nat) (mo : MoT) (fn : (Nat → Int32)) (w : Int32) (out : Int32 × MoT) (h : fX3_count mo fn w = some out)  (sz : Nat) : Met l yX3_count zX3_count ({ frames := 2, cells := 0, slots := 0, locals := 42 }) (sPc D t (gMo mh mb mo ++ (gA t (mb 0) 71 fn)) sz [.ref mh, .int w]) (qI D t (gMo mh mb out.2 ++ (gA t (mb 0) 71 fn)) out.1 (va_A (gMo mh mb mo ++ (gA t (mb 0) 71 fn)) sz)) 0 0 (va_A (gMo mh mb mo ++ (gA t (mb 0) 71 fn)) sz) := by
  refine met_of (Qf := fun A => qI D t (gMo mh mb out.2 ++ (gA t (mb 0) 71 fn)) out.1 A) (cc := cX3_count) (maxL := 2) (ret := some .int) (by decide) rfl (Nat.le_of_ble_eq_true rfl) ?_
  intro p e s m args below meth c A hx hb hr hml hts hown hlocks hA hP hK hD hE hS ls hl
  have htB : ∀ w ∈ BIG, w.before args s = true := fun w h => hts w (List.mem_cons_of_mem _ h)
  have hown : s.vm.findClass RX3 = some m.cls := hown
  have hl : lv_has ls 2 [(0, .ref mh), (1, .int w)] := hl
  unfold fX3_count at h
  refine lv_aload_n hx hb dX3_count_0 rfl (lv_at hl 0 rfl) ?_
  refine lv_iconst (v := 0) hx hb dX3_count_1 (by decide) ?_
  refine va_put (D := D) (ci := 3) (v := .int 0) (ty := .int) (C := RX3) (T := TX3) (N := 14) hx hb htB inlX3 tyX3 tyX3_ok nmX3 hown hK hP hD hS 0 rfl rfl 6 (by decide) (htB _ kw114) (fun _ h9 => h9) rfl (by decide +kernel) rfl rfl (Nat.le_of_ble_eq_true rfl) dX3_count_2 (fun H locs hP hD hS => ?_)
  have hP : va_P D vwCl (gMo mh mb (mo.1, mo.2.1, 0, mo.2.2.2.1, mo.2.2.2.2.1, mo.2.2.2.2.2) ++ (gA t (mb 0) 71 fn)) H := hP
  have hD : va_D A (gMo mh mb (mo.1, mo.2.1, 0, mo.2.2.2.1, mo.2.2.2.2.1, mo.2.2.2.2.2) ++ (gA t (mb 0) 71 fn)) := hD
  refine lv_iload_n hx hb dX3_count_5 rfl (lv_at hl 1 rfl) ?_
  refine lv_iconst (v := 0) hx hb dX3_count_6 (by decide) ?_
  refine lv_iconst (v := 4) hx hb dX3_count_7 (by decide) ?_
  obtain ⟨r1, h1, h⟩ := ob h
  refine call_i (v := b2i r1) (wc := ([] : va_W)) (wc' := ([] : va_W)) (ws' := (gMo mh mb (mo.1, mo.2.1, 0, mo.2.2.2.1, mo.2.2.2.2.1, mo.2.2.2.2.2) ++ (gA t (mb 0) 71 fn))) (cutB (bs := [gMo mh mb (mo.1, mo.2.1, 0, mo.2.2.2.1, mo.2.2.2.2.1, mo.2.2.2.2.2), gA t (mb 0) 71 fn]) (cs := []) (cs' := []) (bs' := [gMo mh mb (mo.1, mo.2.1, 0, mo.2.2.2.1, mo.2.2.2.2.1, mo.2.2.2.2.2), gA t (mb 0) 71 fn]) [] hP hD hS hA rfl rfl rfl rfl) hS (fun hPc hDc => va_runS (As := [.int w, .int 0, .int 4]) (rest := []) ⟨hx, hb, hml, hown, hts⟩ (mtX3_in l D t w 0 4 r1 h1 _) (va_cwS 3 hts (gBS kw118 kw119 kw5 kw120) rfl rfl rfl (by decide +kernel) ⟨Nat.le_of_ble_eq_true rfl, Nat.le_of_ble_eq_true rfl⟩) (sPc_S hPc hK hDc hE) rfl rfl hl.1 rfl (lv_room (Nat.le_of_ble_eq_true rfl)) dX3_count_8 ⟨Nat.zero_le _, Nat.zero_le _⟩) (fun H locs hP hD hS => ?_)
  refine lv_if_eq (tgt := 22) hx hb dX3_count_11 (by decide) (fun c2 => ?_) (fun c2 => ?_)
  · have h := it_p c2 h
    refine lv_aload_n hx hb dX3_count_22 rfl (lv_at hl 0 rfl) ?_
    refine lv_iconst (v := 1) hx hb dX3_count_23 (by decide) ?_
    obtain ⟨r3, h3, h⟩ := ob h
    refine call_i (v := r3.1) (wc := (gMo mh mb (mo.1, mo.2.1, 0, mo.2.2.2.1, mo.2.2.2.2.1, mo.2.2.2.2.2))) (wc' := (gMo mh mb r3.2)) (ws' := (gMo mh mb r3.2 ++ (gA t (mb 0) 71 fn))) (cutB (bs := [gMo mh mb (mo.1, mo.2.1, 0, mo.2.2.2.1, mo.2.2.2.2.1, mo.2.2.2.2.2), gA t (mb 0) 71 fn]) (cs := [gMo mh mb (mo.1, mo.2.1, 0, mo.2.2.2.1, mo.2.2.2.2.1, mo.2.2.2.2.2)]) (cs' := [gMo mh mb r3.2]) (bs' := [gMo mh mb r3.2, gA t (mb 0) 71 fn]) [0] hP hD hS hA rfl rfl rfl rfl) hS (fun hPc hDc => va_runV (As := [.int 1]) (rest := []) ⟨hx, hb, hml, hown, hts⟩ (mtX3_fails l D t mh mb (mo.1, mo.2.1, 0, mo.2.2.2.1, mo.2.2.2.2.1, mo.2.2.2.2.2) 1 r3 h3 _) (cwV 1 hts (gBV kw121 kw122 kw123 kw5 kw124) rfl rfl rfl (by decide +kernel) ⟨Nat.le_of_ble_eq_true rfl, Nat.le_of_ble_eq_true rfl⟩) (sPc_V hPc hK hDc hE (va_recv hK hP (ci := 3) (q0 := 0) rfl rfl)) rfl rfl hl.1 rfl (lv_room (Nat.le_of_ble_eq_true rfl)) dX3_count_24 ⟨Nat.zero_le _, Nat.zero_le _⟩) (fun H locs hP hD hS => ?_)
    obtain rfl := os h
    exact ret_i hx hb hr hlocks hP hK hD hS dX3_count_27
  · have h := it_n c2 h
    refine lv_aload_n hx hb dX3_count_14 rfl (lv_at hl 0 rfl) ?_
    refine lv_iload_n hx hb dX3_count_15 rfl (lv_at hl 1 rfl) ?_
    obtain ⟨r4, h4, h⟩ := ob h
    refine call_i (v := r4) (wc := (gMo mh mb (mo.1, mo.2.1, 0, mo.2.2.2.1, mo.2.2.2.2.1, mo.2.2.2.2.2) ++ (gA t (mb 0) 71 fn))) (wc' := (gMo mh mb (mo.1, mo.2.1, 0, mo.2.2.2.1, mo.2.2.2.2.1, mo.2.2.2.2.2) ++ (gA t (mb 0) 71 fn))) (ws' := (gMo mh mb (mo.1, mo.2.1, 0, mo.2.2.2.1, mo.2.2.2.2.1, mo.2.2.2.2.2) ++ (gA t (mb 0) 71 fn))) (cutB (bs := [gMo mh mb (mo.1, mo.2.1, 0, mo.2.2.2.1, mo.2.2.2.2.1, mo.2.2.2.2.2), gA t (mb 0) 71 fn]) (cs := [gMo mh mb (mo.1, mo.2.1, 0, mo.2.2.2.1, mo.2.2.2.2.1, mo.2.2.2.2.2), gA t (mb 0) 71 fn]) (cs' := [gMo mh mb (mo.1, mo.2.1, 0, mo.2.2.2.1, mo.2.2.2.2.1, mo.2.2.2.2.2), gA t (mb 0) 71 fn]) (bs' := [gMo mh mb (mo.1, mo.2.1, 0, mo.2.2.2.1, mo.2.2.2.2.1, mo.2.2.2.2.2), gA t (mb 0) 71 fn]) [0, 1] hP hD hS hA rfl rfl rfl rfl) hS (fun hPc hDc => va_runV (As := [.int w]) (rest := []) ⟨hx, hb, hml, hown, hts⟩ (mtX3_counted l D t mh mb (mo.1, mo.2.1, 0, mo.2.2.2.1, mo.2.2.2.2.1, mo.2.2.2.2.2) fn w r4 h4 _) (cwV 1 hts (gBV kw507 kw508 kw509 kw5 kw510) rfl rfl rfl (by decide +kernel) ⟨Nat.le_of_ble_eq_true rfl, Nat.le_of_ble_eq_true rfl⟩) (sPc_V hPc hK hDc hE (va_recv hK hP (ci := 3) (q0 := 0) rfl rfl)) rfl rfl hl.1 rfl (lv_room (Nat.le_of_ble_eq_true rfl)) dX3_count_16 ⟨Nat.zero_le _, Nat.zero_le _⟩) (fun H locs hP hD hS => ?_)
    refine lv_goto (tgt := 27) hx hb dX3_count_19 (by decide) ?_
    obtain rfl := os h
    exact ret_i hx hb hr hlocks hP hK hD hS dX3_count_27

theorem dX3_setting_0 : decode cX3_setting 0 = .ok (.aload_n 0, 1) := by decide +kernel
theorem dX3_setting_1 : decode cX3_setting 1 = .ok (.iconst 0, 1) := by decide +kernel
theorem dX3_setting_2 : decode cX3_setting 2 = .ok (.putfield 34, 3) := by decide +kernel
theorem dX3_setting_5 : decode cX3_setting 5 = .ok (.iload_n 1, 1) := by decide +kernel
theorem dX3_setting_6 : decode cX3_setting 6 = .ok (.iconst 0, 1) := by decide +kernel
theorem dX3_setting_7 : decode cX3_setting 7 = .ok (.iconst 3, 1) := by decide +kernel
theorem dX3_setting_8 : decode cX3_setting 8 = .ok (.invokestatic 38, 3) := by decide +kernel
theorem dX3_setting_11 : decode cX3_setting 11 = .ok (.ifCond .eq 12, 3) := by decide +kernel
theorem dX3_setting_14 : decode cX3_setting 14 = .ok (.aload_n 0, 1) := by decide +kernel
theorem dX3_setting_15 : decode cX3_setting 15 = .ok (.getfield 7, 3) := by decide +kernel
theorem dX3_setting_18 : decode cX3_setting 18 = .ok (.iload_n 1, 1) := by decide +kernel
theorem dX3_setting_19 : decode cX3_setting 19 = .ok (.iaload, 1) := by decide +kernel
theorem dX3_setting_20 : decode cX3_setting 20 = .ok (.goto 8, 3) := by decide +kernel
theorem dX3_setting_23 : decode cX3_setting 23 = .ok (.aload_n 0, 1) := by decide +kernel
theorem dX3_setting_24 : decode cX3_setting 24 = .ok (.iconst 1, 1) := by decide +kernel
theorem dX3_setting_25 : decode cX3_setting 25 = .ok (.invokevirtual 49, 3) := by decide +kernel
theorem dX3_setting_28 : decode cX3_setting 28 = .ok (.ireturn, 1) := by decide +kernel
abbrev zX3_setting : List Cond := .code yX3_setting cX3_setting 2 (some .int) :: BIG
def fX3_setting (mo : MoT) (fn : (Nat → Int32)) (w : Int32) : Option (Int32 × MoT) := (fX3_in w 0 3).bind (fun r1 => (if (b2i r1) = 0 then (fX3_fails (mo.1, mo.2.1, 0, mo.2.2.2.1, mo.2.2.2.2.1, mo.2.2.2.2.2) 1).bind (fun r3 => some (r3.1, r3.2)) else gd (pin w 71) (some (fn (Int32.toNatClampNeg w), (mo.1, mo.2.1, 0, mo.2.2.2.1, mo.2.2.2.2.1, mo.2.2.2.2.2)))))
set_option maxHeartbeats 4000000 in
set_option maxRecDepth 100000 in
theorem mtX3_setting (l : Launch) (D : va_G) (t : Nat → ClassId) (mh : Nat) (mb : Nat → Nat) (mo : MoT) (fn : (Nat → Int32)) (w : Int32) (out : Int32 × MoT) (h : fX3_setting mo fn w = some out)  (sz : Nat) : Met l yX3_setting zX3_setting ({ frames := 1, cells := 0, slots := 0, locals := 22 }) (sPc D t (gMo mh mb mo ++ (gA t (mb 0) 71 fn)) sz [.ref mh, .int w]) (qI D t (gMo mh mb out.2 ++ (gA t (mb 0) 71 fn)) out.1 (va_A (gMo mh mb mo ++ (gA t (mb 0) 71 fn)) sz)) 0 0 (va_A (gMo mh mb mo ++ (gA t (mb 0) 71 fn)) sz) := by
  refine met_of (Qf := fun A => qI D t (gMo mh mb out.2 ++ (gA t (mb 0) 71 fn)) out.1 A) (cc := cX3_setting) (maxL := 2) (ret := some .int) (by decide) rfl (Nat.le_of_ble_eq_true rfl) ?_
  intro p e s m args below meth c A hx hb hr hml hts hown hlocks hA hP hK hD hE hS ls hl
  have htB : ∀ w ∈ BIG, w.before args s = true := fun w h => hts w (List.mem_cons_of_mem _ h)
  have hown : s.vm.findClass RX3 = some m.cls := hown
  have hl : lv_has ls 2 [(0, .ref mh), (1, .int w)] := hl
  unfold fX3_setting at h
  refine lv_aload_n hx hb dX3_setting_0 rfl (lv_at hl 0 rfl) ?_
  refine lv_iconst (v := 0) hx hb dX3_setting_1 (by decide) ?_
  refine va_put (D := D) (ci := 3) (v := .int 0) (ty := .int) (C := RX3) (T := TX3) (N := 14) hx hb htB inlX3 tyX3 tyX3_ok nmX3 hown hK hP hD hS 0 rfl rfl 6 (by decide) (htB _ kw114) (fun _ h9 => h9) rfl (by decide +kernel) rfl rfl (Nat.le_of_ble_eq_true rfl) dX3_setting_2 (fun H locs hP hD hS => ?_)
  have hP : va_P D vwCl (gMo mh mb (mo.1, mo.2.1, 0, mo.2.2.2.1, mo.2.2.2.2.1, mo.2.2.2.2.2) ++ (gA t (mb 0) 71 fn)) H := hP
  have hD : va_D A (gMo mh mb (mo.1, mo.2.1, 0, mo.2.2.2.1, mo.2.2.2.2.1, mo.2.2.2.2.2) ++ (gA t (mb 0) 71 fn)) := hD
  refine lv_iload_n hx hb dX3_setting_5 rfl (lv_at hl 1 rfl) ?_
  refine lv_iconst (v := 0) hx hb dX3_setting_6 (by decide) ?_
  refine lv_iconst (v := 3) hx hb dX3_setting_7 (by decide) ?_
  obtain ⟨r1, h1, h⟩ := ob h
  refine call_i (v := b2i r1) (wc := ([] : va_W)) (wc' := ([] : va_W)) (ws' := (gMo mh mb (mo.1, mo.2.1, 0, mo.2.2.2.1, mo.2.2.2.2.1, mo.2.2.2.2.2) ++ (gA t (mb 0) 71 fn))) (cutB (bs := [gMo mh mb (mo.1, mo.2.1, 0, mo.2.2.2.1, mo.2.2.2.2.1, mo.2.2.2.2.2), gA t (mb 0) 71 fn]) (cs := []) (cs' := []) (bs' := [gMo mh mb (mo.1, mo.2.1, 0, mo.2.2.2.1, mo.2.2.2.2.1, mo.2.2.2.2.2), gA t (mb 0) 71 fn]) [] hP hD hS hA rfl rfl rfl rfl) hS (fun hPc hDc => va_runS (As := [.int w, .int 0, .int 3]) (rest := []) ⟨hx, hb, hml, hown, hts⟩ (mtX3_in l D t w 0 3 r1 h1 _) (va_cwS 3 hts (gBS kw118 kw119 kw5 kw120) rfl rfl rfl (by decide +kernel) ⟨Nat.le_of_ble_eq_true rfl, Nat.le_of_ble_eq_true rfl⟩) (sPc_S hPc hK hDc hE) rfl rfl hl.1 rfl (lv_room (Nat.le_of_ble_eq_true rfl)) dX3_setting_8 ⟨Nat.zero_le _, Nat.zero_le _⟩) (fun H locs hP hD hS => ?_)
  refine lv_if_eq (tgt := 23) hx hb dX3_setting_11 (by decide) (fun c2 => ?_) (fun c2 => ?_)
  · have h := it_p c2 h
    refine lv_aload_n hx hb dX3_setting_23 rfl (lv_at hl 0 rfl) ?_
    refine lv_iconst (v := 1) hx hb dX3_setting_24 (by decide) ?_
    obtain ⟨r3, h3, h⟩ := ob h
    refine call_i (v := r3.1) (wc := (gMo mh mb (mo.1, mo.2.1, 0, mo.2.2.2.1, mo.2.2.2.2.1, mo.2.2.2.2.2))) (wc' := (gMo mh mb r3.2)) (ws' := (gMo mh mb r3.2 ++ (gA t (mb 0) 71 fn))) (cutB (bs := [gMo mh mb (mo.1, mo.2.1, 0, mo.2.2.2.1, mo.2.2.2.2.1, mo.2.2.2.2.2), gA t (mb 0) 71 fn]) (cs := [gMo mh mb (mo.1, mo.2.1, 0, mo.2.2.2.1, mo.2.2.2.2.1, mo.2.2.2.2.2)]) (cs' := [gMo mh mb r3.2]) (bs' := [gMo mh mb r3.2, gA t (mb 0) 71 fn]) [0] hP hD hS hA rfl rfl rfl rfl) hS (fun hPc hDc => va_runV (As := [.int 1]) (rest := []) ⟨hx, hb, hml, hown, hts⟩ (mtX3_fails l D t mh mb (mo.1, mo.2.1, 0, mo.2.2.2.1, mo.2.2.2.2.1, mo.2.2.2.2.2) 1 r3 h3 _) (cwV 1 hts (gBV kw121 kw122 kw123 kw5 kw124) rfl rfl rfl (by decide +kernel) ⟨Nat.le_of_ble_eq_true rfl, Nat.le_of_ble_eq_true rfl⟩) (sPc_V hPc hK hDc hE (va_recv hK hP (ci := 3) (q0 := 0) rfl rfl)) rfl rfl hl.1 rfl (lv_room (Nat.le_of_ble_eq_true rfl)) dX3_setting_25 ⟨Nat.zero_le _, Nat.zero_le _⟩) (fun H locs hP hD hS => ?_)
    obtain rfl := os h
    exact ret_i hx hb hr hlocks hP hK hD hS dX3_setting_28
  · have h := it_n c2 h
    refine lv_aload_n hx hb dX3_setting_14 rfl (lv_at hl 0 rfl) ?_
    refine va_get (D := D) (ci := 3) (v := .ref (mb 0)) (C := RX3) (T := TX3) (N := 14) hx hb htB inlX3 hown hK hP 0 rfl rfl 0 (by decide) (htB _ kw54) (fun _ h9 => h9) rfl dX3_setting_15 ?_
    refine lv_iload_n hx hb dX3_setting_18 rfl (lv_at hl 1 rfl) ?_
    obtain ⟨g4, h⟩ := og h
    refine va_iald hx hb hK hP 1 0 rfl rfl (pin_in g4) dX3_setting_19 ?_
    refine lv_goto (tgt := 28) hx hb dX3_setting_20 (by decide) ?_
    obtain rfl := os h
    exact ret_i hx hb hr hlocks hP hK hD hS dX3_setting_28

theorem dX3_best_0 : decode cX3_best 0 = .ok (.aload_n 0, 1) := by decide +kernel
theorem dX3_best_1 : decode cX3_best 1 = .ok (.getfield 7, 3) := by decide +kernel
theorem dX3_best_4 : decode cX3_best 4 = .ok (.iconst 0, 1) := by decide +kernel
theorem dX3_best_5 : decode cX3_best 5 = .ok (.aload_n 0, 1) := by decide +kernel
theorem dX3_best_6 : decode cX3_best 6 = .ok (.getfield 13, 3) := by decide +kernel
theorem dX3_best_9 : decode cX3_best 9 = .ok (.iconst 0, 1) := by decide +kernel
theorem dX3_best_10 : decode cX3_best 10 = .ok (.invokestatic 45, 3) := by decide +kernel
theorem dX3_best_13 : decode cX3_best 13 = .ok (.iload_n 2, 1) := by decide +kernel
theorem dX3_best_14 : decode cX3_best 14 = .ok (.istore 6, 2) := by decide +kernel
theorem dX3_best_16 : decode cX3_best 16 = .ok (.iconst (-1), 1) := by decide +kernel
theorem dX3_best_17 : decode cX3_best 17 = .ok (.istore 7, 2) := by decide +kernel
theorem dX3_best_19 : decode cX3_best 19 = .ok (.iload_n 2, 1) := by decide +kernel
theorem dX3_best_20 : decode cX3_best 20 = .ok (.istore 8, 2) := by decide +kernel
theorem dX3_best_22 : decode cX3_best 22 = .ok (.iload 8, 2) := by decide +kernel
theorem dX3_best_24 : decode cX3_best 24 = .ok (.iload_n 3, 1) := by decide +kernel
theorem dX3_best_25 : decode cX3_best 25 = .ok (.if_icmp .gt 81, 3) := by decide +kernel
theorem dX3_best_28 : decode cX3_best 28 = .ok (.aload_n 0, 1) := by decide +kernel
theorem dX3_best_29 : decode cX3_best 29 = .ok (.getfield 13, 3) := by decide +kernel
theorem dX3_best_32 : decode cX3_best 32 = .ok (.iload_n 1, 1) := by decide +kernel
theorem dX3_best_33 : decode cX3_best 33 = .ok (.iload 8, 2) := by decide +kernel
theorem dX3_best_35 : decode cX3_best 35 = .ok (.iastore, 1) := by decide +kernel
theorem dX3_best_36 : decode cX3_best 36 = .ok (.aload_n 0, 1) := by decide +kernel
theorem dX3_best_37 : decode cX3_best 37 = .ok (.aload_n 0, 1) := by decide +kernel
theorem dX3_best_38 : decode cX3_best 38 = .ok (.getfield 13, 3) := by decide +kernel
theorem dX3_best_41 : decode cX3_best 41 = .ok (.iload 4, 2) := by decide +kernel
theorem dX3_best_43 : decode cX3_best 43 = .ok (.invokevirtual 71, 3) := by decide +kernel
theorem dX3_best_46 : decode cX3_best 46 = .ok (.aload_n 0, 1) := by decide +kernel
theorem dX3_best_47 : decode cX3_best 47 = .ok (.iload 4, 2) := by decide +kernel
theorem dX3_best_49 : decode cX3_best 49 = .ok (.iload 5, 2) := by decide +kernel
theorem dX3_best_51 : decode cX3_best 51 = .ok (.invokevirtual 75, 3) := by decide +kernel
theorem dX3_best_54 : decode cX3_best 54 = .ok (.istore 9, 2) := by decide +kernel
theorem dX3_best_56 : decode cX3_best 56 = .ok (.iload 7, 2) := by decide +kernel
theorem dX3_best_58 : decode cX3_best 58 = .ok (.iconst (-1), 1) := by decide +kernel
theorem dX3_best_59 : decode cX3_best 59 = .ok (.if_icmp .eq 10, 3) := by decide +kernel
theorem dX3_best_62 : decode cX3_best 62 = .ok (.iload 9, 2) := by decide +kernel
theorem dX3_best_64 : decode cX3_best 64 = .ok (.iload 7, 2) := by decide +kernel
theorem dX3_best_66 : decode cX3_best 66 = .ok (.if_icmp .ge 8, 3) := by decide +kernel
theorem dX3_best_69 : decode cX3_best 69 = .ok (.iload 8, 2) := by decide +kernel
theorem dX3_best_71 : decode cX3_best 71 = .ok (.goto 5, 3) := by decide +kernel
theorem dX3_best_74 : decode cX3_best 74 = .ok (.iload 6, 2) := by decide +kernel
theorem dX3_best_76 : decode cX3_best 76 = .ok (.istore 6, 2) := by decide +kernel
theorem dX3_best_78 : decode cX3_best 78 = .ok (.iload 7, 2) := by decide +kernel
theorem dX3_best_80 : decode cX3_best 80 = .ok (.iconst (-1), 1) := by decide +kernel
theorem dX3_best_81 : decode cX3_best 81 = .ok (.if_icmp .eq 10, 3) := by decide +kernel
theorem dX3_best_84 : decode cX3_best 84 = .ok (.iload 9, 2) := by decide +kernel
theorem dX3_best_86 : decode cX3_best 86 = .ok (.iload 7, 2) := by decide +kernel
theorem dX3_best_88 : decode cX3_best 88 = .ok (.if_icmp .ge 8, 3) := by decide +kernel
theorem dX3_best_91 : decode cX3_best 91 = .ok (.iload 9, 2) := by decide +kernel
theorem dX3_best_93 : decode cX3_best 93 = .ok (.goto 5, 3) := by decide +kernel
theorem dX3_best_96 : decode cX3_best 96 = .ok (.iload 7, 2) := by decide +kernel
theorem dX3_best_98 : decode cX3_best 98 = .ok (.istore 7, 2) := by decide +kernel
theorem dX3_best_100 : decode cX3_best 100 = .ok (.iinc 8 1, 3) := by decide +kernel
theorem dX3_best_103 : decode cX3_best 103 = .ok (.goto (-81), 3) := by decide +kernel
theorem dX3_best_106 : decode cX3_best 106 = .ok (.iload 6, 2) := by decide +kernel
theorem dX3_best_108 : decode cX3_best 108 = .ok (.ireturn, 1) := by decide +kernel
abbrev zX3_best : List Cond := .code yX3_best cX3_best 10 (some .int) :: BIG
def fX3_best_j76 (mo : MoT) (fn : (Nat → Int32)) (K22 : ((Nat → Int32) × (Nat → Int32) × (Nat → Int32) × (Nat → Int32) × Int32 × Int32 × Int32 × Int32 × Int32 × Int32 × Int32) → Option (Int32 × (Nat → Int32) × (Nat → Int32) × (Nat → Int32) × (Nat → Int32))) (v76 : (Nat → Int32) × (Nat → Int32) × (Nat → Int32) × (Nat → Int32) × Int32 × Int32 × Int32 × Int32 × Int32 × Int32 × Int32 × Int32) : Option (Int32 × (Nat → Int32) × (Nat → Int32) × (Nat → Int32) × (Nat → Int32)) := (if v76.2.2.2.2.2.2.2.2.1 = (-1) then K22 (v76.1, v76.2.1, v76.2.2.1, v76.2.2.2.1, v76.2.2.2.2.1, v76.2.2.2.2.2.1, v76.2.2.2.2.2.2.1, v76.2.2.2.2.2.2.2.1, v76.2.2.2.2.2.2.2.2.2.2.2, v76.2.2.2.2.2.2.2.2.2.2.1, v76.2.2.2.2.2.2.2.2.2.1 + 1) else (if v76.2.2.2.2.2.2.2.2.1 ≤ v76.2.2.2.2.2.2.2.2.2.2.1 then K22 (v76.1, v76.2.1, v76.2.2.1, v76.2.2.2.1, v76.2.2.2.2.1, v76.2.2.2.2.2.1, v76.2.2.2.2.2.2.1, v76.2.2.2.2.2.2.2.1, v76.2.2.2.2.2.2.2.2.2.2.2, v76.2.2.2.2.2.2.2.2.1, v76.2.2.2.2.2.2.2.2.2.1 + 1) else K22 (v76.1, v76.2.1, v76.2.2.1, v76.2.2.2.1, v76.2.2.2.2.1, v76.2.2.2.2.2.1, v76.2.2.2.2.2.2.1, v76.2.2.2.2.2.2.2.1, v76.2.2.2.2.2.2.2.2.2.2.2, v76.2.2.2.2.2.2.2.2.2.2.1, v76.2.2.2.2.2.2.2.2.2.1 + 1)))
def fX3_best_l22 (mo : MoT) (fn : (Nat → Int32))  (K22 : ((Nat → Int32) × (Nat → Int32) × (Nat → Int32) × (Nat → Int32) × Int32 × Int32 × Int32 × Int32 × Int32 × Int32 × Int32) → Option (Int32 × (Nat → Int32) × (Nat → Int32) × (Nat → Int32) × (Nat → Int32))) (v22 : (Nat → Int32) × (Nat → Int32) × (Nat → Int32) × (Nat → Int32) × Int32 × Int32 × Int32 × Int32 × Int32 × Int32 × Int32) : Option (Int32 × (Nat → Int32) × (Nat → Int32) × (Nat → Int32) × (Nat → Int32)) := (if v22.2.2.2.2.2.1 < v22.2.2.2.2.2.2.2.2.2.2 then some (v22.2.2.2.2.2.2.2.2.1, v22.1, v22.2.1, v22.2.2.1, v22.2.2.2.1) else gd (pin v22.2.2.2.2.1 71) ((fX3_lays mo (upd v22.1 (Int32.toNatClampNeg v22.2.2.2.2.1) v22.2.2.2.2.2.2.2.2.2.2) v22.2.1 v22.2.2.1 v22.2.2.2.1 v22.2.2.2.2.2.2.1).bind (fun r4 => (fX3_tells mo r4.2.2 v22.2.2.2.2.2.2.1 v22.2.2.2.2.2.2.2.1).bind (fun r5 => (if v22.2.2.2.2.2.2.2.2.2.1 = (-1) then fX3_best_j76 mo fn K22 ((upd v22.1 (Int32.toNatClampNeg v22.2.2.2.2.1) v22.2.2.2.2.2.2.2.2.2.2), r4.1, r4.2.1, r4.2.2, v22.2.2.2.2.1, v22.2.2.2.2.2.1, v22.2.2.2.2.2.2.1, v22.2.2.2.2.2.2.2.1, v22.2.2.2.2.2.2.2.2.2.1, v22.2.2.2.2.2.2.2.2.2.2, r5, v22.2.2.2.2.2.2.2.2.2.2) else (if v22.2.2.2.2.2.2.2.2.2.1 ≤ r5 then fX3_best_j76 mo fn K22 ((upd v22.1 (Int32.toNatClampNeg v22.2.2.2.2.1) v22.2.2.2.2.2.2.2.2.2.2), r4.1, r4.2.1, r4.2.2, v22.2.2.2.2.1, v22.2.2.2.2.2.1, v22.2.2.2.2.2.2.1, v22.2.2.2.2.2.2.2.1, v22.2.2.2.2.2.2.2.2.2.1, v22.2.2.2.2.2.2.2.2.2.2, r5, v22.2.2.2.2.2.2.2.2.1) else fX3_best_j76 mo fn K22 ((upd v22.1 (Int32.toNatClampNeg v22.2.2.2.2.1) v22.2.2.2.2.2.2.2.2.2.2), r4.1, r4.2.1, r4.2.2, v22.2.2.2.2.1, v22.2.2.2.2.2.1, v22.2.2.2.2.2.2.1, v22.2.2.2.2.2.2.2.1, v22.2.2.2.2.2.2.2.2.2.1, v22.2.2.2.2.2.2.2.2.2.2, r5, v22.2.2.2.2.2.2.2.2.2.2)))))))
def fX3_best (mo : MoT) (fn : (Nat → Int32)) (ft : (Nat → Int32)) (le : (Nat → Int32)) (co : (Nat → Int32)) (li : (Nat → Int32)) (ix : Int32) (lo : Int32) (hi : Int32) (v : Int32) (w : Int32) : Option (Int32 × (Nat → Int32) × (Nat → Int32) × (Nat → Int32) × (Nat → Int32)) := (fX3_copies 71 fn 71 ft 0 0).bind (fun r1 => lp (fX3_best_l22 mo fn) 2000 (r1, le, co, li, ix, hi, v, w, lo, (-1), lo))
set_option maxHeartbeats 4000000 in
set_option maxRecDepth 100000 in
theorem mtX3_best (l : Launch) (D : va_G) (t : Nat → ClassId) (mh : Nat) (mb : Nat → Nat) (mo : MoT) (fn : (Nat → Int32)) (ft : (Nat → Int32)) (le : (Nat → Int32)) (co : (Nat → Int32)) (li : (Nat → Int32)) (ix : Int32) (lo : Int32) (hi : Int32) (v : Int32) (w : Int32) (out : Int32 × (Nat → Int32) × (Nat → Int32) × (Nat → Int32) × (Nat → Int32)) (h : fX3_best mo fn ft le co li ix lo hi v w = some out)  (sz : Nat) : Met l yX3_best zX3_best ({ frames := 3, cells := 0, slots := 0, locals := 68 }) (sPc D t (gMo mh mb mo ++ (gA t (mb 0) 71 fn ++ (gA t (mb 1) 71 ft ++ (gA t (mb 5) 24 le ++ (gA t (mb 6) 24 co ++ (gA t (mb 7) 24 li)))))) sz [.ref mh, .int ix, .int lo, .int hi, .int v, .int w]) (qI D t (gMo mh mb mo ++ (gA t (mb 0) 71 fn ++ (gA t (mb 1) 71 out.2.1 ++ (gA t (mb 5) 24 out.2.2.1 ++ (gA t (mb 6) 24 out.2.2.2.1 ++ (gA t (mb 7) 24 out.2.2.2.2)))))) out.1 (va_A (gMo mh mb mo ++ (gA t (mb 0) 71 fn ++ (gA t (mb 1) 71 ft ++ (gA t (mb 5) 24 le ++ (gA t (mb 6) 24 co ++ (gA t (mb 7) 24 li)))))) sz)) 0 0 (va_A (gMo mh mb mo ++ (gA t (mb 0) 71 fn ++ (gA t (mb 1) 71 ft ++ (gA t (mb 5) 24 le ++ (gA t (mb 6) 24 co ++ (gA t (mb 7) 24 li)))))) sz) := by
  refine met_of (Qf := fun A => qI D t (gMo mh mb mo ++ (gA t (mb 0) 71 fn ++ (gA t (mb 1) 71 out.2.1 ++ (gA t (mb 5) 24 out.2.2.1 ++ (gA t (mb 6) 24 out.2.2.2.1 ++ (gA t (mb 7) 24 out.2.2.2.2)))))) out.1 A) (cc := cX3_best) (maxL := 10) (ret := some .int) (by decide) rfl (Nat.le_of_ble_eq_true rfl) ?_
  intro p e s m args below meth c A hx hb hr hml hts hown hlocks hA hP hK hD hE hS ls hl
  have htB : ∀ w ∈ BIG, w.before args s = true := fun w h => hts w (List.mem_cons_of_mem _ h)
  have hown : s.vm.findClass RX3 = some m.cls := hown
  have hl : lv_has ls 10 [(0, .ref mh), (1, .int ix), (2, .int lo), (3, .int hi), (4, .int v), (5, .int w)] := hl
  unfold fX3_best at h
  have J22 : ∀ (fu22 : Nat) (v22 : (Nat → Int32) × (Nat → Int32) × (Nat → Int32) × (Nat → Int32) × Int32 × Int32 × Int32 × Int32 × Int32 × Int32 × Int32), lp (fX3_best_l22 mo fn) fu22 v22 = some out → ∀ (H : Heap) (locs : List Loc), va_P D vwCl (gMo mh mb mo ++ (gA t (mb 0) 71 fn ++ (gA t (mb 1) 71 v22.1 ++ (gA t (mb 5) 24 v22.2.1 ++ (gA t (mb 6) 24 v22.2.2.1 ++ (gA t (mb 7) 24 v22.2.2.2.1)))))) H → va_D A (gMo mh mb mo ++ (gA t (mb 0) 71 fn ++ (gA t (mb 1) 71 v22.1 ++ (gA t (mb 5) 24 v22.2.1 ++ (gA t (mb 6) 24 v22.2.2.1 ++ (gA t (mb 7) 24 v22.2.2.2.1)))))) → va_S A s.heap H locs → ∀ ls : Array Slot, lv_has ls 10 [(0, .ref mh), (1, .int v22.2.2.2.2.1), (3, .int v22.2.2.2.2.2.1), (4, .int v22.2.2.2.2.2.2.1), (5, .int v22.2.2.2.2.2.2.2.1), (6, .int v22.2.2.2.2.2.2.2.2.1), (7, .int v22.2.2.2.2.2.2.2.2.2.1), (8, .int v22.2.2.2.2.2.2.2.2.2.2)] → W p l e ({ frames := 3, cells := 0, slots := 0, locals := 68 }) s m args below meth c H locs 0 0 (MQ below (qI D t (gMo mh mb mo ++ (gA t (mb 0) 71 fn ++ (gA t (mb 1) 71 out.2.1 ++ (gA t (mb 5) 24 out.2.2.1 ++ (gA t (mb 6) 24 out.2.2.2.1 ++ (gA t (mb 7) 24 out.2.2.2.2)))))) out.1 A) args s 0 0 A) (F0 m 22 ls []) := by
    intro fu22
    induction fu22 with
    | zero => intro v22 h; cases h
    | succ fu22 ih22 =>
      intro v22 h H locs hP hD hS ls hl
      have h : fX3_best_l22 mo fn (lp (fX3_best_l22 mo fn) fu22) v22 = some out := h
      unfold fX3_best_l22 at h
      have J76 : ∀ v76 : (Nat → Int32) × (Nat → Int32) × (Nat → Int32) × (Nat → Int32) × Int32 × Int32 × Int32 × Int32 × Int32 × Int32 × Int32 × Int32, fX3_best_j76 mo fn (lp (fX3_best_l22 mo fn) fu22) v76 = some out → ∀ (H : Heap) (locs : List Loc), va_P D vwCl (gMo mh mb mo ++ (gA t (mb 0) 71 fn ++ (gA t (mb 1) 71 v76.1 ++ (gA t (mb 5) 24 v76.2.1 ++ (gA t (mb 6) 24 v76.2.2.1 ++ (gA t (mb 7) 24 v76.2.2.2.1)))))) H → va_D A (gMo mh mb mo ++ (gA t (mb 0) 71 fn ++ (gA t (mb 1) 71 v76.1 ++ (gA t (mb 5) 24 v76.2.1 ++ (gA t (mb 6) 24 v76.2.2.1 ++ (gA t (mb 7) 24 v76.2.2.2.1)))))) → va_S A s.heap H locs → ∀ ls : Array Slot, lv_has ls 10 [(0, .ref mh), (1, .int v76.2.2.2.2.1), (3, .int v76.2.2.2.2.2.1), (4, .int v76.2.2.2.2.2.2.1), (5, .int v76.2.2.2.2.2.2.2.1), (7, .int v76.2.2.2.2.2.2.2.2.1), (8, .int v76.2.2.2.2.2.2.2.2.2.1), (9, .int v76.2.2.2.2.2.2.2.2.2.2.1)] → W p l e ({ frames := 3, cells := 0, slots := 0, locals := 68 }) s m args below meth c H locs 0 0 (MQ below (qI D t (gMo mh mb mo ++ (gA t (mb 0) 71 fn ++ (gA t (mb 1) 71 out.2.1 ++ (gA t (mb 5) 24 out.2.2.1 ++ (gA t (mb 6) 24 out.2.2.2.1 ++ (gA t (mb 7) 24 out.2.2.2.2)))))) out.1 A) args s 0 0 A) (F0 m 76 ls [.int v76.2.2.2.2.2.2.2.2.2.2.2]) := by
        intro v76 h H locs hP hD hS ls hl
        unfold fX3_best_j76 at h
        refine lv_istore (lv' := [(6, .int v76.2.2.2.2.2.2.2.2.2.2.2), (0, .ref mh), (1, .int v76.2.2.2.2.1), (3, .int v76.2.2.2.2.2.1), (4, .int v76.2.2.2.2.2.2.1), (5, .int v76.2.2.2.2.2.2.2.1), (7, .int v76.2.2.2.2.2.2.2.2.1), (8, .int v76.2.2.2.2.2.2.2.2.2.1), (9, .int v76.2.2.2.2.2.2.2.2.2.2.1)]) hx hb dX3_best_76 hl (by decide) rfl (fun ls hl => ?_)
        refine lv_iload hx hb dX3_best_78 (lv_at hl 6 rfl) ?_
        refine lv_iconst (v := (-1)) hx hb dX3_best_80 (by decide) ?_
        refine lv_icmp_eq (tgt := 91) hx hb dX3_best_81 (by decide) (fun c8 => ?_) (fun c8 => ?_)
        · have h := it_p c8 h
          refine lv_iload hx hb dX3_best_91 (lv_at hl 8 rfl) ?_
          refine lv_goto (tgt := 98) hx hb dX3_best_93 (by decide) ?_
          refine lv_istore (lv' := [(7, .int v76.2.2.2.2.2.2.2.2.2.2.1), (6, .int v76.2.2.2.2.2.2.2.2.2.2.2), (0, .ref mh), (1, .int v76.2.2.2.2.1), (3, .int v76.2.2.2.2.2.1), (4, .int v76.2.2.2.2.2.2.1), (5, .int v76.2.2.2.2.2.2.2.1), (8, .int v76.2.2.2.2.2.2.2.2.2.1), (9, .int v76.2.2.2.2.2.2.2.2.2.2.1)]) hx hb dX3_best_98 hl (by decide) rfl (fun ls hl => ?_)
          refine lv_iinc (v := v76.2.2.2.2.2.2.2.2.2.1 + 1) (lv' := [(8, .int (v76.2.2.2.2.2.2.2.2.2.1 + 1)), (7, .int v76.2.2.2.2.2.2.2.2.2.2.1), (6, .int v76.2.2.2.2.2.2.2.2.2.2.2), (0, .ref mh), (1, .int v76.2.2.2.2.1), (3, .int v76.2.2.2.2.2.1), (4, .int v76.2.2.2.2.2.2.1), (5, .int v76.2.2.2.2.2.2.2.1), (9, .int v76.2.2.2.2.2.2.2.2.2.2.1)]) hx hb dX3_best_100 hl (k := 7) rfl rfl (by decide) rfl (fun ls hl => ?_)
          refine lv_goto (tgt := 22) hx hb dX3_best_103 (by decide) ?_
          exact ih22 (v76.1, v76.2.1, v76.2.2.1, v76.2.2.2.1, v76.2.2.2.2.1, v76.2.2.2.2.2.1, v76.2.2.2.2.2.2.1, v76.2.2.2.2.2.2.2.1, v76.2.2.2.2.2.2.2.2.2.2.2, v76.2.2.2.2.2.2.2.2.2.2.1, v76.2.2.2.2.2.2.2.2.2.1 + 1) h _ _ hP hD hS _ (lv_sub hl [3, 4, 5, 6, 7, 2, 1, 0] rfl)
        · have h := it_n c8 h
          refine lv_iload hx hb dX3_best_84 (lv_at hl 8 rfl) ?_
          refine lv_iload hx hb dX3_best_86 (lv_at hl 6 rfl) ?_
          refine lv_icmp_ge (tgt := 96) hx hb dX3_best_88 (by decide) (fun c9 => ?_) (fun c9 => ?_)
          · have h := it_p c9 h
            refine lv_iload hx hb dX3_best_96 (lv_at hl 6 rfl) ?_
            refine lv_istore (lv' := [(7, .int v76.2.2.2.2.2.2.2.2.1), (6, .int v76.2.2.2.2.2.2.2.2.2.2.2), (0, .ref mh), (1, .int v76.2.2.2.2.1), (3, .int v76.2.2.2.2.2.1), (4, .int v76.2.2.2.2.2.2.1), (5, .int v76.2.2.2.2.2.2.2.1), (8, .int v76.2.2.2.2.2.2.2.2.2.1), (9, .int v76.2.2.2.2.2.2.2.2.2.2.1)]) hx hb dX3_best_98 hl (by decide) rfl (fun ls hl => ?_)
            refine lv_iinc (v := v76.2.2.2.2.2.2.2.2.2.1 + 1) (lv' := [(8, .int (v76.2.2.2.2.2.2.2.2.2.1 + 1)), (7, .int v76.2.2.2.2.2.2.2.2.1), (6, .int v76.2.2.2.2.2.2.2.2.2.2.2), (0, .ref mh), (1, .int v76.2.2.2.2.1), (3, .int v76.2.2.2.2.2.1), (4, .int v76.2.2.2.2.2.2.1), (5, .int v76.2.2.2.2.2.2.2.1), (9, .int v76.2.2.2.2.2.2.2.2.2.2.1)]) hx hb dX3_best_100 hl (k := 7) rfl rfl (by decide) rfl (fun ls hl => ?_)
            refine lv_goto (tgt := 22) hx hb dX3_best_103 (by decide) ?_
            exact ih22 (v76.1, v76.2.1, v76.2.2.1, v76.2.2.2.1, v76.2.2.2.2.1, v76.2.2.2.2.2.1, v76.2.2.2.2.2.2.1, v76.2.2.2.2.2.2.2.1, v76.2.2.2.2.2.2.2.2.2.2.2, v76.2.2.2.2.2.2.2.2.1, v76.2.2.2.2.2.2.2.2.2.1 + 1) h _ _ hP hD hS _ (lv_sub hl [3, 4, 5, 6, 7, 2, 1, 0] rfl)
          · have h := it_n c9 h
            refine lv_iload hx hb dX3_best_91 (lv_at hl 8 rfl) ?_
            refine lv_goto (tgt := 98) hx hb dX3_best_93 (by decide) ?_
            refine lv_istore (lv' := [(7, .int v76.2.2.2.2.2.2.2.2.2.2.1), (6, .int v76.2.2.2.2.2.2.2.2.2.2.2), (0, .ref mh), (1, .int v76.2.2.2.2.1), (3, .int v76.2.2.2.2.2.1), (4, .int v76.2.2.2.2.2.2.1), (5, .int v76.2.2.2.2.2.2.2.1), (8, .int v76.2.2.2.2.2.2.2.2.2.1), (9, .int v76.2.2.2.2.2.2.2.2.2.2.1)]) hx hb dX3_best_98 hl (by decide) rfl (fun ls hl => ?_)
            refine lv_iinc (v := v76.2.2.2.2.2.2.2.2.2.1 + 1) (lv' := [(8, .int (v76.2.2.2.2.2.2.2.2.2.1 + 1)), (7, .int v76.2.2.2.2.2.2.2.2.2.2.1), (6, .int v76.2.2.2.2.2.2.2.2.2.2.2), (0, .ref mh), (1, .int v76.2.2.2.2.1), (3, .int v76.2.2.2.2.2.1), (4, .int v76.2.2.2.2.2.2.1), (5, .int v76.2.2.2.2.2.2.2.1), (9, .int v76.2.2.2.2.2.2.2.2.2.2.1)]) hx hb dX3_best_100 hl (k := 7) rfl rfl (by decide) rfl (fun ls hl => ?_)
            refine lv_goto (tgt := 22) hx hb dX3_best_103 (by decide) ?_
            exact ih22 (v76.1, v76.2.1, v76.2.2.1, v76.2.2.2.1, v76.2.2.2.2.1, v76.2.2.2.2.2.1, v76.2.2.2.2.2.2.1, v76.2.2.2.2.2.2.2.1, v76.2.2.2.2.2.2.2.2.2.2.2, v76.2.2.2.2.2.2.2.2.2.2.1, v76.2.2.2.2.2.2.2.2.2.1 + 1) h _ _ hP hD hS _ (lv_sub hl [3, 4, 5, 6, 7, 2, 1, 0] rfl)
      refine lv_iload hx hb dX3_best_22 (lv_at hl 7 rfl) ?_
      refine lv_iload_n hx hb dX3_best_24 rfl (lv_at hl 2 rfl) ?_
      refine lv_icmp_gt (tgt := 106) hx hb dX3_best_25 (by decide) (fun c2 => ?_) (fun c2 => ?_)
      · have h := it_p c2 h
        refine lv_iload hx hb dX3_best_106 (lv_at hl 5 rfl) ?_
        obtain rfl := os h
        exact ret_i hx hb hr hlocks hP hK hD hS dX3_best_108
      · have h := it_n c2 h
        refine lv_aload_n hx hb dX3_best_28 rfl (lv_at hl 0 rfl) ?_
        refine va_get (D := D) (ci := 3) (v := .ref (mb 1)) (C := RX3) (T := TX3) (N := 14) hx hb htB inlX3 hown hK hP 0 rfl rfl 1 (by decide) (htB _ kw55) (fun _ h9 => h9) rfl dX3_best_29 ?_
        refine lv_iload_n hx hb dX3_best_32 rfl (lv_at hl 1 rfl) ?_
        refine lv_iload hx hb dX3_best_33 (lv_at hl 7 rfl) ?_
        obtain ⟨g3, h⟩ := og h
        refine va_iast hx hb hK hP hD hS 2 0 rfl rfl (pin_in g3) dX3_best_35 (fun H locs hP hD hS => ?_)
        have hP : va_P D vwCl (gMo mh mb mo ++ (gA t (mb 0) 71 fn ++ (gA t (mb 1) 71 (upd v22.1 (Int32.toNatClampNeg v22.2.2.2.2.1) v22.2.2.2.2.2.2.2.2.2.2) ++ (gA t (mb 5) 24 v22.2.1 ++ (gA t (mb 6) 24 v22.2.2.1 ++ (gA t (mb 7) 24 v22.2.2.2.1)))))) H := hP
        have hD : va_D A (gMo mh mb mo ++ (gA t (mb 0) 71 fn ++ (gA t (mb 1) 71 (upd v22.1 (Int32.toNatClampNeg v22.2.2.2.2.1) v22.2.2.2.2.2.2.2.2.2.2) ++ (gA t (mb 5) 24 v22.2.1 ++ (gA t (mb 6) 24 v22.2.2.1 ++ (gA t (mb 7) 24 v22.2.2.2.1)))))) := hD
        refine lv_aload_n hx hb dX3_best_36 rfl (lv_at hl 0 rfl) ?_
        refine lv_aload_n hx hb dX3_best_37 rfl (lv_at hl 0 rfl) ?_
        refine va_get (D := D) (ci := 3) (v := .ref (mb 1)) (C := RX3) (T := TX3) (N := 14) hx hb htB inlX3 hown hK hP 0 rfl rfl 1 (by decide) (htB _ kw55) (fun _ h9 => h9) rfl dX3_best_38 ?_
        refine lv_iload hx hb dX3_best_41 (lv_at hl 3 rfl) ?_
        obtain ⟨r4, h4, h⟩ := ob h
        refine call_v (wc := (gMo mh mb mo ++ (gA t (mb 1) 71 (upd v22.1 (Int32.toNatClampNeg v22.2.2.2.2.1) v22.2.2.2.2.2.2.2.2.2.2) ++ (gA t (mb 5) 24 v22.2.1 ++ (gA t (mb 6) 24 v22.2.2.1 ++ (gA t (mb 7) 24 v22.2.2.2.1)))))) (wc' := (gMo mh mb mo ++ (gA t (mb 1) 71 (upd v22.1 (Int32.toNatClampNeg v22.2.2.2.2.1) v22.2.2.2.2.2.2.2.2.2.2) ++ (gA t (mb 5) 24 r4.1 ++ (gA t (mb 6) 24 r4.2.1 ++ (gA t (mb 7) 24 r4.2.2)))))) (ws' := (gMo mh mb mo ++ (gA t (mb 0) 71 fn ++ (gA t (mb 1) 71 (upd v22.1 (Int32.toNatClampNeg v22.2.2.2.2.1) v22.2.2.2.2.2.2.2.2.2.2) ++ (gA t (mb 5) 24 r4.1 ++ (gA t (mb 6) 24 r4.2.1 ++ (gA t (mb 7) 24 r4.2.2))))))) (cutB (bs := [gMo mh mb mo, gA t (mb 0) 71 fn, gA t (mb 1) 71 (upd v22.1 (Int32.toNatClampNeg v22.2.2.2.2.1) v22.2.2.2.2.2.2.2.2.2.2), gA t (mb 5) 24 v22.2.1, gA t (mb 6) 24 v22.2.2.1, gA t (mb 7) 24 v22.2.2.2.1]) (cs := [gMo mh mb mo, gA t (mb 1) 71 (upd v22.1 (Int32.toNatClampNeg v22.2.2.2.2.1) v22.2.2.2.2.2.2.2.2.2.2), gA t (mb 5) 24 v22.2.1, gA t (mb 6) 24 v22.2.2.1, gA t (mb 7) 24 v22.2.2.2.1]) (cs' := [gMo mh mb mo, gA t (mb 1) 71 (upd v22.1 (Int32.toNatClampNeg v22.2.2.2.2.1) v22.2.2.2.2.2.2.2.2.2.2), gA t (mb 5) 24 r4.1, gA t (mb 6) 24 r4.2.1, gA t (mb 7) 24 r4.2.2]) (bs' := [gMo mh mb mo, gA t (mb 0) 71 fn, gA t (mb 1) 71 (upd v22.1 (Int32.toNatClampNeg v22.2.2.2.2.1) v22.2.2.2.2.2.2.2.2.2.2), gA t (mb 5) 24 r4.1, gA t (mb 6) 24 r4.2.1, gA t (mb 7) 24 r4.2.2]) [0, 2, 3, 4, 5] hP hD hS hA rfl rfl rfl rfl) hS (fun hPc hDc => va_runV (As := [.ref (mb 1), .int v22.2.2.2.2.2.2.1]) (rest := []) ⟨hx, hb, hml, hown, hts⟩ (mtX3_lays l D t mh mb mo (mb 1) (upd v22.1 (Int32.toNatClampNeg v22.2.2.2.2.1) v22.2.2.2.2.2.2.2.2.2.2) v22.2.1 v22.2.2.1 v22.2.2.2.1 v22.2.2.2.2.2.2.1 r4 h4 _) (cwV 2 hts (gBV kw295 kw296 kw297 kw5 kw298) rfl rfl rfl (by decide +kernel) ⟨Nat.le_of_ble_eq_true rfl, Nat.le_of_ble_eq_true rfl⟩) (sPc_V hPc hK hDc hE (va_recv hK hP (ci := 3) (q0 := 0) rfl rfl)) rfl rfl hl.1 rfl (lv_room (Nat.le_of_ble_eq_true rfl)) dX3_best_43 ⟨Nat.zero_le _, Nat.zero_le _⟩) (fun H locs hP hD hS => ?_)
        refine lv_aload_n hx hb dX3_best_46 rfl (lv_at hl 0 rfl) ?_
        refine lv_iload hx hb dX3_best_47 (lv_at hl 3 rfl) ?_
        refine lv_iload hx hb dX3_best_49 (lv_at hl 4 rfl) ?_
        obtain ⟨r5, h5, h⟩ := ob h
        refine call_i (v := r5) (wc := (gMo mh mb mo ++ (gA t (mb 7) 24 r4.2.2))) (wc' := (gMo mh mb mo ++ (gA t (mb 7) 24 r4.2.2))) (ws' := (gMo mh mb mo ++ (gA t (mb 0) 71 fn ++ (gA t (mb 1) 71 (upd v22.1 (Int32.toNatClampNeg v22.2.2.2.2.1) v22.2.2.2.2.2.2.2.2.2.2) ++ (gA t (mb 5) 24 r4.1 ++ (gA t (mb 6) 24 r4.2.1 ++ (gA t (mb 7) 24 r4.2.2))))))) (cutB (bs := [gMo mh mb mo, gA t (mb 0) 71 fn, gA t (mb 1) 71 (upd v22.1 (Int32.toNatClampNeg v22.2.2.2.2.1) v22.2.2.2.2.2.2.2.2.2.2), gA t (mb 5) 24 r4.1, gA t (mb 6) 24 r4.2.1, gA t (mb 7) 24 r4.2.2]) (cs := [gMo mh mb mo, gA t (mb 7) 24 r4.2.2]) (cs' := [gMo mh mb mo, gA t (mb 7) 24 r4.2.2]) (bs' := [gMo mh mb mo, gA t (mb 0) 71 fn, gA t (mb 1) 71 (upd v22.1 (Int32.toNatClampNeg v22.2.2.2.2.1) v22.2.2.2.2.2.2.2.2.2.2), gA t (mb 5) 24 r4.1, gA t (mb 6) 24 r4.2.1, gA t (mb 7) 24 r4.2.2]) [0, 5] hP hD hS hA rfl rfl rfl rfl) hS (fun hPc hDc => va_runV (As := [.int v22.2.2.2.2.2.2.1, .int v22.2.2.2.2.2.2.2.1]) (rest := []) ⟨hx, hb, hml, hown, hts⟩ (mtX3_tells l D t mh mb mo r4.2.2 v22.2.2.2.2.2.2.1 v22.2.2.2.2.2.2.2.1 r5 h5 _) (cwV 2 hts (gBV kw311 kw312 kw313 kw5 kw314) rfl rfl rfl (by decide +kernel) ⟨Nat.le_of_ble_eq_true rfl, Nat.le_of_ble_eq_true rfl⟩) (sPc_V hPc hK hDc hE (va_recv hK hP (ci := 3) (q0 := 0) rfl rfl)) rfl rfl hl.1 rfl (lv_room (Nat.le_of_ble_eq_true rfl)) dX3_best_51 ⟨Nat.zero_le _, Nat.zero_le _⟩) (fun H locs hP hD hS => ?_)
        refine lv_istore (lv' := [(9, .int r5), (0, .ref mh), (1, .int v22.2.2.2.2.1), (3, .int v22.2.2.2.2.2.1), (4, .int v22.2.2.2.2.2.2.1), (5, .int v22.2.2.2.2.2.2.2.1), (6, .int v22.2.2.2.2.2.2.2.2.1), (7, .int v22.2.2.2.2.2.2.2.2.2.1), (8, .int v22.2.2.2.2.2.2.2.2.2.2)]) hx hb dX3_best_54 hl (by decide) rfl (fun ls hl => ?_)
        refine lv_iload hx hb dX3_best_56 (lv_at hl 7 rfl) ?_
        refine lv_iconst (v := (-1)) hx hb dX3_best_58 (by decide) ?_
        refine lv_icmp_eq (tgt := 69) hx hb dX3_best_59 (by decide) (fun c6 => ?_) (fun c6 => ?_)
        · have h := it_p c6 h
          refine lv_iload hx hb dX3_best_69 (lv_at hl 8 rfl) ?_
          refine lv_goto (tgt := 76) hx hb dX3_best_71 (by decide) ?_
          exact J76 ((upd v22.1 (Int32.toNatClampNeg v22.2.2.2.2.1) v22.2.2.2.2.2.2.2.2.2.2), r4.1, r4.2.1, r4.2.2, v22.2.2.2.2.1, v22.2.2.2.2.2.1, v22.2.2.2.2.2.2.1, v22.2.2.2.2.2.2.2.1, v22.2.2.2.2.2.2.2.2.2.1, v22.2.2.2.2.2.2.2.2.2.2, r5, v22.2.2.2.2.2.2.2.2.2.2) h _ _ hP hD hS _ (lv_sub hl [1, 2, 3, 4, 5, 7, 8, 0] rfl)
        · have h := it_n c6 h
          refine lv_iload hx hb dX3_best_62 (lv_at hl 0 rfl) ?_
          refine lv_iload hx hb dX3_best_64 (lv_at hl 7 rfl) ?_
          refine lv_icmp_ge (tgt := 74) hx hb dX3_best_66 (by decide) (fun c7 => ?_) (fun c7 => ?_)
          · have h := it_p c7 h
            refine lv_iload hx hb dX3_best_74 (lv_at hl 6 rfl) ?_
            exact J76 ((upd v22.1 (Int32.toNatClampNeg v22.2.2.2.2.1) v22.2.2.2.2.2.2.2.2.2.2), r4.1, r4.2.1, r4.2.2, v22.2.2.2.2.1, v22.2.2.2.2.2.1, v22.2.2.2.2.2.2.1, v22.2.2.2.2.2.2.2.1, v22.2.2.2.2.2.2.2.2.2.1, v22.2.2.2.2.2.2.2.2.2.2, r5, v22.2.2.2.2.2.2.2.2.1) h _ _ hP hD hS _ (lv_sub hl [1, 2, 3, 4, 5, 7, 8, 0] rfl)
          · have h := it_n c7 h
            refine lv_iload hx hb dX3_best_69 (lv_at hl 8 rfl) ?_
            refine lv_goto (tgt := 76) hx hb dX3_best_71 (by decide) ?_
            exact J76 ((upd v22.1 (Int32.toNatClampNeg v22.2.2.2.2.1) v22.2.2.2.2.2.2.2.2.2.2), r4.1, r4.2.1, r4.2.2, v22.2.2.2.2.1, v22.2.2.2.2.2.1, v22.2.2.2.2.2.2.1, v22.2.2.2.2.2.2.2.1, v22.2.2.2.2.2.2.2.2.2.1, v22.2.2.2.2.2.2.2.2.2.2, r5, v22.2.2.2.2.2.2.2.2.2.2) h _ _ hP hD hS _ (lv_sub hl [1, 2, 3, 4, 5, 7, 8, 0] rfl)
  refine lv_aload_n hx hb dX3_best_0 rfl (lv_at hl 0 rfl) ?_
  refine va_get (D := D) (ci := 3) (v := .ref (mb 0)) (C := RX3) (T := TX3) (N := 14) hx hb htB inlX3 hown hK hP 0 rfl rfl 0 (by decide) (htB _ kw54) (fun _ h9 => h9) rfl dX3_best_1 ?_
  refine lv_iconst (v := 0) hx hb dX3_best_4 (by decide) ?_
  refine lv_aload_n hx hb dX3_best_5 rfl (lv_at hl 0 rfl) ?_
  refine va_get (D := D) (ci := 3) (v := .ref (mb 1)) (C := RX3) (T := TX3) (N := 14) hx hb htB inlX3 hown hK hP 0 rfl rfl 1 (by decide) (htB _ kw55) (fun _ h9 => h9) rfl dX3_best_6 ?_
  refine lv_iconst (v := 0) hx hb dX3_best_9 (by decide) ?_
  obtain ⟨r1, h1, h⟩ := ob h
  refine call_v (wc := (gA t (mb 0) 71 fn ++ (gA t (mb 1) 71 ft))) (wc' := (gA t (mb 0) 71 fn ++ (gA t (mb 1) 71 r1))) (ws' := (gMo mh mb mo ++ (gA t (mb 0) 71 fn ++ (gA t (mb 1) 71 r1 ++ (gA t (mb 5) 24 le ++ (gA t (mb 6) 24 co ++ (gA t (mb 7) 24 li))))))) (cutB (bs := [gMo mh mb mo, gA t (mb 0) 71 fn, gA t (mb 1) 71 ft, gA t (mb 5) 24 le, gA t (mb 6) 24 co, gA t (mb 7) 24 li]) (cs := [gA t (mb 0) 71 fn, gA t (mb 1) 71 ft]) (cs' := [gA t (mb 0) 71 fn, gA t (mb 1) 71 r1]) (bs' := [gMo mh mb mo, gA t (mb 0) 71 fn, gA t (mb 1) 71 r1, gA t (mb 5) 24 le, gA t (mb 6) 24 co, gA t (mb 7) 24 li]) [1, 2] hP hD hS hA rfl rfl rfl rfl) hS (fun hPc hDc => va_runS (As := [.ref (mb 0), .int 0, .ref (mb 1), .int 0]) (rest := []) ⟨hx, hb, hml, hown, hts⟩ (mtX3_copies l D t (mb 0) 71 fn (mb 1) 71 ft 0 0 r1 h1 (by decide) (by decide) _) (va_cwS 4 hts (gBS kw130 kw131 kw5 kw132) rfl rfl rfl (by decide +kernel) ⟨Nat.le_of_ble_eq_true rfl, Nat.le_of_ble_eq_true rfl⟩) (sPc_S hPc hK hDc hE) rfl rfl hl.1 rfl (lv_room (Nat.le_of_ble_eq_true rfl)) dX3_best_10 ⟨Nat.zero_le _, Nat.zero_le _⟩) (fun H locs hP hD hS => ?_)
  refine lv_iload_n hx hb dX3_best_13 rfl (lv_at hl 2 rfl) ?_
  refine lv_istore (lv' := [(6, .int lo), (0, .ref mh), (1, .int ix), (2, .int lo), (3, .int hi), (4, .int v), (5, .int w)]) hx hb dX3_best_14 hl (by decide) rfl (fun ls hl => ?_)
  refine lv_iconst (v := (-1)) hx hb dX3_best_16 (by decide) ?_
  refine lv_istore (lv' := [(7, .int (-1)), (6, .int lo), (0, .ref mh), (1, .int ix), (2, .int lo), (3, .int hi), (4, .int v), (5, .int w)]) hx hb dX3_best_17 hl (by decide) rfl (fun ls hl => ?_)
  refine lv_iload_n hx hb dX3_best_19 rfl (lv_at hl 4 rfl) ?_
  refine lv_istore (lv' := [(8, .int lo), (7, .int (-1)), (6, .int lo), (0, .ref mh), (1, .int ix), (2, .int lo), (3, .int hi), (4, .int v), (5, .int w)]) hx hb dX3_best_20 hl (by decide) rfl (fun ls hl => ?_)
  exact J22 2000 (r1, le, co, li, ix, hi, v, w, lo, (-1), lo) h _ _ hP hD hS _ (lv_sub hl [3, 4, 6, 7, 8, 2, 1, 0] rfl)

theorem dX3_bestCorrection_0 : decode cX3_bestCorrection 0 = .ok (.aload_n 0, 1) := by decide +kernel
theorem dX3_bestCorrection_1 : decode cX3_bestCorrection 1 = .ok (.iconst 0, 1) := by decide +kernel
theorem dX3_bestCorrection_2 : decode cX3_bestCorrection 2 = .ok (.putfield 34, 3) := by decide +kernel
theorem dX3_bestCorrection_5 : decode cX3_bestCorrection 5 = .ok (.iload_n 1, 1) := by decide +kernel
theorem dX3_bestCorrection_6 : decode cX3_bestCorrection 6 = .ok (.invokestatic 92, 3) := by decide +kernel
theorem dX3_bestCorrection_9 : decode cX3_bestCorrection 9 = .ok (.ifCond .eq 24, 3) := by decide +kernel
theorem dX3_bestCorrection_12 : decode cX3_bestCorrection 12 = .ok (.aload_n 0, 1) := by decide +kernel
theorem dX3_bestCorrection_13 : decode cX3_bestCorrection 13 = .ok (.bipush 8, 2) := by decide +kernel
theorem dX3_bestCorrection_15 : decode cX3_bestCorrection 15 = .ok (.iload_n 1, 1) := by decide +kernel
theorem dX3_bestCorrection_16 : decode cX3_bestCorrection 16 = .ok (.iadd, 1) := by decide +kernel
theorem dX3_bestCorrection_17 : decode cX3_bestCorrection 17 = .ok (.bipush (-50), 2) := by decide +kernel
theorem dX3_bestCorrection_19 : decode cX3_bestCorrection 19 = .ok (.bipush 50, 2) := by decide +kernel
theorem dX3_bestCorrection_21 : decode cX3_bestCorrection 21 = .ok (.iload_n 1, 1) := by decide +kernel
theorem dX3_bestCorrection_22 : decode cX3_bestCorrection 22 = .ok (.bipush 10, 2) := by decide +kernel
theorem dX3_bestCorrection_24 : decode cX3_bestCorrection 24 = .ok (.invokevirtual 151, 3) := by decide +kernel
theorem dX3_bestCorrection_27 : decode cX3_bestCorrection 27 = .ok (.bipush 100, 2) := by decide +kernel
theorem dX3_bestCorrection_29 : decode cX3_bestCorrection 29 = .ok (.iadd, 1) := by decide +kernel
theorem dX3_bestCorrection_30 : decode cX3_bestCorrection 30 = .ok (.goto 8, 3) := by decide +kernel
theorem dX3_bestCorrection_33 : decode cX3_bestCorrection 33 = .ok (.aload_n 0, 1) := by decide +kernel
theorem dX3_bestCorrection_34 : decode cX3_bestCorrection 34 = .ok (.iconst 1, 1) := by decide +kernel
theorem dX3_bestCorrection_35 : decode cX3_bestCorrection 35 = .ok (.invokevirtual 49, 3) := by decide +kernel
theorem dX3_bestCorrection_38 : decode cX3_bestCorrection 38 = .ok (.ireturn, 1) := by decide +kernel
abbrev zX3_bestCorrection : List Cond := .code yX3_bestCorrection cX3_bestCorrection 2 (some .int) :: BIG
def fX3_bestCorrection (mo : MoT) (fn : (Nat → Int32)) (ft : (Nat → Int32)) (le : (Nat → Int32)) (co : (Nat → Int32)) (li : (Nat → Int32)) (v : Int32) : Option (Int32 × MoT × (Nat → Int32) × (Nat → Int32) × (Nat → Int32) × (Nat → Int32)) := (fX3_isSpeed v).bind (fun r1 => (if (b2i r1) = 0 then (fX3_fails (mo.1, mo.2.1, 0, mo.2.2.2.1, mo.2.2.2.2.1, mo.2.2.2.2.2) 1).bind (fun r3 => some (r3.1, r3.2, ft, le, co, li)) else (fX3_best (mo.1, mo.2.1, 0, mo.2.2.2.1, mo.2.2.2.2.1, mo.2.2.2.2.2) fn ft le co li (8 + v) (-50) 50 v 10).bind (fun r4 => some (r4.1 + 100, (mo.1, mo.2.1, 0, mo.2.2.2.1, mo.2.2.2.2.1, mo.2.2.2.2.2), r4.2.1, r4.2.2.1, r4.2.2.2.1, r4.2.2.2.2))))
set_option maxHeartbeats 4000000 in
set_option maxRecDepth 100000 in
theorem mtX3_bestCorrection (l : Launch) (D : va_G) (t : Nat → ClassId) (mh : Nat) (mb : Nat → Nat) (mo : MoT) (fn : (Nat → Int32)) (ft : (Nat → Int32)) (le : (Nat → Int32)) (co : (Nat → Int32)) (li : (Nat → Int32)) (v : Int32) (out : Int32 × MoT × (Nat → Int32) × (Nat → Int32) × (Nat → Int32) × (Nat → Int32)) (h : fX3_bestCorrection mo fn ft le co li v = some out)  (sz : Nat) : Met l yX3_bestCorrection zX3_bestCorrection ({ frames := 4, cells := 0, slots := 0, locals := 97 }) (sPc D t (gMo mh mb mo ++ (gA t (mb 0) 71 fn ++ (gA t (mb 1) 71 ft ++ (gA t (mb 5) 24 le ++ (gA t (mb 6) 24 co ++ (gA t (mb 7) 24 li)))))) sz [.ref mh, .int v]) (qI D t (gMo mh mb out.2.1 ++ (gA t (mb 0) 71 fn ++ (gA t (mb 1) 71 out.2.2.1 ++ (gA t (mb 5) 24 out.2.2.2.1 ++ (gA t (mb 6) 24 out.2.2.2.2.1 ++ (gA t (mb 7) 24 out.2.2.2.2.2)))))) out.1 (va_A (gMo mh mb mo ++ (gA t (mb 0) 71 fn ++ (gA t (mb 1) 71 ft ++ (gA t (mb 5) 24 le ++ (gA t (mb 6) 24 co ++ (gA t (mb 7) 24 li)))))) sz)) 0 0 (va_A (gMo mh mb mo ++ (gA t (mb 0) 71 fn ++ (gA t (mb 1) 71 ft ++ (gA t (mb 5) 24 le ++ (gA t (mb 6) 24 co ++ (gA t (mb 7) 24 li)))))) sz) := by
  refine met_of (Qf := fun A => qI D t (gMo mh mb out.2.1 ++ (gA t (mb 0) 71 fn ++ (gA t (mb 1) 71 out.2.2.1 ++ (gA t (mb 5) 24 out.2.2.2.1 ++ (gA t (mb 6) 24 out.2.2.2.2.1 ++ (gA t (mb 7) 24 out.2.2.2.2.2)))))) out.1 A) (cc := cX3_bestCorrection) (maxL := 2) (ret := some .int) (by decide) rfl (Nat.le_of_ble_eq_true rfl) ?_
  intro p e s m args below meth c A hx hb hr hml hts hown hlocks hA hP hK hD hE hS ls hl
  have htB : ∀ w ∈ BIG, w.before args s = true := fun w h => hts w (List.mem_cons_of_mem _ h)
  have hown : s.vm.findClass RX3 = some m.cls := hown
  have hl : lv_has ls 2 [(0, .ref mh), (1, .int v)] := hl
  unfold fX3_bestCorrection at h
  refine lv_aload_n hx hb dX3_bestCorrection_0 rfl (lv_at hl 0 rfl) ?_
  refine lv_iconst (v := 0) hx hb dX3_bestCorrection_1 (by decide) ?_
  refine va_put (D := D) (ci := 3) (v := .int 0) (ty := .int) (C := RX3) (T := TX3) (N := 14) hx hb htB inlX3 tyX3 tyX3_ok nmX3 hown hK hP hD hS 0 rfl rfl 6 (by decide) (htB _ kw114) (fun _ h9 => h9) rfl (by decide +kernel) rfl rfl (Nat.le_of_ble_eq_true rfl) dX3_bestCorrection_2 (fun H locs hP hD hS => ?_)
  have hP : va_P D vwCl (gMo mh mb (mo.1, mo.2.1, 0, mo.2.2.2.1, mo.2.2.2.2.1, mo.2.2.2.2.2) ++ (gA t (mb 0) 71 fn ++ (gA t (mb 1) 71 ft ++ (gA t (mb 5) 24 le ++ (gA t (mb 6) 24 co ++ (gA t (mb 7) 24 li)))))) H := hP
  have hD : va_D A (gMo mh mb (mo.1, mo.2.1, 0, mo.2.2.2.1, mo.2.2.2.2.1, mo.2.2.2.2.2) ++ (gA t (mb 0) 71 fn ++ (gA t (mb 1) 71 ft ++ (gA t (mb 5) 24 le ++ (gA t (mb 6) 24 co ++ (gA t (mb 7) 24 li)))))) := hD
  refine lv_iload_n hx hb dX3_bestCorrection_5 rfl (lv_at hl 1 rfl) ?_
  obtain ⟨r1, h1, h⟩ := ob h
  refine call_i (v := b2i r1) (wc := ([] : va_W)) (wc' := ([] : va_W)) (ws' := (gMo mh mb (mo.1, mo.2.1, 0, mo.2.2.2.1, mo.2.2.2.2.1, mo.2.2.2.2.2) ++ (gA t (mb 0) 71 fn ++ (gA t (mb 1) 71 ft ++ (gA t (mb 5) 24 le ++ (gA t (mb 6) 24 co ++ (gA t (mb 7) 24 li))))))) (cutB (bs := [gMo mh mb (mo.1, mo.2.1, 0, mo.2.2.2.1, mo.2.2.2.2.1, mo.2.2.2.2.2), gA t (mb 0) 71 fn, gA t (mb 1) 71 ft, gA t (mb 5) 24 le, gA t (mb 6) 24 co, gA t (mb 7) 24 li]) (cs := []) (cs' := []) (bs' := [gMo mh mb (mo.1, mo.2.1, 0, mo.2.2.2.1, mo.2.2.2.2.1, mo.2.2.2.2.2), gA t (mb 0) 71 fn, gA t (mb 1) 71 ft, gA t (mb 5) 24 le, gA t (mb 6) 24 co, gA t (mb 7) 24 li]) [] hP hD hS hA rfl rfl rfl rfl) hS (fun hPc hDc => va_runS (As := [.int v]) (rest := []) ⟨hx, hb, hml, hown, hts⟩ (mtX3_isSpeed l D t v r1 h1 _) (va_cwS 1 hts (gBS kw186 kw187 kw5 kw188) rfl rfl rfl (by decide +kernel) ⟨Nat.le_of_ble_eq_true rfl, Nat.le_of_ble_eq_true rfl⟩) (sPc_S hPc hK hDc hE) rfl rfl hl.1 rfl (lv_room (Nat.le_of_ble_eq_true rfl)) dX3_bestCorrection_6 ⟨Nat.zero_le _, Nat.zero_le _⟩) (fun H locs hP hD hS => ?_)
  refine lv_if_eq (tgt := 33) hx hb dX3_bestCorrection_9 (by decide) (fun c2 => ?_) (fun c2 => ?_)
  · have h := it_p c2 h
    refine lv_aload_n hx hb dX3_bestCorrection_33 rfl (lv_at hl 0 rfl) ?_
    refine lv_iconst (v := 1) hx hb dX3_bestCorrection_34 (by decide) ?_
    obtain ⟨r3, h3, h⟩ := ob h
    refine call_i (v := r3.1) (wc := (gMo mh mb (mo.1, mo.2.1, 0, mo.2.2.2.1, mo.2.2.2.2.1, mo.2.2.2.2.2))) (wc' := (gMo mh mb r3.2)) (ws' := (gMo mh mb r3.2 ++ (gA t (mb 0) 71 fn ++ (gA t (mb 1) 71 ft ++ (gA t (mb 5) 24 le ++ (gA t (mb 6) 24 co ++ (gA t (mb 7) 24 li))))))) (cutB (bs := [gMo mh mb (mo.1, mo.2.1, 0, mo.2.2.2.1, mo.2.2.2.2.1, mo.2.2.2.2.2), gA t (mb 0) 71 fn, gA t (mb 1) 71 ft, gA t (mb 5) 24 le, gA t (mb 6) 24 co, gA t (mb 7) 24 li]) (cs := [gMo mh mb (mo.1, mo.2.1, 0, mo.2.2.2.1, mo.2.2.2.2.1, mo.2.2.2.2.2)]) (cs' := [gMo mh mb r3.2]) (bs' := [gMo mh mb r3.2, gA t (mb 0) 71 fn, gA t (mb 1) 71 ft, gA t (mb 5) 24 le, gA t (mb 6) 24 co, gA t (mb 7) 24 li]) [0] hP hD hS hA rfl rfl rfl rfl) hS (fun hPc hDc => va_runV (As := [.int 1]) (rest := []) ⟨hx, hb, hml, hown, hts⟩ (mtX3_fails l D t mh mb (mo.1, mo.2.1, 0, mo.2.2.2.1, mo.2.2.2.2.1, mo.2.2.2.2.2) 1 r3 h3 _) (cwV 1 hts (gBV kw121 kw122 kw123 kw5 kw124) rfl rfl rfl (by decide +kernel) ⟨Nat.le_of_ble_eq_true rfl, Nat.le_of_ble_eq_true rfl⟩) (sPc_V hPc hK hDc hE (va_recv hK hP (ci := 3) (q0 := 0) rfl rfl)) rfl rfl hl.1 rfl (lv_room (Nat.le_of_ble_eq_true rfl)) dX3_bestCorrection_35 ⟨Nat.zero_le _, Nat.zero_le _⟩) (fun H locs hP hD hS => ?_)
    obtain rfl := os h
    exact ret_i hx hb hr hlocks hP hK hD hS dX3_bestCorrection_38
  · have h := it_n c2 h
    refine lv_aload_n hx hb dX3_bestCorrection_12 rfl (lv_at hl 0 rfl) ?_
    refine lv_bipush (v := 8) hx hb dX3_bestCorrection_13 (by decide) ?_
    refine lv_iload_n hx hb dX3_bestCorrection_15 rfl (lv_at hl 1 rfl) ?_
    refine lv_iadd hx hb dX3_bestCorrection_16 ?_
    refine lv_bipush (v := (-50)) hx hb dX3_bestCorrection_17 (by decide) ?_
    refine lv_bipush (v := 50) hx hb dX3_bestCorrection_19 (by decide) ?_
    refine lv_iload_n hx hb dX3_bestCorrection_21 rfl (lv_at hl 1 rfl) ?_
    refine lv_bipush (v := 10) hx hb dX3_bestCorrection_22 (by decide) ?_
    obtain ⟨r4, h4, h⟩ := ob h
    refine call_i (v := r4.1) (wc := (gMo mh mb (mo.1, mo.2.1, 0, mo.2.2.2.1, mo.2.2.2.2.1, mo.2.2.2.2.2) ++ (gA t (mb 0) 71 fn ++ (gA t (mb 1) 71 ft ++ (gA t (mb 5) 24 le ++ (gA t (mb 6) 24 co ++ (gA t (mb 7) 24 li))))))) (wc' := (gMo mh mb (mo.1, mo.2.1, 0, mo.2.2.2.1, mo.2.2.2.2.1, mo.2.2.2.2.2) ++ (gA t (mb 0) 71 fn ++ (gA t (mb 1) 71 r4.2.1 ++ (gA t (mb 5) 24 r4.2.2.1 ++ (gA t (mb 6) 24 r4.2.2.2.1 ++ (gA t (mb 7) 24 r4.2.2.2.2))))))) (ws' := (gMo mh mb (mo.1, mo.2.1, 0, mo.2.2.2.1, mo.2.2.2.2.1, mo.2.2.2.2.2) ++ (gA t (mb 0) 71 fn ++ (gA t (mb 1) 71 r4.2.1 ++ (gA t (mb 5) 24 r4.2.2.1 ++ (gA t (mb 6) 24 r4.2.2.2.1 ++ (gA t (mb 7) 24 r4.2.2.2.2))))))) (cutB (bs := [gMo mh mb (mo.1, mo.2.1, 0, mo.2.2.2.1, mo.2.2.2.2.1, mo.2.2.2.2.2), gA t (mb 0) 71 fn, gA t (mb 1) 71 ft, gA t (mb 5) 24 le, gA t (mb 6) 24 co, gA t (mb 7) 24 li]) (cs := [gMo mh mb (mo.1, mo.2.1, 0, mo.2.2.2.1, mo.2.2.2.2.1, mo.2.2.2.2.2), gA t (mb 0) 71 fn, gA t (mb 1) 71 ft, gA t (mb 5) 24 le, gA t (mb 6) 24 co, gA t (mb 7) 24 li]) (cs' := [gMo mh mb (mo.1, mo.2.1, 0, mo.2.2.2.1, mo.2.2.2.2.1, mo.2.2.2.2.2), gA t (mb 0) 71 fn, gA t (mb 1) 71 r4.2.1, gA t (mb 5) 24 r4.2.2.1, gA t (mb 6) 24 r4.2.2.2.1, gA t (mb 7) 24 r4.2.2.2.2]) (bs' := [gMo mh mb (mo.1, mo.2.1, 0, mo.2.2.2.1, mo.2.2.2.2.1, mo.2.2.2.2.2), gA t (mb 0) 71 fn, gA t (mb 1) 71 r4.2.1, gA t (mb 5) 24 r4.2.2.1, gA t (mb 6) 24 r4.2.2.2.1, gA t (mb 7) 24 r4.2.2.2.2]) [0, 1, 2, 3, 4, 5] hP hD hS hA rfl rfl rfl rfl) hS (fun hPc hDc => va_runV (As := [.int (8 + v), .int (-50), .int 50, .int v, .int 10]) (rest := []) ⟨hx, hb, hml, hown, hts⟩ (mtX3_best l D t mh mb (mo.1, mo.2.1, 0, mo.2.2.2.1, mo.2.2.2.2.1, mo.2.2.2.2.2) fn ft le co li (8 + v) (-50) 50 v 10 r4 h4 _) (cwV 5 hts (gBV kw534 kw535 kw536 kw5 kw537) rfl rfl rfl (by decide +kernel) ⟨Nat.le_of_ble_eq_true rfl, Nat.le_of_ble_eq_true rfl⟩) (sPc_V hPc hK hDc hE (va_recv hK hP (ci := 3) (q0 := 0) rfl rfl)) rfl rfl hl.1 rfl (lv_room (Nat.le_of_ble_eq_true rfl)) dX3_bestCorrection_24 ⟨Nat.zero_le _, Nat.zero_le _⟩) (fun H locs hP hD hS => ?_)
    refine lv_bipush (v := 100) hx hb dX3_bestCorrection_27 (by decide) ?_
    refine lv_iadd hx hb dX3_bestCorrection_29 ?_
    refine lv_goto (tgt := 38) hx hb dX3_bestCorrection_30 (by decide) ?_
    obtain rfl := os h
    exact ret_i hx hb hr hlocks hP hK hD hS dX3_bestCorrection_38

theorem dX3_bestSpring_0 : decode cX3_bestSpring 0 = .ok (.aload_n 0, 1) := by decide +kernel
theorem dX3_bestSpring_1 : decode cX3_bestSpring 1 = .ok (.iconst 0, 1) := by decide +kernel
theorem dX3_bestSpring_2 : decode cX3_bestSpring 2 = .ok (.putfield 34, 3) := by decide +kernel
theorem dX3_bestSpring_5 : decode cX3_bestSpring 5 = .ok (.iload_n 1, 1) := by decide +kernel
theorem dX3_bestSpring_6 : decode cX3_bestSpring 6 = .ok (.invokestatic 79, 3) := by decide +kernel
theorem dX3_bestSpring_9 : decode cX3_bestSpring 9 = .ok (.ifCond .eq 25, 3) := by decide +kernel
theorem dX3_bestSpring_12 : decode cX3_bestSpring 12 = .ok (.iload_n 2, 1) := by decide +kernel
theorem dX3_bestSpring_13 : decode cX3_bestSpring 13 = .ok (.invokestatic 92, 3) := by decide +kernel
theorem dX3_bestSpring_16 : decode cX3_bestSpring 16 = .ok (.ifCond .eq 18, 3) := by decide +kernel
theorem dX3_bestSpring_19 : decode cX3_bestSpring 19 = .ok (.aload_n 0, 1) := by decide +kernel
theorem dX3_bestSpring_20 : decode cX3_bestSpring 20 = .ok (.iconst 4, 1) := by decide +kernel
theorem dX3_bestSpring_21 : decode cX3_bestSpring 21 = .ok (.iload_n 1, 1) := by decide +kernel
theorem dX3_bestSpring_22 : decode cX3_bestSpring 22 = .ok (.iadd, 1) := by decide +kernel
theorem dX3_bestSpring_23 : decode cX3_bestSpring 23 = .ok (.iconst 1, 1) := by decide +kernel
theorem dX3_bestSpring_24 : decode cX3_bestSpring 24 = .ok (.bipush 99, 2) := by decide +kernel
theorem dX3_bestSpring_26 : decode cX3_bestSpring 26 = .ok (.iload_n 2, 1) := by decide +kernel
theorem dX3_bestSpring_27 : decode cX3_bestSpring 27 = .ok (.iconst 4, 1) := by decide +kernel
theorem dX3_bestSpring_28 : decode cX3_bestSpring 28 = .ok (.invokevirtual 151, 3) := by decide +kernel
theorem dX3_bestSpring_31 : decode cX3_bestSpring 31 = .ok (.goto 8, 3) := by decide +kernel
theorem dX3_bestSpring_34 : decode cX3_bestSpring 34 = .ok (.aload_n 0, 1) := by decide +kernel
theorem dX3_bestSpring_35 : decode cX3_bestSpring 35 = .ok (.iconst 1, 1) := by decide +kernel
theorem dX3_bestSpring_36 : decode cX3_bestSpring 36 = .ok (.invokevirtual 49, 3) := by decide +kernel
theorem dX3_bestSpring_39 : decode cX3_bestSpring 39 = .ok (.ireturn, 1) := by decide +kernel
abbrev zX3_bestSpring : List Cond := .code yX3_bestSpring cX3_bestSpring 3 (some .int) :: BIG
def fX3_bestSpring (mo : MoT) (fn : (Nat → Int32)) (ft : (Nat → Int32)) (le : (Nat → Int32)) (co : (Nat → Int32)) (li : (Nat → Int32)) (cu : Int32) (v : Int32) : Option (Int32 × MoT × (Nat → Int32) × (Nat → Int32) × (Nat → Int32) × (Nat → Int32)) := (fX3_isCurtain cu).bind (fun r1 => (if (b2i r1) = 0 then (fX3_fails (mo.1, mo.2.1, 0, mo.2.2.2.1, mo.2.2.2.2.1, mo.2.2.2.2.2) 1).bind (fun r3 => some (r3.1, r3.2, ft, le, co, li)) else (fX3_isSpeed v).bind (fun r4 => (if (b2i r4) = 0 then (fX3_fails (mo.1, mo.2.1, 0, mo.2.2.2.1, mo.2.2.2.2.1, mo.2.2.2.2.2) 1).bind (fun r6 => some (r6.1, r6.2, ft, le, co, li)) else (fX3_best (mo.1, mo.2.1, 0, mo.2.2.2.1, mo.2.2.2.2.1, mo.2.2.2.2.2) fn ft le co li (4 + cu) 1 99 v 4).bind (fun r7 => some (r7.1, (mo.1, mo.2.1, 0, mo.2.2.2.1, mo.2.2.2.2.1, mo.2.2.2.2.2), r7.2.1, r7.2.2.1, r7.2.2.2.1, r7.2.2.2.2))))))
set_option maxHeartbeats 4000000 in
set_option maxRecDepth 100000 in
theorem mtX3_bestSpring (l : Launch) (D : va_G) (t : Nat → ClassId) (mh : Nat) (mb : Nat → Nat) (mo : MoT) (fn : (Nat → Int32)) (ft : (Nat → Int32)) (le : (Nat → Int32)) (co : (Nat → Int32)) (li : (Nat → Int32)) (cu : Int32) (v : Int32) (out : Int32 × MoT × (Nat → Int32) × (Nat → Int32) × (Nat → Int32) × (Nat → Int32)) (h : fX3_bestSpring mo fn ft le co li cu v = some out)  (sz : Nat) : Met l yX3_bestSpring zX3_bestSpring ({ frames := 4, cells := 0, slots := 0, locals := 97 }) (sPc D t (gMo mh mb mo ++ (gA t (mb 0) 71 fn ++ (gA t (mb 1) 71 ft ++ (gA t (mb 5) 24 le ++ (gA t (mb 6) 24 co ++ (gA t (mb 7) 24 li)))))) sz [.ref mh, .int cu, .int v]) (qI D t (gMo mh mb out.2.1 ++ (gA t (mb 0) 71 fn ++ (gA t (mb 1) 71 out.2.2.1 ++ (gA t (mb 5) 24 out.2.2.2.1 ++ (gA t (mb 6) 24 out.2.2.2.2.1 ++ (gA t (mb 7) 24 out.2.2.2.2.2)))))) out.1 (va_A (gMo mh mb mo ++ (gA t (mb 0) 71 fn ++ (gA t (mb 1) 71 ft ++ (gA t (mb 5) 24 le ++ (gA t (mb 6) 24 co ++ (gA t (mb 7) 24 li)))))) sz)) 0 0 (va_A (gMo mh mb mo ++ (gA t (mb 0) 71 fn ++ (gA t (mb 1) 71 ft ++ (gA t (mb 5) 24 le ++ (gA t (mb 6) 24 co ++ (gA t (mb 7) 24 li)))))) sz) := by
  refine met_of (Qf := fun A => qI D t (gMo mh mb out.2.1 ++ (gA t (mb 0) 71 fn ++ (gA t (mb 1) 71 out.2.2.1 ++ (gA t (mb 5) 24 out.2.2.2.1 ++ (gA t (mb 6) 24 out.2.2.2.2.1 ++ (gA t (mb 7) 24 out.2.2.2.2.2)))))) out.1 A) (cc := cX3_bestSpring) (maxL := 3) (ret := some .int) (by decide) rfl (Nat.le_of_ble_eq_true rfl) ?_
  intro p e s m args below meth c A hx hb hr hml hts hown hlocks hA hP hK hD hE hS ls hl
  have htB : ∀ w ∈ BIG, w.before args s = true := fun w h => hts w (List.mem_cons_of_mem _ h)
  have hown : s.vm.findClass RX3 = some m.cls := hown
  have hl : lv_has ls 3 [(0, .ref mh), (1, .int cu), (2, .int v)] := hl
  unfold fX3_bestSpring at h
  refine lv_aload_n hx hb dX3_bestSpring_0 rfl (lv_at hl 0 rfl) ?_
  refine lv_iconst (v := 0) hx hb dX3_bestSpring_1 (by decide) ?_
  refine va_put (D := D) (ci := 3) (v := .int 0) (ty := .int) (C := RX3) (T := TX3) (N := 14) hx hb htB inlX3 tyX3 tyX3_ok nmX3 hown hK hP hD hS 0 rfl rfl 6 (by decide) (htB _ kw114) (fun _ h9 => h9) rfl (by decide +kernel) rfl rfl (Nat.le_of_ble_eq_true rfl) dX3_bestSpring_2 (fun H locs hP hD hS => ?_)
  have hP : va_P D vwCl (gMo mh mb (mo.1, mo.2.1, 0, mo.2.2.2.1, mo.2.2.2.2.1, mo.2.2.2.2.2) ++ (gA t (mb 0) 71 fn ++ (gA t (mb 1) 71 ft ++ (gA t (mb 5) 24 le ++ (gA t (mb 6) 24 co ++ (gA t (mb 7) 24 li)))))) H := hP
  have hD : va_D A (gMo mh mb (mo.1, mo.2.1, 0, mo.2.2.2.1, mo.2.2.2.2.1, mo.2.2.2.2.2) ++ (gA t (mb 0) 71 fn ++ (gA t (mb 1) 71 ft ++ (gA t (mb 5) 24 le ++ (gA t (mb 6) 24 co ++ (gA t (mb 7) 24 li)))))) := hD
  refine lv_iload_n hx hb dX3_bestSpring_5 rfl (lv_at hl 1 rfl) ?_
  obtain ⟨r1, h1, h⟩ := ob h
  refine call_i (v := b2i r1) (wc := ([] : va_W)) (wc' := ([] : va_W)) (ws' := (gMo mh mb (mo.1, mo.2.1, 0, mo.2.2.2.1, mo.2.2.2.2.1, mo.2.2.2.2.2) ++ (gA t (mb 0) 71 fn ++ (gA t (mb 1) 71 ft ++ (gA t (mb 5) 24 le ++ (gA t (mb 6) 24 co ++ (gA t (mb 7) 24 li))))))) (cutB (bs := [gMo mh mb (mo.1, mo.2.1, 0, mo.2.2.2.1, mo.2.2.2.2.1, mo.2.2.2.2.2), gA t (mb 0) 71 fn, gA t (mb 1) 71 ft, gA t (mb 5) 24 le, gA t (mb 6) 24 co, gA t (mb 7) 24 li]) (cs := []) (cs' := []) (bs' := [gMo mh mb (mo.1, mo.2.1, 0, mo.2.2.2.1, mo.2.2.2.2.1, mo.2.2.2.2.2), gA t (mb 0) 71 fn, gA t (mb 1) 71 ft, gA t (mb 5) 24 le, gA t (mb 6) 24 co, gA t (mb 7) 24 li]) [] hP hD hS hA rfl rfl rfl rfl) hS (fun hPc hDc => va_runS (As := [.int cu]) (rest := []) ⟨hx, hb, hml, hown, hts⟩ (mtX3_isCurtain l D t cu r1 h1 _) (va_cwS 1 hts (gBS kw115 kw116 kw5 kw117) rfl rfl rfl (by decide +kernel) ⟨Nat.le_of_ble_eq_true rfl, Nat.le_of_ble_eq_true rfl⟩) (sPc_S hPc hK hDc hE) rfl rfl hl.1 rfl (lv_room (Nat.le_of_ble_eq_true rfl)) dX3_bestSpring_6 ⟨Nat.zero_le _, Nat.zero_le _⟩) (fun H locs hP hD hS => ?_)
  refine lv_if_eq (tgt := 34) hx hb dX3_bestSpring_9 (by decide) (fun c2 => ?_) (fun c2 => ?_)
  · have h := it_p c2 h
    refine lv_aload_n hx hb dX3_bestSpring_34 rfl (lv_at hl 0 rfl) ?_
    refine lv_iconst (v := 1) hx hb dX3_bestSpring_35 (by decide) ?_
    obtain ⟨r3, h3, h⟩ := ob h
    refine call_i (v := r3.1) (wc := (gMo mh mb (mo.1, mo.2.1, 0, mo.2.2.2.1, mo.2.2.2.2.1, mo.2.2.2.2.2))) (wc' := (gMo mh mb r3.2)) (ws' := (gMo mh mb r3.2 ++ (gA t (mb 0) 71 fn ++ (gA t (mb 1) 71 ft ++ (gA t (mb 5) 24 le ++ (gA t (mb 6) 24 co ++ (gA t (mb 7) 24 li))))))) (cutB (bs := [gMo mh mb (mo.1, mo.2.1, 0, mo.2.2.2.1, mo.2.2.2.2.1, mo.2.2.2.2.2), gA t (mb 0) 71 fn, gA t (mb 1) 71 ft, gA t (mb 5) 24 le, gA t (mb 6) 24 co, gA t (mb 7) 24 li]) (cs := [gMo mh mb (mo.1, mo.2.1, 0, mo.2.2.2.1, mo.2.2.2.2.1, mo.2.2.2.2.2)]) (cs' := [gMo mh mb r3.2]) (bs' := [gMo mh mb r3.2, gA t (mb 0) 71 fn, gA t (mb 1) 71 ft, gA t (mb 5) 24 le, gA t (mb 6) 24 co, gA t (mb 7) 24 li]) [0] hP hD hS hA rfl rfl rfl rfl) hS (fun hPc hDc => va_runV (As := [.int 1]) (rest := []) ⟨hx, hb, hml, hown, hts⟩ (mtX3_fails l D t mh mb (mo.1, mo.2.1, 0, mo.2.2.2.1, mo.2.2.2.2.1, mo.2.2.2.2.2) 1 r3 h3 _) (cwV 1 hts (gBV kw121 kw122 kw123 kw5 kw124) rfl rfl rfl (by decide +kernel) ⟨Nat.le_of_ble_eq_true rfl, Nat.le_of_ble_eq_true rfl⟩) (sPc_V hPc hK hDc hE (va_recv hK hP (ci := 3) (q0 := 0) rfl rfl)) rfl rfl hl.1 rfl (lv_room (Nat.le_of_ble_eq_true rfl)) dX3_bestSpring_36 ⟨Nat.zero_le _, Nat.zero_le _⟩) (fun H locs hP hD hS => ?_)
    obtain rfl := os h
    exact ret_i hx hb hr hlocks hP hK hD hS dX3_bestSpring_39
  · have h := it_n c2 h
    refine lv_iload_n hx hb dX3_bestSpring_12 rfl (lv_at hl 2 rfl) ?_
    obtain ⟨r4, h4, h⟩ := ob h
    refine call_i (v := b2i r4) (wc := ([] : va_W)) (wc' := ([] : va_W)) (ws' := (gMo mh mb (mo.1, mo.2.1, 0, mo.2.2.2.1, mo.2.2.2.2.1, mo.2.2.2.2.2) ++ (gA t (mb 0) 71 fn ++ (gA t (mb 1) 71 ft ++ (gA t (mb 5) 24 le ++ (gA t (mb 6) 24 co ++ (gA t (mb 7) 24 li))))))) (cutB (bs := [gMo mh mb (mo.1, mo.2.1, 0, mo.2.2.2.1, mo.2.2.2.2.1, mo.2.2.2.2.2), gA t (mb 0) 71 fn, gA t (mb 1) 71 ft, gA t (mb 5) 24 le, gA t (mb 6) 24 co, gA t (mb 7) 24 li]) (cs := []) (cs' := []) (bs' := [gMo mh mb (mo.1, mo.2.1, 0, mo.2.2.2.1, mo.2.2.2.2.1, mo.2.2.2.2.2), gA t (mb 0) 71 fn, gA t (mb 1) 71 ft, gA t (mb 5) 24 le, gA t (mb 6) 24 co, gA t (mb 7) 24 li]) [] hP hD hS hA rfl rfl rfl rfl) hS (fun hPc hDc => va_runS (As := [.int v]) (rest := []) ⟨hx, hb, hml, hown, hts⟩ (mtX3_isSpeed l D t v r4 h4 _) (va_cwS 1 hts (gBS kw186 kw187 kw5 kw188) rfl rfl rfl (by decide +kernel) ⟨Nat.le_of_ble_eq_true rfl, Nat.le_of_ble_eq_true rfl⟩) (sPc_S hPc hK hDc hE) rfl rfl hl.1 rfl (lv_room (Nat.le_of_ble_eq_true rfl)) dX3_bestSpring_13 ⟨Nat.zero_le _, Nat.zero_le _⟩) (fun H locs hP hD hS => ?_)
    refine lv_if_eq (tgt := 34) hx hb dX3_bestSpring_16 (by decide) (fun c5 => ?_) (fun c5 => ?_)
    · have h := it_p c5 h
      refine lv_aload_n hx hb dX3_bestSpring_34 rfl (lv_at hl 0 rfl) ?_
      refine lv_iconst (v := 1) hx hb dX3_bestSpring_35 (by decide) ?_
      obtain ⟨r6, h6, h⟩ := ob h
      refine call_i (v := r6.1) (wc := (gMo mh mb (mo.1, mo.2.1, 0, mo.2.2.2.1, mo.2.2.2.2.1, mo.2.2.2.2.2))) (wc' := (gMo mh mb r6.2)) (ws' := (gMo mh mb r6.2 ++ (gA t (mb 0) 71 fn ++ (gA t (mb 1) 71 ft ++ (gA t (mb 5) 24 le ++ (gA t (mb 6) 24 co ++ (gA t (mb 7) 24 li))))))) (cutB (bs := [gMo mh mb (mo.1, mo.2.1, 0, mo.2.2.2.1, mo.2.2.2.2.1, mo.2.2.2.2.2), gA t (mb 0) 71 fn, gA t (mb 1) 71 ft, gA t (mb 5) 24 le, gA t (mb 6) 24 co, gA t (mb 7) 24 li]) (cs := [gMo mh mb (mo.1, mo.2.1, 0, mo.2.2.2.1, mo.2.2.2.2.1, mo.2.2.2.2.2)]) (cs' := [gMo mh mb r6.2]) (bs' := [gMo mh mb r6.2, gA t (mb 0) 71 fn, gA t (mb 1) 71 ft, gA t (mb 5) 24 le, gA t (mb 6) 24 co, gA t (mb 7) 24 li]) [0] hP hD hS hA rfl rfl rfl rfl) hS (fun hPc hDc => va_runV (As := [.int 1]) (rest := []) ⟨hx, hb, hml, hown, hts⟩ (mtX3_fails l D t mh mb (mo.1, mo.2.1, 0, mo.2.2.2.1, mo.2.2.2.2.1, mo.2.2.2.2.2) 1 r6 h6 _) (cwV 1 hts (gBV kw121 kw122 kw123 kw5 kw124) rfl rfl rfl (by decide +kernel) ⟨Nat.le_of_ble_eq_true rfl, Nat.le_of_ble_eq_true rfl⟩) (sPc_V hPc hK hDc hE (va_recv hK hP (ci := 3) (q0 := 0) rfl rfl)) rfl rfl hl.1 rfl (lv_room (Nat.le_of_ble_eq_true rfl)) dX3_bestSpring_36 ⟨Nat.zero_le _, Nat.zero_le _⟩) (fun H locs hP hD hS => ?_)
      obtain rfl := os h
      exact ret_i hx hb hr hlocks hP hK hD hS dX3_bestSpring_39
    · have h := it_n c5 h
      refine lv_aload_n hx hb dX3_bestSpring_19 rfl (lv_at hl 0 rfl) ?_
      refine lv_iconst (v := 4) hx hb dX3_bestSpring_20 (by decide) ?_
      refine lv_iload_n hx hb dX3_bestSpring_21 rfl (lv_at hl 1 rfl) ?_
      refine lv_iadd hx hb dX3_bestSpring_22 ?_
      refine lv_iconst (v := 1) hx hb dX3_bestSpring_23 (by decide) ?_
      refine lv_bipush (v := 99) hx hb dX3_bestSpring_24 (by decide) ?_
      refine lv_iload_n hx hb dX3_bestSpring_26 rfl (lv_at hl 2 rfl) ?_
      refine lv_iconst (v := 4) hx hb dX3_bestSpring_27 (by decide) ?_
      obtain ⟨r7, h7, h⟩ := ob h
      refine call_i (v := r7.1) (wc := (gMo mh mb (mo.1, mo.2.1, 0, mo.2.2.2.1, mo.2.2.2.2.1, mo.2.2.2.2.2) ++ (gA t (mb 0) 71 fn ++ (gA t (mb 1) 71 ft ++ (gA t (mb 5) 24 le ++ (gA t (mb 6) 24 co ++ (gA t (mb 7) 24 li))))))) (wc' := (gMo mh mb (mo.1, mo.2.1, 0, mo.2.2.2.1, mo.2.2.2.2.1, mo.2.2.2.2.2) ++ (gA t (mb 0) 71 fn ++ (gA t (mb 1) 71 r7.2.1 ++ (gA t (mb 5) 24 r7.2.2.1 ++ (gA t (mb 6) 24 r7.2.2.2.1 ++ (gA t (mb 7) 24 r7.2.2.2.2))))))) (ws' := (gMo mh mb (mo.1, mo.2.1, 0, mo.2.2.2.1, mo.2.2.2.2.1, mo.2.2.2.2.2) ++ (gA t (mb 0) 71 fn ++ (gA t (mb 1) 71 r7.2.1 ++ (gA t (mb 5) 24 r7.2.2.1 ++ (gA t (mb 6) 24 r7.2.2.2.1 ++ (gA t (mb 7) 24 r7.2.2.2.2))))))) (cutB (bs := [gMo mh mb (mo.1, mo.2.1, 0, mo.2.2.2.1, mo.2.2.2.2.1, mo.2.2.2.2.2), gA t (mb 0) 71 fn, gA t (mb 1) 71 ft, gA t (mb 5) 24 le, gA t (mb 6) 24 co, gA t (mb 7) 24 li]) (cs := [gMo mh mb (mo.1, mo.2.1, 0, mo.2.2.2.1, mo.2.2.2.2.1, mo.2.2.2.2.2), gA t (mb 0) 71 fn, gA t (mb 1) 71 ft, gA t (mb 5) 24 le, gA t (mb 6) 24 co, gA t (mb 7) 24 li]) (cs' := [gMo mh mb (mo.1, mo.2.1, 0, mo.2.2.2.1, mo.2.2.2.2.1, mo.2.2.2.2.2), gA t (mb 0) 71 fn, gA t (mb 1) 71 r7.2.1, gA t (mb 5) 24 r7.2.2.1, gA t (mb 6) 24 r7.2.2.2.1, gA t (mb 7) 24 r7.2.2.2.2]) (bs' := [gMo mh mb (mo.1, mo.2.1, 0, mo.2.2.2.1, mo.2.2.2.2.1, mo.2.2.2.2.2), gA t (mb 0) 71 fn, gA t (mb 1) 71 r7.2.1, gA t (mb 5) 24 r7.2.2.1, gA t (mb 6) 24 r7.2.2.2.1, gA t (mb 7) 24 r7.2.2.2.2]) [0, 1, 2, 3, 4, 5] hP hD hS hA rfl rfl rfl rfl) hS (fun hPc hDc => va_runV (As := [.int (4 + cu), .int 1, .int 99, .int v, .int 4]) (rest := []) ⟨hx, hb, hml, hown, hts⟩ (mtX3_best l D t mh mb (mo.1, mo.2.1, 0, mo.2.2.2.1, mo.2.2.2.2.1, mo.2.2.2.2.2) fn ft le co li (4 + cu) 1 99 v 4 r7 h7 _) (cwV 5 hts (gBV kw534 kw535 kw536 kw5 kw537) rfl rfl rfl (by decide +kernel) ⟨Nat.le_of_ble_eq_true rfl, Nat.le_of_ble_eq_true rfl⟩) (sPc_V hPc hK hDc hE (va_recv hK hP (ci := 3) (q0 := 0) rfl rfl)) rfl rfl hl.1 rfl (lv_room (Nat.le_of_ble_eq_true rfl)) dX3_bestSpring_28 ⟨Nat.zero_le _, Nat.zero_le _⟩) (fun H locs hP hD hS => ?_)
      refine lv_goto (tgt := 39) hx hb dX3_bestSpring_31 (by decide) ?_
      obtain rfl := os h
      exact ret_i hx hb hr hlocks hP hK hD hS dX3_bestSpring_39

theorem dX3_byShooting_0 : decode cX3_byShooting 0 = .ok (.aload_n 0, 1) := by decide +kernel
theorem dX3_byShooting_1 : decode cX3_byShooting 1 = .ok (.getfield 7, 3) := by decide +kernel
theorem dX3_byShooting_4 : decode cX3_byShooting 4 = .ok (.iconst 0, 1) := by decide +kernel
theorem dX3_byShooting_5 : decode cX3_byShooting 5 = .ok (.aload_n 0, 1) := by decide +kernel
theorem dX3_byShooting_6 : decode cX3_byShooting 6 = .ok (.getfield 13, 3) := by decide +kernel
theorem dX3_byShooting_9 : decode cX3_byShooting 9 = .ok (.iconst 0, 1) := by decide +kernel
theorem dX3_byShooting_10 : decode cX3_byShooting 10 = .ok (.invokestatic 45, 3) := by decide +kernel
theorem dX3_byShooting_13 : decode cX3_byShooting 13 = .ok (.aload_n 0, 1) := by decide +kernel
theorem dX3_byShooting_14 : decode cX3_byShooting 14 = .ok (.aload_n 0, 1) := by decide +kernel
theorem dX3_byShooting_15 : decode cX3_byShooting 15 = .ok (.getfield 13, 3) := by decide +kernel
theorem dX3_byShooting_18 : decode cX3_byShooting 18 = .ok (.iload_n 1, 1) := by decide +kernel
theorem dX3_byShooting_19 : decode cX3_byShooting 19 = .ok (.iload_n 2, 1) := by decide +kernel
theorem dX3_byShooting_20 : decode cX3_byShooting 20 = .ok (.invokevirtual 102, 3) := by decide +kernel
theorem dX3_byShooting_23 : decode cX3_byShooting 23 = .ok (.iload_n 3, 1) := by decide +kernel
theorem dX3_byShooting_24 : decode cX3_byShooting 24 = .ok (.iconst 1, 1) := by decide +kernel
theorem dX3_byShooting_25 : decode cX3_byShooting 25 = .ok (.if_icmp .ne 12, 3) := by decide +kernel
theorem dX3_byShooting_28 : decode cX3_byShooting 28 = .ok (.aload_n 0, 1) := by decide +kernel
theorem dX3_byShooting_29 : decode cX3_byShooting 29 = .ok (.getfield 13, 3) := by decide +kernel
theorem dX3_byShooting_32 : decode cX3_byShooting 32 = .ok (.iconst 4, 1) := by decide +kernel
theorem dX3_byShooting_33 : decode cX3_byShooting 33 = .ok (.iaload, 1) := by decide +kernel
theorem dX3_byShooting_34 : decode cX3_byShooting 34 = .ok (.goto 17, 3) := by decide +kernel
theorem dX3_byShooting_37 : decode cX3_byShooting 37 = .ok (.aload_n 0, 1) := by decide +kernel
theorem dX3_byShooting_38 : decode cX3_byShooting 38 = .ok (.iload_n 1, 1) := by decide +kernel
theorem dX3_byShooting_39 : decode cX3_byShooting 39 = .ok (.iload_n 3, 1) := by decide +kernel
theorem dX3_byShooting_40 : decode cX3_byShooting 40 = .ok (.ifCond .ne 7, 3) := by decide +kernel
theorem dX3_byShooting_43 : decode cX3_byShooting 43 = .ok (.iconst 4, 1) := by decide +kernel
theorem dX3_byShooting_44 : decode cX3_byShooting 44 = .ok (.goto 4, 3) := by decide +kernel
theorem dX3_byShooting_47 : decode cX3_byShooting 47 = .ok (.iconst 5, 1) := by decide +kernel
theorem dX3_byShooting_48 : decode cX3_byShooting 48 = .ok (.invokevirtual 75, 3) := by decide +kernel
theorem dX3_byShooting_51 : decode cX3_byShooting 51 = .ok (.ireturn, 1) := by decide +kernel
abbrev zX3_byShooting : List Cond := .code yX3_byShooting cX3_byShooting 4 (some .int) :: BIG
def fX3_byShooting (mo : MoT) (fn : (Nat → Int32)) (ft : (Nat → Int32)) (le : (Nat → Int32)) (co : (Nat → Int32)) (li : (Nat → Int32)) (v : Int32) (n : Int32) (w : Int32) : Option (Int32 × (Nat → Int32) × (Nat → Int32) × (Nat → Int32) × (Nat → Int32)) := (fX3_copies 71 fn 71 ft 0 0).bind (fun r1 => (fX3_shots mo r1 le co li v n).bind (fun r2 => (if w = 1 then some (r2.1 (Int32.toNatClampNeg 4), r2.1, r2.2.1, r2.2.2.1, r2.2.2.2) else (if w = 0 then (fX3_tells mo r2.2.2.2 v 4).bind (fun r6 => some (r6, r2.1, r2.2.1, r2.2.2.1, r2.2.2.2)) else (fX3_tells mo r2.2.2.2 v 5).bind (fun r5 => some (r5, r2.1, r2.2.1, r2.2.2.1, r2.2.2.2))))))
set_option maxHeartbeats 4000000 in
set_option maxRecDepth 100000 in
theorem mtX3_byShooting (l : Launch) (D : va_G) (t : Nat → ClassId) (mh : Nat) (mb : Nat → Nat) (mo : MoT) (fn : (Nat → Int32)) (ft : (Nat → Int32)) (le : (Nat → Int32)) (co : (Nat → Int32)) (li : (Nat → Int32)) (v : Int32) (n : Int32) (w : Int32) (out : Int32 × (Nat → Int32) × (Nat → Int32) × (Nat → Int32) × (Nat → Int32)) (h : fX3_byShooting mo fn ft le co li v n w = some out)  (sz : Nat) : Met l yX3_byShooting zX3_byShooting ({ frames := 5, cells := 0, slots := 0, locals := 116 }) (sPc D t (gMo mh mb mo ++ (gA t (mb 0) 71 fn ++ (gA t (mb 1) 71 ft ++ (gA t (mb 5) 24 le ++ (gA t (mb 6) 24 co ++ (gA t (mb 7) 24 li)))))) sz [.ref mh, .int v, .int n, .int w]) (qI D t (gMo mh mb mo ++ (gA t (mb 0) 71 fn ++ (gA t (mb 1) 71 out.2.1 ++ (gA t (mb 5) 24 out.2.2.1 ++ (gA t (mb 6) 24 out.2.2.2.1 ++ (gA t (mb 7) 24 out.2.2.2.2)))))) out.1 (va_A (gMo mh mb mo ++ (gA t (mb 0) 71 fn ++ (gA t (mb 1) 71 ft ++ (gA t (mb 5) 24 le ++ (gA t (mb 6) 24 co ++ (gA t (mb 7) 24 li)))))) sz)) 0 0 (va_A (gMo mh mb mo ++ (gA t (mb 0) 71 fn ++ (gA t (mb 1) 71 ft ++ (gA t (mb 5) 24 le ++ (gA t (mb 6) 24 co ++ (gA t (mb 7) 24 li)))))) sz) := by
  refine met_of (Qf := fun A => qI D t (gMo mh mb mo ++ (gA t (mb 0) 71 fn ++ (gA t (mb 1) 71 out.2.1 ++ (gA t (mb 5) 24 out.2.2.1 ++ (gA t (mb 6) 24 out.2.2.2.1 ++ (gA t (mb 7) 24 out.2.2.2.2)))))) out.1 A) (cc := cX3_byShooting) (maxL := 4) (ret := some .int) (by decide) rfl (Nat.le_of_ble_eq_true rfl) ?_
  intro p e s m args below meth c A hx hb hr hml hts hown hlocks hA hP hK hD hE hS ls hl
  have htB : ∀ w ∈ BIG, w.before args s = true := fun w h => hts w (List.mem_cons_of_mem _ h)
  have hown : s.vm.findClass RX3 = some m.cls := hown
  have hl : lv_has ls 4 [(0, .ref mh), (1, .int v), (2, .int n), (3, .int w)] := hl
  unfold fX3_byShooting at h
  refine lv_aload_n hx hb dX3_byShooting_0 rfl (lv_at hl 0 rfl) ?_
  refine va_get (D := D) (ci := 3) (v := .ref (mb 0)) (C := RX3) (T := TX3) (N := 14) hx hb htB inlX3 hown hK hP 0 rfl rfl 0 (by decide) (htB _ kw54) (fun _ h9 => h9) rfl dX3_byShooting_1 ?_
  refine lv_iconst (v := 0) hx hb dX3_byShooting_4 (by decide) ?_
  refine lv_aload_n hx hb dX3_byShooting_5 rfl (lv_at hl 0 rfl) ?_
  refine va_get (D := D) (ci := 3) (v := .ref (mb 1)) (C := RX3) (T := TX3) (N := 14) hx hb htB inlX3 hown hK hP 0 rfl rfl 1 (by decide) (htB _ kw55) (fun _ h9 => h9) rfl dX3_byShooting_6 ?_
  refine lv_iconst (v := 0) hx hb dX3_byShooting_9 (by decide) ?_
  obtain ⟨r1, h1, h⟩ := ob h
  refine call_v (wc := (gA t (mb 0) 71 fn ++ (gA t (mb 1) 71 ft))) (wc' := (gA t (mb 0) 71 fn ++ (gA t (mb 1) 71 r1))) (ws' := (gMo mh mb mo ++ (gA t (mb 0) 71 fn ++ (gA t (mb 1) 71 r1 ++ (gA t (mb 5) 24 le ++ (gA t (mb 6) 24 co ++ (gA t (mb 7) 24 li))))))) (cutB (bs := [gMo mh mb mo, gA t (mb 0) 71 fn, gA t (mb 1) 71 ft, gA t (mb 5) 24 le, gA t (mb 6) 24 co, gA t (mb 7) 24 li]) (cs := [gA t (mb 0) 71 fn, gA t (mb 1) 71 ft]) (cs' := [gA t (mb 0) 71 fn, gA t (mb 1) 71 r1]) (bs' := [gMo mh mb mo, gA t (mb 0) 71 fn, gA t (mb 1) 71 r1, gA t (mb 5) 24 le, gA t (mb 6) 24 co, gA t (mb 7) 24 li]) [1, 2] hP hD hS hA rfl rfl rfl rfl) hS (fun hPc hDc => va_runS (As := [.ref (mb 0), .int 0, .ref (mb 1), .int 0]) (rest := []) ⟨hx, hb, hml, hown, hts⟩ (mtX3_copies l D t (mb 0) 71 fn (mb 1) 71 ft 0 0 r1 h1 (by decide) (by decide) _) (va_cwS 4 hts (gBS kw130 kw131 kw5 kw132) rfl rfl rfl (by decide +kernel) ⟨Nat.le_of_ble_eq_true rfl, Nat.le_of_ble_eq_true rfl⟩) (sPc_S hPc hK hDc hE) rfl rfl hl.1 rfl (lv_room (Nat.le_of_ble_eq_true rfl)) dX3_byShooting_10 ⟨Nat.zero_le _, Nat.zero_le _⟩) (fun H locs hP hD hS => ?_)
  refine lv_aload_n hx hb dX3_byShooting_13 rfl (lv_at hl 0 rfl) ?_
  refine lv_aload_n hx hb dX3_byShooting_14 rfl (lv_at hl 0 rfl) ?_
  refine va_get (D := D) (ci := 3) (v := .ref (mb 1)) (C := RX3) (T := TX3) (N := 14) hx hb htB inlX3 hown hK hP 0 rfl rfl 1 (by decide) (htB _ kw55) (fun _ h9 => h9) rfl dX3_byShooting_15 ?_
  refine lv_iload_n hx hb dX3_byShooting_18 rfl (lv_at hl 1 rfl) ?_
  refine lv_iload_n hx hb dX3_byShooting_19 rfl (lv_at hl 2 rfl) ?_
  obtain ⟨r2, h2, h⟩ := ob h
  refine call_v (wc := (gMo mh mb mo ++ (gA t (mb 1) 71 r1 ++ (gA t (mb 5) 24 le ++ (gA t (mb 6) 24 co ++ (gA t (mb 7) 24 li)))))) (wc' := (gMo mh mb mo ++ (gA t (mb 1) 71 r2.1 ++ (gA t (mb 5) 24 r2.2.1 ++ (gA t (mb 6) 24 r2.2.2.1 ++ (gA t (mb 7) 24 r2.2.2.2)))))) (ws' := (gMo mh mb mo ++ (gA t (mb 0) 71 fn ++ (gA t (mb 1) 71 r2.1 ++ (gA t (mb 5) 24 r2.2.1 ++ (gA t (mb 6) 24 r2.2.2.1 ++ (gA t (mb 7) 24 r2.2.2.2))))))) (cutB (bs := [gMo mh mb mo, gA t (mb 0) 71 fn, gA t (mb 1) 71 r1, gA t (mb 5) 24 le, gA t (mb 6) 24 co, gA t (mb 7) 24 li]) (cs := [gMo mh mb mo, gA t (mb 1) 71 r1, gA t (mb 5) 24 le, gA t (mb 6) 24 co, gA t (mb 7) 24 li]) (cs' := [gMo mh mb mo, gA t (mb 1) 71 r2.1, gA t (mb 5) 24 r2.2.1, gA t (mb 6) 24 r2.2.2.1, gA t (mb 7) 24 r2.2.2.2]) (bs' := [gMo mh mb mo, gA t (mb 0) 71 fn, gA t (mb 1) 71 r2.1, gA t (mb 5) 24 r2.2.1, gA t (mb 6) 24 r2.2.2.1, gA t (mb 7) 24 r2.2.2.2]) [0, 2, 3, 4, 5] hP hD hS hA rfl rfl rfl rfl) hS (fun hPc hDc => va_runV (As := [.ref (mb 1), .int v, .int n]) (rest := []) ⟨hx, hb, hml, hown, hts⟩ (mtX3_shots l D t mh mb mo (mb 1) r1 le co li v n r2 h2 _) (cwV 3 hts (gBV kw287 kw288 kw289 kw5 kw290) rfl rfl rfl (by decide +kernel) ⟨Nat.le_of_ble_eq_true rfl, Nat.le_of_ble_eq_true rfl⟩) (sPc_V hPc hK hDc hE (va_recv hK hP (ci := 3) (q0 := 0) rfl rfl)) rfl rfl hl.1 rfl (lv_room (Nat.le_of_ble_eq_true rfl)) dX3_byShooting_20 ⟨Nat.zero_le _, Nat.zero_le _⟩) (fun H locs hP hD hS => ?_)
  refine lv_iload_n hx hb dX3_byShooting_23 rfl (lv_at hl 3 rfl) ?_
  refine lv_iconst (v := 1) hx hb dX3_byShooting_24 (by decide) ?_
  refine lv_icmp_ne (tgt := 37) hx hb dX3_byShooting_25 (by decide) (fun c3 => ?_) (fun c3 => ?_)
  · have h := it_n c3 h
    refine lv_aload_n hx hb dX3_byShooting_37 rfl (lv_at hl 0 rfl) ?_
    refine lv_iload_n hx hb dX3_byShooting_38 rfl (lv_at hl 1 rfl) ?_
    refine lv_iload_n hx hb dX3_byShooting_39 rfl (lv_at hl 3 rfl) ?_
    refine lv_if_ne (tgt := 47) hx hb dX3_byShooting_40 (by decide) (fun c4 => ?_) (fun c4 => ?_)
    · have h := it_n c4 h
      refine lv_iconst (v := 5) hx hb dX3_byShooting_47 (by decide) ?_
      obtain ⟨r5, h5, h⟩ := ob h
      refine call_i (v := r5) (wc := (gMo mh mb mo ++ (gA t (mb 7) 24 r2.2.2.2))) (wc' := (gMo mh mb mo ++ (gA t (mb 7) 24 r2.2.2.2))) (ws' := (gMo mh mb mo ++ (gA t (mb 0) 71 fn ++ (gA t (mb 1) 71 r2.1 ++ (gA t (mb 5) 24 r2.2.1 ++ (gA t (mb 6) 24 r2.2.2.1 ++ (gA t (mb 7) 24 r2.2.2.2))))))) (cutB (bs := [gMo mh mb mo, gA t (mb 0) 71 fn, gA t (mb 1) 71 r2.1, gA t (mb 5) 24 r2.2.1, gA t (mb 6) 24 r2.2.2.1, gA t (mb 7) 24 r2.2.2.2]) (cs := [gMo mh mb mo, gA t (mb 7) 24 r2.2.2.2]) (cs' := [gMo mh mb mo, gA t (mb 7) 24 r2.2.2.2]) (bs' := [gMo mh mb mo, gA t (mb 0) 71 fn, gA t (mb 1) 71 r2.1, gA t (mb 5) 24 r2.2.1, gA t (mb 6) 24 r2.2.2.1, gA t (mb 7) 24 r2.2.2.2]) [0, 5] hP hD hS hA rfl rfl rfl rfl) hS (fun hPc hDc => va_runV (As := [.int v, .int 5]) (rest := []) ⟨hx, hb, hml, hown, hts⟩ (mtX3_tells l D t mh mb mo r2.2.2.2 v 5 r5 h5 _) (cwV 2 hts (gBV kw311 kw312 kw313 kw5 kw314) rfl rfl rfl (by decide +kernel) ⟨Nat.le_of_ble_eq_true rfl, Nat.le_of_ble_eq_true rfl⟩) (sPc_V hPc hK hDc hE (va_recv hK hP (ci := 3) (q0 := 0) rfl rfl)) rfl rfl hl.1 rfl (lv_room (Nat.le_of_ble_eq_true rfl)) dX3_byShooting_48 ⟨Nat.zero_le _, Nat.zero_le _⟩) (fun H locs hP hD hS => ?_)
      obtain rfl := os h
      exact ret_i hx hb hr hlocks hP hK hD hS dX3_byShooting_51
    · have h := it_p c4 h
      refine lv_iconst (v := 4) hx hb dX3_byShooting_43 (by decide) ?_
      refine lv_goto (tgt := 48) hx hb dX3_byShooting_44 (by decide) ?_
      obtain ⟨r6, h6, h⟩ := ob h
      refine call_i (v := r6) (wc := (gMo mh mb mo ++ (gA t (mb 7) 24 r2.2.2.2))) (wc' := (gMo mh mb mo ++ (gA t (mb 7) 24 r2.2.2.2))) (ws' := (gMo mh mb mo ++ (gA t (mb 0) 71 fn ++ (gA t (mb 1) 71 r2.1 ++ (gA t (mb 5) 24 r2.2.1 ++ (gA t (mb 6) 24 r2.2.2.1 ++ (gA t (mb 7) 24 r2.2.2.2))))))) (cutB (bs := [gMo mh mb mo, gA t (mb 0) 71 fn, gA t (mb 1) 71 r2.1, gA t (mb 5) 24 r2.2.1, gA t (mb 6) 24 r2.2.2.1, gA t (mb 7) 24 r2.2.2.2]) (cs := [gMo mh mb mo, gA t (mb 7) 24 r2.2.2.2]) (cs' := [gMo mh mb mo, gA t (mb 7) 24 r2.2.2.2]) (bs' := [gMo mh mb mo, gA t (mb 0) 71 fn, gA t (mb 1) 71 r2.1, gA t (mb 5) 24 r2.2.1, gA t (mb 6) 24 r2.2.2.1, gA t (mb 7) 24 r2.2.2.2]) [0, 5] hP hD hS hA rfl rfl rfl rfl) hS (fun hPc hDc => va_runV (As := [.int v, .int 4]) (rest := []) ⟨hx, hb, hml, hown, hts⟩ (mtX3_tells l D t mh mb mo r2.2.2.2 v 4 r6 h6 _) (cwV 2 hts (gBV kw311 kw312 kw313 kw5 kw314) rfl rfl rfl (by decide +kernel) ⟨Nat.le_of_ble_eq_true rfl, Nat.le_of_ble_eq_true rfl⟩) (sPc_V hPc hK hDc hE (va_recv hK hP (ci := 3) (q0 := 0) rfl rfl)) rfl rfl hl.1 rfl (lv_room (Nat.le_of_ble_eq_true rfl)) dX3_byShooting_48 ⟨Nat.zero_le _, Nat.zero_le _⟩) (fun H locs hP hD hS => ?_)
      obtain rfl := os h
      exact ret_i hx hb hr hlocks hP hK hD hS dX3_byShooting_51
  · have h := it_p c3 h
    refine lv_aload_n hx hb dX3_byShooting_28 rfl (lv_at hl 0 rfl) ?_
    refine va_get (D := D) (ci := 3) (v := .ref (mb 1)) (C := RX3) (T := TX3) (N := 14) hx hb htB inlX3 hown hK hP 0 rfl rfl 1 (by decide) (htB _ kw55) (fun _ h9 => h9) rfl dX3_byShooting_29 ?_
    refine lv_iconst (v := 4) hx hb dX3_byShooting_32 (by decide) ?_
    refine va_iald hx hb hK hP 2 0 rfl rfl (pin_in (by decide)) dX3_byShooting_33 ?_
    refine lv_goto (tgt := 51) hx hb dX3_byShooting_34 (by decide) ?_
    obtain rfl := os h
    exact ret_i hx hb hr hlocks hP hK hD hS dX3_byShooting_51

theorem dX3_ifShot_0 : decode cX3_ifShot 0 = .ok (.aload_n 0, 1) := by decide +kernel
theorem dX3_ifShot_1 : decode cX3_ifShot 1 = .ok (.iconst 0, 1) := by decide +kernel
theorem dX3_ifShot_2 : decode cX3_ifShot 2 = .ok (.putfield 34, 3) := by decide +kernel
theorem dX3_ifShot_5 : decode cX3_ifShot 5 = .ok (.iload_n 1, 1) := by decide +kernel
theorem dX3_ifShot_6 : decode cX3_ifShot 6 = .ok (.invokestatic 92, 3) := by decide +kernel
theorem dX3_ifShot_9 : decode cX3_ifShot 9 = .ok (.ifCond .ne 9, 3) := by decide +kernel
theorem dX3_ifShot_12 : decode cX3_ifShot 12 = .ok (.aload_n 0, 1) := by decide +kernel
theorem dX3_ifShot_13 : decode cX3_ifShot 13 = .ok (.iconst 1, 1) := by decide +kernel
theorem dX3_ifShot_14 : decode cX3_ifShot 14 = .ok (.invokevirtual 49, 3) := by decide +kernel
theorem dX3_ifShot_17 : decode cX3_ifShot 17 = .ok (.ireturn, 1) := by decide +kernel
theorem dX3_ifShot_18 : decode cX3_ifShot 18 = .ok (.iload_n 2, 1) := by decide +kernel
theorem dX3_ifShot_19 : decode cX3_ifShot 19 = .ok (.iconst 1, 1) := by decide +kernel
theorem dX3_ifShot_20 : decode cX3_ifShot 20 = .ok (.bipush 50, 2) := by decide +kernel
theorem dX3_ifShot_22 : decode cX3_ifShot 22 = .ok (.invokestatic 38, 3) := by decide +kernel
theorem dX3_ifShot_25 : decode cX3_ifShot 25 = .ok (.ifCond .eq 22, 3) := by decide +kernel
theorem dX3_ifShot_28 : decode cX3_ifShot 28 = .ok (.iload_n 3, 1) := by decide +kernel
theorem dX3_ifShot_29 : decode cX3_ifShot 29 = .ok (.iconst 0, 1) := by decide +kernel
theorem dX3_ifShot_30 : decode cX3_ifShot 30 = .ok (.iconst 2, 1) := by decide +kernel
theorem dX3_ifShot_31 : decode cX3_ifShot 31 = .ok (.invokestatic 38, 3) := by decide +kernel
theorem dX3_ifShot_34 : decode cX3_ifShot 34 = .ok (.ifCond .eq 13, 3) := by decide +kernel
theorem dX3_ifShot_37 : decode cX3_ifShot 37 = .ok (.aload_n 0, 1) := by decide +kernel
theorem dX3_ifShot_38 : decode cX3_ifShot 38 = .ok (.iload_n 1, 1) := by decide +kernel
theorem dX3_ifShot_39 : decode cX3_ifShot 39 = .ok (.iload_n 2, 1) := by decide +kernel
theorem dX3_ifShot_40 : decode cX3_ifShot 40 = .ok (.iload_n 3, 1) := by decide +kernel
theorem dX3_ifShot_41 : decode cX3_ifShot 41 = .ok (.invokevirtual 155, 3) := by decide +kernel
theorem dX3_ifShot_44 : decode cX3_ifShot 44 = .ok (.goto 8, 3) := by decide +kernel
theorem dX3_ifShot_47 : decode cX3_ifShot 47 = .ok (.aload_n 0, 1) := by decide +kernel
theorem dX3_ifShot_48 : decode cX3_ifShot 48 = .ok (.iconst 2, 1) := by decide +kernel
theorem dX3_ifShot_49 : decode cX3_ifShot 49 = .ok (.invokevirtual 49, 3) := by decide +kernel
theorem dX3_ifShot_52 : decode cX3_ifShot 52 = .ok (.ireturn, 1) := by decide +kernel
abbrev zX3_ifShot : List Cond := .code yX3_ifShot cX3_ifShot 4 (some .int) :: BIG
def fX3_ifShot (mo : MoT) (fn : (Nat → Int32)) (ft : (Nat → Int32)) (le : (Nat → Int32)) (co : (Nat → Int32)) (li : (Nat → Int32)) (v : Int32) (n : Int32) (w : Int32) : Option (Int32 × MoT × (Nat → Int32) × (Nat → Int32) × (Nat → Int32) × (Nat → Int32)) := (fX3_isSpeed v).bind (fun r1 => (if (b2i r1) = 0 then (fX3_fails (mo.1, mo.2.1, 0, mo.2.2.2.1, mo.2.2.2.2.1, mo.2.2.2.2.2) 1).bind (fun r10 => some (r10.1, r10.2, ft, le, co, li)) else (fX3_in n 1 50).bind (fun r3 => (if (b2i r3) = 0 then (fX3_fails (mo.1, mo.2.1, 0, mo.2.2.2.1, mo.2.2.2.2.1, mo.2.2.2.2.2) 2).bind (fun r5 => some (r5.1, r5.2, ft, le, co, li)) else (fX3_in w 0 2).bind (fun r6 => (if (b2i r6) = 0 then (fX3_fails (mo.1, mo.2.1, 0, mo.2.2.2.1, mo.2.2.2.2.1, mo.2.2.2.2.2) 2).bind (fun r8 => some (r8.1, r8.2, ft, le, co, li)) else (fX3_byShooting (mo.1, mo.2.1, 0, mo.2.2.2.1, mo.2.2.2.2.1, mo.2.2.2.2.2) fn ft le co li v n w).bind (fun r9 => some (r9.1, (mo.1, mo.2.1, 0, mo.2.2.2.1, mo.2.2.2.2.1, mo.2.2.2.2.2), r9.2.1, r9.2.2.1, r9.2.2.2.1, r9.2.2.2.2))))))))
set_option maxHeartbeats 4000000 in
set_option maxRecDepth 100000 in
theorem mtX3_ifShot (l : Launch) (D : va_G) (t : Nat → ClassId) (mh : Nat) (mb : Nat → Nat) (mo : MoT) (fn : (Nat → Int32)) (ft : (Nat → Int32)) (le : (Nat → Int32)) (co : (Nat → Int32)) (li : (Nat → Int32)) (v : Int32) (n : Int32) (w : Int32) (out : Int32 × MoT × (Nat → Int32) × (Nat → Int32) × (Nat → Int32) × (Nat → Int32)) (h : fX3_ifShot mo fn ft le co li v n w = some out)  (sz : Nat) : Met l yX3_ifShot zX3_ifShot ({ frames := 6, cells := 0, slots := 0, locals := 139 }) (sPc D t (gMo mh mb mo ++ (gA t (mb 0) 71 fn ++ (gA t (mb 1) 71 ft ++ (gA t (mb 5) 24 le ++ (gA t (mb 6) 24 co ++ (gA t (mb 7) 24 li)))))) sz [.ref mh, .int v, .int n, .int w]) (qI D t (gMo mh mb out.2.1 ++ (gA t (mb 0) 71 fn ++ (gA t (mb 1) 71 out.2.2.1 ++ (gA t (mb 5) 24 out.2.2.2.1 ++ (gA t (mb 6) 24 out.2.2.2.2.1 ++ (gA t (mb 7) 24 out.2.2.2.2.2)))))) out.1 (va_A (gMo mh mb mo ++ (gA t (mb 0) 71 fn ++ (gA t (mb 1) 71 ft ++ (gA t (mb 5) 24 le ++ (gA t (mb 6) 24 co ++ (gA t (mb 7) 24 li)))))) sz)) 0 0 (va_A (gMo mh mb mo ++ (gA t (mb 0) 71 fn ++ (gA t (mb 1) 71 ft ++ (gA t (mb 5) 24 le ++ (gA t (mb 6) 24 co ++ (gA t (mb 7) 24 li)))))) sz) := by
  refine met_of (Qf := fun A => qI D t (gMo mh mb out.2.1 ++ (gA t (mb 0) 71 fn ++ (gA t (mb 1) 71 out.2.2.1 ++ (gA t (mb 5) 24 out.2.2.2.1 ++ (gA t (mb 6) 24 out.2.2.2.2.1 ++ (gA t (mb 7) 24 out.2.2.2.2.2)))))) out.1 A) (cc := cX3_ifShot) (maxL := 4) (ret := some .int) (by decide) rfl (Nat.le_of_ble_eq_true rfl) ?_
  intro p e s m args below meth c A hx hb hr hml hts hown hlocks hA hP hK hD hE hS ls hl
  have htB : ∀ w ∈ BIG, w.before args s = true := fun w h => hts w (List.mem_cons_of_mem _ h)
  have hown : s.vm.findClass RX3 = some m.cls := hown
  have hl : lv_has ls 4 [(0, .ref mh), (1, .int v), (2, .int n), (3, .int w)] := hl
  unfold fX3_ifShot at h
  refine lv_aload_n hx hb dX3_ifShot_0 rfl (lv_at hl 0 rfl) ?_
  refine lv_iconst (v := 0) hx hb dX3_ifShot_1 (by decide) ?_
  refine va_put (D := D) (ci := 3) (v := .int 0) (ty := .int) (C := RX3) (T := TX3) (N := 14) hx hb htB inlX3 tyX3 tyX3_ok nmX3 hown hK hP hD hS 0 rfl rfl 6 (by decide) (htB _ kw114) (fun _ h9 => h9) rfl (by decide +kernel) rfl rfl (Nat.le_of_ble_eq_true rfl) dX3_ifShot_2 (fun H locs hP hD hS => ?_)
  have hP : va_P D vwCl (gMo mh mb (mo.1, mo.2.1, 0, mo.2.2.2.1, mo.2.2.2.2.1, mo.2.2.2.2.2) ++ (gA t (mb 0) 71 fn ++ (gA t (mb 1) 71 ft ++ (gA t (mb 5) 24 le ++ (gA t (mb 6) 24 co ++ (gA t (mb 7) 24 li)))))) H := hP
  have hD : va_D A (gMo mh mb (mo.1, mo.2.1, 0, mo.2.2.2.1, mo.2.2.2.2.1, mo.2.2.2.2.2) ++ (gA t (mb 0) 71 fn ++ (gA t (mb 1) 71 ft ++ (gA t (mb 5) 24 le ++ (gA t (mb 6) 24 co ++ (gA t (mb 7) 24 li)))))) := hD
  refine lv_iload_n hx hb dX3_ifShot_5 rfl (lv_at hl 1 rfl) ?_
  obtain ⟨r1, h1, h⟩ := ob h
  refine call_i (v := b2i r1) (wc := ([] : va_W)) (wc' := ([] : va_W)) (ws' := (gMo mh mb (mo.1, mo.2.1, 0, mo.2.2.2.1, mo.2.2.2.2.1, mo.2.2.2.2.2) ++ (gA t (mb 0) 71 fn ++ (gA t (mb 1) 71 ft ++ (gA t (mb 5) 24 le ++ (gA t (mb 6) 24 co ++ (gA t (mb 7) 24 li))))))) (cutB (bs := [gMo mh mb (mo.1, mo.2.1, 0, mo.2.2.2.1, mo.2.2.2.2.1, mo.2.2.2.2.2), gA t (mb 0) 71 fn, gA t (mb 1) 71 ft, gA t (mb 5) 24 le, gA t (mb 6) 24 co, gA t (mb 7) 24 li]) (cs := []) (cs' := []) (bs' := [gMo mh mb (mo.1, mo.2.1, 0, mo.2.2.2.1, mo.2.2.2.2.1, mo.2.2.2.2.2), gA t (mb 0) 71 fn, gA t (mb 1) 71 ft, gA t (mb 5) 24 le, gA t (mb 6) 24 co, gA t (mb 7) 24 li]) [] hP hD hS hA rfl rfl rfl rfl) hS (fun hPc hDc => va_runS (As := [.int v]) (rest := []) ⟨hx, hb, hml, hown, hts⟩ (mtX3_isSpeed l D t v r1 h1 _) (va_cwS 1 hts (gBS kw186 kw187 kw5 kw188) rfl rfl rfl (by decide +kernel) ⟨Nat.le_of_ble_eq_true rfl, Nat.le_of_ble_eq_true rfl⟩) (sPc_S hPc hK hDc hE) rfl rfl hl.1 rfl (lv_room (Nat.le_of_ble_eq_true rfl)) dX3_ifShot_6 ⟨Nat.zero_le _, Nat.zero_le _⟩) (fun H locs hP hD hS => ?_)
  refine lv_if_ne (tgt := 18) hx hb dX3_ifShot_9 (by decide) (fun c2 => ?_) (fun c2 => ?_)
  · have h := it_n c2 h
    refine lv_iload_n hx hb dX3_ifShot_18 rfl (lv_at hl 2 rfl) ?_
    refine lv_iconst (v := 1) hx hb dX3_ifShot_19 (by decide) ?_
    refine lv_bipush (v := 50) hx hb dX3_ifShot_20 (by decide) ?_
    obtain ⟨r3, h3, h⟩ := ob h
    refine call_i (v := b2i r3) (wc := ([] : va_W)) (wc' := ([] : va_W)) (ws' := (gMo mh mb (mo.1, mo.2.1, 0, mo.2.2.2.1, mo.2.2.2.2.1, mo.2.2.2.2.2) ++ (gA t (mb 0) 71 fn ++ (gA t (mb 1) 71 ft ++ (gA t (mb 5) 24 le ++ (gA t (mb 6) 24 co ++ (gA t (mb 7) 24 li))))))) (cutB (bs := [gMo mh mb (mo.1, mo.2.1, 0, mo.2.2.2.1, mo.2.2.2.2.1, mo.2.2.2.2.2), gA t (mb 0) 71 fn, gA t (mb 1) 71 ft, gA t (mb 5) 24 le, gA t (mb 6) 24 co, gA t (mb 7) 24 li]) (cs := []) (cs' := []) (bs' := [gMo mh mb (mo.1, mo.2.1, 0, mo.2.2.2.1, mo.2.2.2.2.1, mo.2.2.2.2.2), gA t (mb 0) 71 fn, gA t (mb 1) 71 ft, gA t (mb 5) 24 le, gA t (mb 6) 24 co, gA t (mb 7) 24 li]) [] hP hD hS hA rfl rfl rfl rfl) hS (fun hPc hDc => va_runS (As := [.int n, .int 1, .int 50]) (rest := []) ⟨hx, hb, hml, hown, hts⟩ (mtX3_in l D t n 1 50 r3 h3 _) (va_cwS 3 hts (gBS kw118 kw119 kw5 kw120) rfl rfl rfl (by decide +kernel) ⟨Nat.le_of_ble_eq_true rfl, Nat.le_of_ble_eq_true rfl⟩) (sPc_S hPc hK hDc hE) rfl rfl hl.1 rfl (lv_room (Nat.le_of_ble_eq_true rfl)) dX3_ifShot_22 ⟨Nat.zero_le _, Nat.zero_le _⟩) (fun H locs hP hD hS => ?_)
    refine lv_if_eq (tgt := 47) hx hb dX3_ifShot_25 (by decide) (fun c4 => ?_) (fun c4 => ?_)
    · have h := it_p c4 h
      refine lv_aload_n hx hb dX3_ifShot_47 rfl (lv_at hl 0 rfl) ?_
      refine lv_iconst (v := 2) hx hb dX3_ifShot_48 (by decide) ?_
      obtain ⟨r5, h5, h⟩ := ob h
      refine call_i (v := r5.1) (wc := (gMo mh mb (mo.1, mo.2.1, 0, mo.2.2.2.1, mo.2.2.2.2.1, mo.2.2.2.2.2))) (wc' := (gMo mh mb r5.2)) (ws' := (gMo mh mb r5.2 ++ (gA t (mb 0) 71 fn ++ (gA t (mb 1) 71 ft ++ (gA t (mb 5) 24 le ++ (gA t (mb 6) 24 co ++ (gA t (mb 7) 24 li))))))) (cutB (bs := [gMo mh mb (mo.1, mo.2.1, 0, mo.2.2.2.1, mo.2.2.2.2.1, mo.2.2.2.2.2), gA t (mb 0) 71 fn, gA t (mb 1) 71 ft, gA t (mb 5) 24 le, gA t (mb 6) 24 co, gA t (mb 7) 24 li]) (cs := [gMo mh mb (mo.1, mo.2.1, 0, mo.2.2.2.1, mo.2.2.2.2.1, mo.2.2.2.2.2)]) (cs' := [gMo mh mb r5.2]) (bs' := [gMo mh mb r5.2, gA t (mb 0) 71 fn, gA t (mb 1) 71 ft, gA t (mb 5) 24 le, gA t (mb 6) 24 co, gA t (mb 7) 24 li]) [0] hP hD hS hA rfl rfl rfl rfl) hS (fun hPc hDc => va_runV (As := [.int 2]) (rest := []) ⟨hx, hb, hml, hown, hts⟩ (mtX3_fails l D t mh mb (mo.1, mo.2.1, 0, mo.2.2.2.1, mo.2.2.2.2.1, mo.2.2.2.2.2) 2 r5 h5 _) (cwV 1 hts (gBV kw121 kw122 kw123 kw5 kw124) rfl rfl rfl (by decide +kernel) ⟨Nat.le_of_ble_eq_true rfl, Nat.le_of_ble_eq_true rfl⟩) (sPc_V hPc hK hDc hE (va_recv hK hP (ci := 3) (q0 := 0) rfl rfl)) rfl rfl hl.1 rfl (lv_room (Nat.le_of_ble_eq_true rfl)) dX3_ifShot_49 ⟨Nat.zero_le _, Nat.zero_le _⟩) (fun H locs hP hD hS => ?_)
      obtain rfl := os h
      exact ret_i hx hb hr hlocks hP hK hD hS dX3_ifShot_52
    · have h := it_n c4 h
      refine lv_iload_n hx hb dX3_ifShot_28 rfl (lv_at hl 3 rfl) ?_
      refine lv_iconst (v := 0) hx hb dX3_ifShot_29 (by decide) ?_
      refine lv_iconst (v := 2) hx hb dX3_ifShot_30 (by decide) ?_
      obtain ⟨r6, h6, h⟩ := ob h
      refine call_i (v := b2i r6) (wc := ([] : va_W)) (wc' := ([] : va_W)) (ws' := (gMo mh mb (mo.1, mo.2.1, 0, mo.2.2.2.1, mo.2.2.2.2.1, mo.2.2.2.2.2) ++ (gA t (mb 0) 71 fn ++ (gA t (mb 1) 71 ft ++ (gA t (mb 5) 24 le ++ (gA t (mb 6) 24 co ++ (gA t (mb 7) 24 li))))))) (cutB (bs := [gMo mh mb (mo.1, mo.2.1, 0, mo.2.2.2.1, mo.2.2.2.2.1, mo.2.2.2.2.2), gA t (mb 0) 71 fn, gA t (mb 1) 71 ft, gA t (mb 5) 24 le, gA t (mb 6) 24 co, gA t (mb 7) 24 li]) (cs := []) (cs' := []) (bs' := [gMo mh mb (mo.1, mo.2.1, 0, mo.2.2.2.1, mo.2.2.2.2.1, mo.2.2.2.2.2), gA t (mb 0) 71 fn, gA t (mb 1) 71 ft, gA t (mb 5) 24 le, gA t (mb 6) 24 co, gA t (mb 7) 24 li]) [] hP hD hS hA rfl rfl rfl rfl) hS (fun hPc hDc => va_runS (As := [.int w, .int 0, .int 2]) (rest := []) ⟨hx, hb, hml, hown, hts⟩ (mtX3_in l D t w 0 2 r6 h6 _) (va_cwS 3 hts (gBS kw118 kw119 kw5 kw120) rfl rfl rfl (by decide +kernel) ⟨Nat.le_of_ble_eq_true rfl, Nat.le_of_ble_eq_true rfl⟩) (sPc_S hPc hK hDc hE) rfl rfl hl.1 rfl (lv_room (Nat.le_of_ble_eq_true rfl)) dX3_ifShot_31 ⟨Nat.zero_le _, Nat.zero_le _⟩) (fun H locs hP hD hS => ?_)
      refine lv_if_eq (tgt := 47) hx hb dX3_ifShot_34 (by decide) (fun c7 => ?_) (fun c7 => ?_)
      · have h := it_p c7 h
        refine lv_aload_n hx hb dX3_ifShot_47 rfl (lv_at hl 0 rfl) ?_
        refine lv_iconst (v := 2) hx hb dX3_ifShot_48 (by decide) ?_
        obtain ⟨r8, h8, h⟩ := ob h
        refine call_i (v := r8.1) (wc := (gMo mh mb (mo.1, mo.2.1, 0, mo.2.2.2.1, mo.2.2.2.2.1, mo.2.2.2.2.2))) (wc' := (gMo mh mb r8.2)) (ws' := (gMo mh mb r8.2 ++ (gA t (mb 0) 71 fn ++ (gA t (mb 1) 71 ft ++ (gA t (mb 5) 24 le ++ (gA t (mb 6) 24 co ++ (gA t (mb 7) 24 li))))))) (cutB (bs := [gMo mh mb (mo.1, mo.2.1, 0, mo.2.2.2.1, mo.2.2.2.2.1, mo.2.2.2.2.2), gA t (mb 0) 71 fn, gA t (mb 1) 71 ft, gA t (mb 5) 24 le, gA t (mb 6) 24 co, gA t (mb 7) 24 li]) (cs := [gMo mh mb (mo.1, mo.2.1, 0, mo.2.2.2.1, mo.2.2.2.2.1, mo.2.2.2.2.2)]) (cs' := [gMo mh mb r8.2]) (bs' := [gMo mh mb r8.2, gA t (mb 0) 71 fn, gA t (mb 1) 71 ft, gA t (mb 5) 24 le, gA t (mb 6) 24 co, gA t (mb 7) 24 li]) [0] hP hD hS hA rfl rfl rfl rfl) hS (fun hPc hDc => va_runV (As := [.int 2]) (rest := []) ⟨hx, hb, hml, hown, hts⟩ (mtX3_fails l D t mh mb (mo.1, mo.2.1, 0, mo.2.2.2.1, mo.2.2.2.2.1, mo.2.2.2.2.2) 2 r8 h8 _) (cwV 1 hts (gBV kw121 kw122 kw123 kw5 kw124) rfl rfl rfl (by decide +kernel) ⟨Nat.le_of_ble_eq_true rfl, Nat.le_of_ble_eq_true rfl⟩) (sPc_V hPc hK hDc hE (va_recv hK hP (ci := 3) (q0 := 0) rfl rfl)) rfl rfl hl.1 rfl (lv_room (Nat.le_of_ble_eq_true rfl)) dX3_ifShot_49 ⟨Nat.zero_le _, Nat.zero_le _⟩) (fun H locs hP hD hS => ?_)
        obtain rfl := os h
        exact ret_i hx hb hr hlocks hP hK hD hS dX3_ifShot_52
      · have h := it_n c7 h
        refine lv_aload_n hx hb dX3_ifShot_37 rfl (lv_at hl 0 rfl) ?_
        refine lv_iload_n hx hb dX3_ifShot_38 rfl (lv_at hl 1 rfl) ?_
        refine lv_iload_n hx hb dX3_ifShot_39 rfl (lv_at hl 2 rfl) ?_
        refine lv_iload_n hx hb dX3_ifShot_40 rfl (lv_at hl 3 rfl) ?_
        obtain ⟨r9, h9, h⟩ := ob h
        refine call_i (v := r9.1) (wc := (gMo mh mb (mo.1, mo.2.1, 0, mo.2.2.2.1, mo.2.2.2.2.1, mo.2.2.2.2.2) ++ (gA t (mb 0) 71 fn ++ (gA t (mb 1) 71 ft ++ (gA t (mb 5) 24 le ++ (gA t (mb 6) 24 co ++ (gA t (mb 7) 24 li))))))) (wc' := (gMo mh mb (mo.1, mo.2.1, 0, mo.2.2.2.1, mo.2.2.2.2.1, mo.2.2.2.2.2) ++ (gA t (mb 0) 71 fn ++ (gA t (mb 1) 71 r9.2.1 ++ (gA t (mb 5) 24 r9.2.2.1 ++ (gA t (mb 6) 24 r9.2.2.2.1 ++ (gA t (mb 7) 24 r9.2.2.2.2))))))) (ws' := (gMo mh mb (mo.1, mo.2.1, 0, mo.2.2.2.1, mo.2.2.2.2.1, mo.2.2.2.2.2) ++ (gA t (mb 0) 71 fn ++ (gA t (mb 1) 71 r9.2.1 ++ (gA t (mb 5) 24 r9.2.2.1 ++ (gA t (mb 6) 24 r9.2.2.2.1 ++ (gA t (mb 7) 24 r9.2.2.2.2))))))) (cutB (bs := [gMo mh mb (mo.1, mo.2.1, 0, mo.2.2.2.1, mo.2.2.2.2.1, mo.2.2.2.2.2), gA t (mb 0) 71 fn, gA t (mb 1) 71 ft, gA t (mb 5) 24 le, gA t (mb 6) 24 co, gA t (mb 7) 24 li]) (cs := [gMo mh mb (mo.1, mo.2.1, 0, mo.2.2.2.1, mo.2.2.2.2.1, mo.2.2.2.2.2), gA t (mb 0) 71 fn, gA t (mb 1) 71 ft, gA t (mb 5) 24 le, gA t (mb 6) 24 co, gA t (mb 7) 24 li]) (cs' := [gMo mh mb (mo.1, mo.2.1, 0, mo.2.2.2.1, mo.2.2.2.2.1, mo.2.2.2.2.2), gA t (mb 0) 71 fn, gA t (mb 1) 71 r9.2.1, gA t (mb 5) 24 r9.2.2.1, gA t (mb 6) 24 r9.2.2.2.1, gA t (mb 7) 24 r9.2.2.2.2]) (bs' := [gMo mh mb (mo.1, mo.2.1, 0, mo.2.2.2.1, mo.2.2.2.2.1, mo.2.2.2.2.2), gA t (mb 0) 71 fn, gA t (mb 1) 71 r9.2.1, gA t (mb 5) 24 r9.2.2.1, gA t (mb 6) 24 r9.2.2.2.1, gA t (mb 7) 24 r9.2.2.2.2]) [0, 1, 2, 3, 4, 5] hP hD hS hA rfl rfl rfl rfl) hS (fun hPc hDc => va_runV (As := [.int v, .int n, .int w]) (rest := []) ⟨hx, hb, hml, hown, hts⟩ (mtX3_byShooting l D t mh mb (mo.1, mo.2.1, 0, mo.2.2.2.1, mo.2.2.2.2.1, mo.2.2.2.2.2) fn ft le co li v n w r9 h9 _) (cwV 3 hts (gBV kw560 kw561 kw562 kw5 kw563) rfl rfl rfl (by decide +kernel) ⟨Nat.le_of_ble_eq_true rfl, Nat.le_of_ble_eq_true rfl⟩) (sPc_V hPc hK hDc hE (va_recv hK hP (ci := 3) (q0 := 0) rfl rfl)) rfl rfl hl.1 rfl (lv_room (Nat.le_of_ble_eq_true rfl)) dX3_ifShot_41 ⟨Nat.zero_le _, Nat.zero_le _⟩) (fun H locs hP hD hS => ?_)
        refine lv_goto (tgt := 52) hx hb dX3_ifShot_44 (by decide) ?_
        obtain rfl := os h
        exact ret_i hx hb hr hlocks hP hK hD hS dX3_ifShot_52
  · have h := it_p c2 h
    refine lv_aload_n hx hb dX3_ifShot_12 rfl (lv_at hl 0 rfl) ?_
    refine lv_iconst (v := 1) hx hb dX3_ifShot_13 (by decide) ?_
    obtain ⟨r10, h10, h⟩ := ob h
    refine call_i (v := r10.1) (wc := (gMo mh mb (mo.1, mo.2.1, 0, mo.2.2.2.1, mo.2.2.2.2.1, mo.2.2.2.2.2))) (wc' := (gMo mh mb r10.2)) (ws' := (gMo mh mb r10.2 ++ (gA t (mb 0) 71 fn ++ (gA t (mb 1) 71 ft ++ (gA t (mb 5) 24 le ++ (gA t (mb 6) 24 co ++ (gA t (mb 7) 24 li))))))) (cutB (bs := [gMo mh mb (mo.1, mo.2.1, 0, mo.2.2.2.1, mo.2.2.2.2.1, mo.2.2.2.2.2), gA t (mb 0) 71 fn, gA t (mb 1) 71 ft, gA t (mb 5) 24 le, gA t (mb 6) 24 co, gA t (mb 7) 24 li]) (cs := [gMo mh mb (mo.1, mo.2.1, 0, mo.2.2.2.1, mo.2.2.2.2.1, mo.2.2.2.2.2)]) (cs' := [gMo mh mb r10.2]) (bs' := [gMo mh mb r10.2, gA t (mb 0) 71 fn, gA t (mb 1) 71 ft, gA t (mb 5) 24 le, gA t (mb 6) 24 co, gA t (mb 7) 24 li]) [0] hP hD hS hA rfl rfl rfl rfl) hS (fun hPc hDc => va_runV (As := [.int 1]) (rest := []) ⟨hx, hb, hml, hown, hts⟩ (mtX3_fails l D t mh mb (mo.1, mo.2.1, 0, mo.2.2.2.1, mo.2.2.2.2.1, mo.2.2.2.2.2) 1 r10 h10 _) (cwV 1 hts (gBV kw121 kw122 kw123 kw5 kw124) rfl rfl rfl (by decide +kernel) ⟨Nat.le_of_ble_eq_true rfl, Nat.le_of_ble_eq_true rfl⟩) (sPc_V hPc hK hDc hE (va_recv hK hP (ci := 3) (q0 := 0) rfl rfl)) rfl rfl hl.1 rfl (lv_room (Nat.le_of_ble_eq_true rfl)) dX3_ifShot_14 ⟨Nat.zero_le _, Nat.zero_le _⟩) (fun H locs hP hD hS => ?_)
    obtain rfl := os h
    exact ret_i hx hb hr hlocks hP hK hD hS dX3_ifShot_17

theorem dX3_good_0 : decode cX3_good 0 = .ok (.aload_n 0, 1) := by decide +kernel
theorem dX3_good_1 : decode cX3_good 1 = .ok (.getfield 7, 3) := by decide +kernel
theorem dX3_good_4 : decode cX3_good 4 = .ok (.iconst 0, 1) := by decide +kernel
theorem dX3_good_5 : decode cX3_good 5 = .ok (.aload_n 0, 1) := by decide +kernel
theorem dX3_good_6 : decode cX3_good 6 = .ok (.getfield 13, 3) := by decide +kernel
theorem dX3_good_9 : decode cX3_good 9 = .ok (.iconst 0, 1) := by decide +kernel
theorem dX3_good_10 : decode cX3_good 10 = .ok (.invokestatic 45, 3) := by decide +kernel
theorem dX3_good_13 : decode cX3_good 13 = .ok (.iconst 0, 1) := by decide +kernel
theorem dX3_good_14 : decode cX3_good 14 = .ok (.istore_n 3, 1) := by decide +kernel
theorem dX3_good_15 : decode cX3_good 15 = .ok (.iconst 1, 1) := by decide +kernel
theorem dX3_good_16 : decode cX3_good 16 = .ok (.istore 4, 2) := by decide +kernel
theorem dX3_good_18 : decode cX3_good 18 = .ok (.iload_n 3, 1) := by decide +kernel
theorem dX3_good_19 : decode cX3_good 19 = .ok (.sipush 200, 3) := by decide +kernel
theorem dX3_good_22 : decode cX3_good 22 = .ok (.if_icmp .ge 50, 3) := by decide +kernel
theorem dX3_good_25 : decode cX3_good 25 = .ok (.iload 4, 2) := by decide +kernel
theorem dX3_good_27 : decode cX3_good 27 = .ok (.ifCond .eq 45, 3) := by decide +kernel
theorem dX3_good_30 : decode cX3_good 30 = .ok (.aload_n 0, 1) := by decide +kernel
theorem dX3_good_31 : decode cX3_good 31 = .ok (.aload_n 0, 1) := by decide +kernel
theorem dX3_good_32 : decode cX3_good 32 = .ok (.getfield 13, 3) := by decide +kernel
theorem dX3_good_35 : decode cX3_good 35 = .ok (.iload_n 1, 1) := by decide +kernel
theorem dX3_good_36 : decode cX3_good 36 = .ok (.invokevirtual 99, 3) := by decide +kernel
theorem dX3_good_39 : decode cX3_good 39 = .ok (.aload_n 0, 1) := by decide +kernel
theorem dX3_good_40 : decode cX3_good 40 = .ok (.iload_n 1, 1) := by decide +kernel
theorem dX3_good_41 : decode cX3_good 41 = .ok (.iconst 5, 1) := by decide +kernel
theorem dX3_good_42 : decode cX3_good 42 = .ok (.invokevirtual 75, 3) := by decide +kernel
theorem dX3_good_45 : decode cX3_good 45 = .ok (.iload_n 2, 1) := by decide +kernel
theorem dX3_good_46 : decode cX3_good 46 = .ok (.if_icmp .gt 7, 3) := by decide +kernel
theorem dX3_good_49 : decode cX3_good 49 = .ok (.iconst 1, 1) := by decide +kernel
theorem dX3_good_50 : decode cX3_good 50 = .ok (.goto 4, 3) := by decide +kernel
theorem dX3_good_53 : decode cX3_good 53 = .ok (.iconst 0, 1) := by decide +kernel
theorem dX3_good_54 : decode cX3_good 54 = .ok (.istore 4, 2) := by decide +kernel
theorem dX3_good_56 : decode cX3_good 56 = .ok (.iload_n 3, 1) := by decide +kernel
theorem dX3_good_57 : decode cX3_good 57 = .ok (.iload 4, 2) := by decide +kernel
theorem dX3_good_59 : decode cX3_good 59 = .ok (.ifCond .eq 7, 3) := by decide +kernel
theorem dX3_good_62 : decode cX3_good 62 = .ok (.iconst 1, 1) := by decide +kernel
theorem dX3_good_63 : decode cX3_good 63 = .ok (.goto 4, 3) := by decide +kernel
theorem dX3_good_66 : decode cX3_good 66 = .ok (.iconst 0, 1) := by decide +kernel
theorem dX3_good_67 : decode cX3_good 67 = .ok (.iadd, 1) := by decide +kernel
theorem dX3_good_68 : decode cX3_good 68 = .ok (.istore_n 3, 1) := by decide +kernel
theorem dX3_good_69 : decode cX3_good 69 = .ok (.goto (-51), 3) := by decide +kernel
theorem dX3_good_72 : decode cX3_good 72 = .ok (.iload_n 3, 1) := by decide +kernel
theorem dX3_good_73 : decode cX3_good 73 = .ok (.ireturn, 1) := by decide +kernel
abbrev zX3_good : List Cond := .code yX3_good cX3_good 5 (some .int) :: BIG
def fX3_good_l18 (mo : MoT) (fn : (Nat → Int32))  (K18 : ((Nat → Int32) × (Nat → Int32) × (Nat → Int32) × (Nat → Int32) × Int32 × Int32 × Int32 × Int32) → Option (Int32 × (Nat → Int32) × (Nat → Int32) × (Nat → Int32) × (Nat → Int32))) (v18 : (Nat → Int32) × (Nat → Int32) × (Nat → Int32) × (Nat → Int32) × Int32 × Int32 × Int32 × Int32) : Option (Int32 × (Nat → Int32) × (Nat → Int32) × (Nat → Int32) × (Nat → Int32)) := (if 200 ≤ v18.2.2.2.2.2.2.1 then some (v18.2.2.2.2.2.2.1, v18.1, v18.2.1, v18.2.2.1, v18.2.2.2.1) else (if v18.2.2.2.2.2.2.2 = 0 then some (v18.2.2.2.2.2.2.1, v18.1, v18.2.1, v18.2.2.1, v18.2.2.2.1) else (fX3_shoots mo v18.1 v18.2.1 v18.2.2.1 v18.2.2.2.1 v18.2.2.2.2.1).bind (fun r4 => (fX3_tells mo r4.2.2.2 v18.2.2.2.2.1 5).bind (fun r5 => (if v18.2.2.2.2.2.1 < r5 then K18 (r4.1, r4.2.1, r4.2.2.1, r4.2.2.2, v18.2.2.2.2.1, v18.2.2.2.2.2.1, v18.2.2.2.2.2.2.1 + 0, 0) else K18 (r4.1, r4.2.1, r4.2.2.1, r4.2.2.2, v18.2.2.2.2.1, v18.2.2.2.2.2.1, v18.2.2.2.2.2.2.1 + 1, 1))))))
def fX3_good (mo : MoT) (fn : (Nat → Int32)) (ft : (Nat → Int32)) (le : (Nat → Int32)) (co : (Nat → Int32)) (li : (Nat → Int32)) (v : Int32) (n : Int32) : Option (Int32 × (Nat → Int32) × (Nat → Int32) × (Nat → Int32) × (Nat → Int32)) := (fX3_copies 71 fn 71 ft 0 0).bind (fun r1 => lp (fX3_good_l18 mo fn) 2000 (r1, le, co, li, v, n, 0, 1))
set_option maxHeartbeats 4000000 in
set_option maxRecDepth 100000 in
theorem mtX3_good (l : Launch) (D : va_G) (t : Nat → ClassId) (mh : Nat) (mb : Nat → Nat) (mo : MoT) (fn : (Nat → Int32)) (ft : (Nat → Int32)) (le : (Nat → Int32)) (co : (Nat → Int32)) (li : (Nat → Int32)) (v : Int32) (n : Int32) (out : Int32 × (Nat → Int32) × (Nat → Int32) × (Nat → Int32) × (Nat → Int32)) (h : fX3_good mo fn ft le co li v n = some out)  (sz : Nat) : Met l yX3_good zX3_good ({ frames := 4, cells := 0, slots := 0, locals := 92 }) (sPc D t (gMo mh mb mo ++ (gA t (mb 0) 71 fn ++ (gA t (mb 1) 71 ft ++ (gA t (mb 5) 24 le ++ (gA t (mb 6) 24 co ++ (gA t (mb 7) 24 li)))))) sz [.ref mh, .int v, .int n]) (qI D t (gMo mh mb mo ++ (gA t (mb 0) 71 fn ++ (gA t (mb 1) 71 out.2.1 ++ (gA t (mb 5) 24 out.2.2.1 ++ (gA t (mb 6) 24 out.2.2.2.1 ++ (gA t (mb 7) 24 out.2.2.2.2)))))) out.1 (va_A (gMo mh mb mo ++ (gA t (mb 0) 71 fn ++ (gA t (mb 1) 71 ft ++ (gA t (mb 5) 24 le ++ (gA t (mb 6) 24 co ++ (gA t (mb 7) 24 li)))))) sz)) 0 0 (va_A (gMo mh mb mo ++ (gA t (mb 0) 71 fn ++ (gA t (mb 1) 71 ft ++ (gA t (mb 5) 24 le ++ (gA t (mb 6) 24 co ++ (gA t (mb 7) 24 li)))))) sz) := by
  refine met_of (Qf := fun A => qI D t (gMo mh mb mo ++ (gA t (mb 0) 71 fn ++ (gA t (mb 1) 71 out.2.1 ++ (gA t (mb 5) 24 out.2.2.1 ++ (gA t (mb 6) 24 out.2.2.2.1 ++ (gA t (mb 7) 24 out.2.2.2.2)))))) out.1 A) (cc := cX3_good) (maxL := 5) (ret := some .int) (by decide) rfl (Nat.le_of_ble_eq_true rfl) ?_
  intro p e s m args below meth c A hx hb hr hml hts hown hlocks hA hP hK hD hE hS ls hl
  have htB : ∀ w ∈ BIG, w.before args s = true := fun w h => hts w (List.mem_cons_of_mem _ h)
  have hown : s.vm.findClass RX3 = some m.cls := hown
  have hl : lv_has ls 5 [(0, .ref mh), (1, .int v), (2, .int n)] := hl
  unfold fX3_good at h
  have J18 : ∀ (fu18 : Nat) (v18 : (Nat → Int32) × (Nat → Int32) × (Nat → Int32) × (Nat → Int32) × Int32 × Int32 × Int32 × Int32), lp (fX3_good_l18 mo fn) fu18 v18 = some out → ∀ (H : Heap) (locs : List Loc), va_P D vwCl (gMo mh mb mo ++ (gA t (mb 0) 71 fn ++ (gA t (mb 1) 71 v18.1 ++ (gA t (mb 5) 24 v18.2.1 ++ (gA t (mb 6) 24 v18.2.2.1 ++ (gA t (mb 7) 24 v18.2.2.2.1)))))) H → va_D A (gMo mh mb mo ++ (gA t (mb 0) 71 fn ++ (gA t (mb 1) 71 v18.1 ++ (gA t (mb 5) 24 v18.2.1 ++ (gA t (mb 6) 24 v18.2.2.1 ++ (gA t (mb 7) 24 v18.2.2.2.1)))))) → va_S A s.heap H locs → ∀ ls : Array Slot, lv_has ls 5 [(0, .ref mh), (1, .int v18.2.2.2.2.1), (2, .int v18.2.2.2.2.2.1), (3, .int v18.2.2.2.2.2.2.1), (4, .int v18.2.2.2.2.2.2.2)] → W p l e ({ frames := 4, cells := 0, slots := 0, locals := 92 }) s m args below meth c H locs 0 0 (MQ below (qI D t (gMo mh mb mo ++ (gA t (mb 0) 71 fn ++ (gA t (mb 1) 71 out.2.1 ++ (gA t (mb 5) 24 out.2.2.1 ++ (gA t (mb 6) 24 out.2.2.2.1 ++ (gA t (mb 7) 24 out.2.2.2.2)))))) out.1 A) args s 0 0 A) (F0 m 18 ls []) := by
    intro fu18
    induction fu18 with
    | zero => intro v18 h; cases h
    | succ fu18 ih18 =>
      intro v18 h H locs hP hD hS ls hl
      have h : fX3_good_l18 mo fn (lp (fX3_good_l18 mo fn) fu18) v18 = some out := h
      unfold fX3_good_l18 at h
      refine lv_iload_n hx hb dX3_good_18 rfl (lv_at hl 3 rfl) ?_
      refine lv_sipush (v := 200) hx hb dX3_good_19 (by decide) ?_
      refine lv_icmp_ge (tgt := 72) hx hb dX3_good_22 (by decide) (fun c2 => ?_) (fun c2 => ?_)
      · have h := it_p c2 h
        refine lv_iload_n hx hb dX3_good_72 rfl (lv_at hl 3 rfl) ?_
        obtain rfl := os h
        exact ret_i hx hb hr hlocks hP hK hD hS dX3_good_73
      · have h := it_n c2 h
        refine lv_iload hx hb dX3_good_25 (lv_at hl 4 rfl) ?_
        refine lv_if_eq (tgt := 72) hx hb dX3_good_27 (by decide) (fun c3 => ?_) (fun c3 => ?_)
        · have h := it_p c3 h
          refine lv_iload_n hx hb dX3_good_72 rfl (lv_at hl 3 rfl) ?_
          obtain rfl := os h
          exact ret_i hx hb hr hlocks hP hK hD hS dX3_good_73
        · have h := it_n c3 h
          refine lv_aload_n hx hb dX3_good_30 rfl (lv_at hl 0 rfl) ?_
          refine lv_aload_n hx hb dX3_good_31 rfl (lv_at hl 0 rfl) ?_
          refine va_get (D := D) (ci := 3) (v := .ref (mb 1)) (C := RX3) (T := TX3) (N := 14) hx hb htB inlX3 hown hK hP 0 rfl rfl 1 (by decide) (htB _ kw55) (fun _ h9 => h9) rfl dX3_good_32 ?_
          refine lv_iload_n hx hb dX3_good_35 rfl (lv_at hl 1 rfl) ?_
          obtain ⟨r4, h4, h⟩ := ob h
          refine call_v (wc := (gMo mh mb mo ++ (gA t (mb 1) 71 v18.1 ++ (gA t (mb 5) 24 v18.2.1 ++ (gA t (mb 6) 24 v18.2.2.1 ++ (gA t (mb 7) 24 v18.2.2.2.1)))))) (wc' := (gMo mh mb mo ++ (gA t (mb 1) 71 r4.1 ++ (gA t (mb 5) 24 r4.2.1 ++ (gA t (mb 6) 24 r4.2.2.1 ++ (gA t (mb 7) 24 r4.2.2.2)))))) (ws' := (gMo mh mb mo ++ (gA t (mb 0) 71 fn ++ (gA t (mb 1) 71 r4.1 ++ (gA t (mb 5) 24 r4.2.1 ++ (gA t (mb 6) 24 r4.2.2.1 ++ (gA t (mb 7) 24 r4.2.2.2))))))) (cutB (bs := [gMo mh mb mo, gA t (mb 0) 71 fn, gA t (mb 1) 71 v18.1, gA t (mb 5) 24 v18.2.1, gA t (mb 6) 24 v18.2.2.1, gA t (mb 7) 24 v18.2.2.2.1]) (cs := [gMo mh mb mo, gA t (mb 1) 71 v18.1, gA t (mb 5) 24 v18.2.1, gA t (mb 6) 24 v18.2.2.1, gA t (mb 7) 24 v18.2.2.2.1]) (cs' := [gMo mh mb mo, gA t (mb 1) 71 r4.1, gA t (mb 5) 24 r4.2.1, gA t (mb 6) 24 r4.2.2.1, gA t (mb 7) 24 r4.2.2.2]) (bs' := [gMo mh mb mo, gA t (mb 0) 71 fn, gA t (mb 1) 71 r4.1, gA t (mb 5) 24 r4.2.1, gA t (mb 6) 24 r4.2.2.1, gA t (mb 7) 24 r4.2.2.2]) [0, 2, 3, 4, 5] hP hD hS hA rfl rfl rfl rfl) hS (fun hPc hDc => va_runV (As := [.ref (mb 1), .int v18.2.2.2.2.1]) (rest := []) ⟨hx, hb, hml, hown, hts⟩ (mtX3_shoots l D t mh mb mo (mb 1) v18.1 v18.2.1 v18.2.2.1 v18.2.2.2.1 v18.2.2.2.2.1 r4 h4 _) (cwV 2 hts (gBV kw291 kw292 kw293 kw5 kw294) rfl rfl rfl (by decide +kernel) ⟨Nat.le_of_ble_eq_true rfl, Nat.le_of_ble_eq_true rfl⟩) (sPc_V hPc hK hDc hE (va_recv hK hP (ci := 3) (q0 := 0) rfl rfl)) rfl rfl hl.1 rfl (lv_room (Nat.le_of_ble_eq_true rfl)) dX3_good_36 ⟨Nat.zero_le _, Nat.zero_le _⟩) (fun H locs hP hD hS => ?_)
          refine lv_aload_n hx hb dX3_good_39 rfl (lv_at hl 0 rfl) ?_
          refine lv_iload_n hx hb dX3_good_40 rfl (lv_at hl 1 rfl) ?_
          refine lv_iconst (v := 5) hx hb dX3_good_41 (by decide) ?_
          obtain ⟨r5, h5, h⟩ := ob h
          refine call_i (v := r5) (wc := (gMo mh mb mo ++ (gA t (mb 7) 24 r4.2.2.2))) (wc' := (gMo mh mb mo ++ (gA t (mb 7) 24 r4.2.2.2))) (ws' := (gMo mh mb mo ++ (gA t (mb 0) 71 fn ++ (gA t (mb 1) 71 r4.1 ++ (gA t (mb 5) 24 r4.2.1 ++ (gA t (mb 6) 24 r4.2.2.1 ++ (gA t (mb 7) 24 r4.2.2.2))))))) (cutB (bs := [gMo mh mb mo, gA t (mb 0) 71 fn, gA t (mb 1) 71 r4.1, gA t (mb 5) 24 r4.2.1, gA t (mb 6) 24 r4.2.2.1, gA t (mb 7) 24 r4.2.2.2]) (cs := [gMo mh mb mo, gA t (mb 7) 24 r4.2.2.2]) (cs' := [gMo mh mb mo, gA t (mb 7) 24 r4.2.2.2]) (bs' := [gMo mh mb mo, gA t (mb 0) 71 fn, gA t (mb 1) 71 r4.1, gA t (mb 5) 24 r4.2.1, gA t (mb 6) 24 r4.2.2.1, gA t (mb 7) 24 r4.2.2.2]) [0, 5] hP hD hS hA rfl rfl rfl rfl) hS (fun hPc hDc => va_runV (As := [.int v18.2.2.2.2.1, .int 5]) (rest := []) ⟨hx, hb, hml, hown, hts⟩ (mtX3_tells l D t mh mb mo r4.2.2.2 v18.2.2.2.2.1 5 r5 h5 _) (cwV 2 hts (gBV kw311 kw312 kw313 kw5 kw314) rfl rfl rfl (by decide +kernel) ⟨Nat.le_of_ble_eq_true rfl, Nat.le_of_ble_eq_true rfl⟩) (sPc_V hPc hK hDc hE (va_recv hK hP (ci := 3) (q0 := 0) rfl rfl)) rfl rfl hl.1 rfl (lv_room (Nat.le_of_ble_eq_true rfl)) dX3_good_42 ⟨Nat.zero_le _, Nat.zero_le _⟩) (fun H locs hP hD hS => ?_)
          refine lv_iload_n hx hb dX3_good_45 rfl (lv_at hl 2 rfl) ?_
          refine lv_icmp_gt (tgt := 53) hx hb dX3_good_46 (by decide) (fun c6 => ?_) (fun c6 => ?_)
          · have h := it_p c6 h
            refine lv_iconst (v := 0) hx hb dX3_good_53 (by decide) ?_
            refine lv_istore (lv' := [(4, .int 0), (0, .ref mh), (1, .int v18.2.2.2.2.1), (2, .int v18.2.2.2.2.2.1), (3, .int v18.2.2.2.2.2.2.1)]) hx hb dX3_good_54 hl (by decide) rfl (fun ls hl => ?_)
            refine lv_iload_n hx hb dX3_good_56 rfl (lv_at hl 4 rfl) ?_
            refine lv_iload hx hb dX3_good_57 (lv_at hl 0 rfl) ?_
            refine lv_if_eq (tgt := 66) hx hb dX3_good_59 (by decide) (fun c7 => ?_) (fun c7 => ?_)
            · refine lv_iconst (v := 0) hx hb dX3_good_66 (by decide) ?_
              refine lv_iadd hx hb dX3_good_67 ?_
              refine lv_istore_n (lv' := [(3, .int (v18.2.2.2.2.2.2.1 + 0)), (4, .int 0), (0, .ref mh), (1, .int v18.2.2.2.2.1), (2, .int v18.2.2.2.2.2.1)]) hx hb dX3_good_68 rfl hl (by decide) rfl (fun ls hl => ?_)
              refine lv_goto (tgt := 18) hx hb dX3_good_69 (by decide) ?_
              exact ih18 (r4.1, r4.2.1, r4.2.2.1, r4.2.2.2, v18.2.2.2.2.1, v18.2.2.2.2.2.1, v18.2.2.2.2.2.2.1 + 0, 0) h _ _ hP hD hS _ (lv_sub hl [2, 3, 4, 0, 1] rfl)
            · exact absurd c7 (by decide)
          · have h := it_n c6 h
            refine lv_iconst (v := 1) hx hb dX3_good_49 (by decide) ?_
            refine lv_goto (tgt := 54) hx hb dX3_good_50 (by decide) ?_
            refine lv_istore (lv' := [(4, .int 1), (0, .ref mh), (1, .int v18.2.2.2.2.1), (2, .int v18.2.2.2.2.2.1), (3, .int v18.2.2.2.2.2.2.1)]) hx hb dX3_good_54 hl (by decide) rfl (fun ls hl => ?_)
            refine lv_iload_n hx hb dX3_good_56 rfl (lv_at hl 4 rfl) ?_
            refine lv_iload hx hb dX3_good_57 (lv_at hl 0 rfl) ?_
            refine lv_if_eq (tgt := 66) hx hb dX3_good_59 (by decide) (fun c8 => ?_) (fun c8 => ?_)
            · exact absurd c8 (by decide)
            · refine lv_iconst (v := 1) hx hb dX3_good_62 (by decide) ?_
              refine lv_goto (tgt := 67) hx hb dX3_good_63 (by decide) ?_
              refine lv_iadd hx hb dX3_good_67 ?_
              refine lv_istore_n (lv' := [(3, .int (v18.2.2.2.2.2.2.1 + 1)), (4, .int 1), (0, .ref mh), (1, .int v18.2.2.2.2.1), (2, .int v18.2.2.2.2.2.1)]) hx hb dX3_good_68 rfl hl (by decide) rfl (fun ls hl => ?_)
              refine lv_goto (tgt := 18) hx hb dX3_good_69 (by decide) ?_
              exact ih18 (r4.1, r4.2.1, r4.2.2.1, r4.2.2.2, v18.2.2.2.2.1, v18.2.2.2.2.2.1, v18.2.2.2.2.2.2.1 + 1, 1) h _ _ hP hD hS _ (lv_sub hl [2, 3, 4, 0, 1] rfl)
  refine lv_aload_n hx hb dX3_good_0 rfl (lv_at hl 0 rfl) ?_
  refine va_get (D := D) (ci := 3) (v := .ref (mb 0)) (C := RX3) (T := TX3) (N := 14) hx hb htB inlX3 hown hK hP 0 rfl rfl 0 (by decide) (htB _ kw54) (fun _ h9 => h9) rfl dX3_good_1 ?_
  refine lv_iconst (v := 0) hx hb dX3_good_4 (by decide) ?_
  refine lv_aload_n hx hb dX3_good_5 rfl (lv_at hl 0 rfl) ?_
  refine va_get (D := D) (ci := 3) (v := .ref (mb 1)) (C := RX3) (T := TX3) (N := 14) hx hb htB inlX3 hown hK hP 0 rfl rfl 1 (by decide) (htB _ kw55) (fun _ h9 => h9) rfl dX3_good_6 ?_
  refine lv_iconst (v := 0) hx hb dX3_good_9 (by decide) ?_
  obtain ⟨r1, h1, h⟩ := ob h
  refine call_v (wc := (gA t (mb 0) 71 fn ++ (gA t (mb 1) 71 ft))) (wc' := (gA t (mb 0) 71 fn ++ (gA t (mb 1) 71 r1))) (ws' := (gMo mh mb mo ++ (gA t (mb 0) 71 fn ++ (gA t (mb 1) 71 r1 ++ (gA t (mb 5) 24 le ++ (gA t (mb 6) 24 co ++ (gA t (mb 7) 24 li))))))) (cutB (bs := [gMo mh mb mo, gA t (mb 0) 71 fn, gA t (mb 1) 71 ft, gA t (mb 5) 24 le, gA t (mb 6) 24 co, gA t (mb 7) 24 li]) (cs := [gA t (mb 0) 71 fn, gA t (mb 1) 71 ft]) (cs' := [gA t (mb 0) 71 fn, gA t (mb 1) 71 r1]) (bs' := [gMo mh mb mo, gA t (mb 0) 71 fn, gA t (mb 1) 71 r1, gA t (mb 5) 24 le, gA t (mb 6) 24 co, gA t (mb 7) 24 li]) [1, 2] hP hD hS hA rfl rfl rfl rfl) hS (fun hPc hDc => va_runS (As := [.ref (mb 0), .int 0, .ref (mb 1), .int 0]) (rest := []) ⟨hx, hb, hml, hown, hts⟩ (mtX3_copies l D t (mb 0) 71 fn (mb 1) 71 ft 0 0 r1 h1 (by decide) (by decide) _) (va_cwS 4 hts (gBS kw130 kw131 kw5 kw132) rfl rfl rfl (by decide +kernel) ⟨Nat.le_of_ble_eq_true rfl, Nat.le_of_ble_eq_true rfl⟩) (sPc_S hPc hK hDc hE) rfl rfl hl.1 rfl (lv_room (Nat.le_of_ble_eq_true rfl)) dX3_good_10 ⟨Nat.zero_le _, Nat.zero_le _⟩) (fun H locs hP hD hS => ?_)
  refine lv_iconst (v := 0) hx hb dX3_good_13 (by decide) ?_
  refine lv_istore_n (lv' := [(3, .int 0), (0, .ref mh), (1, .int v), (2, .int n)]) hx hb dX3_good_14 rfl hl (by decide) rfl (fun ls hl => ?_)
  refine lv_iconst (v := 1) hx hb dX3_good_15 (by decide) ?_
  refine lv_istore (lv' := [(4, .int 1), (3, .int 0), (0, .ref mh), (1, .int v), (2, .int n)]) hx hb dX3_good_16 hl (by decide) rfl (fun ls hl => ?_)
  exact J18 2000 (r1, le, co, li, v, n, 0, 1) h _ _ hP hD hS _ (lv_sub hl [2, 3, 4, 1, 0] rfl)

theorem dX3_goodFor_0 : decode cX3_goodFor 0 = .ok (.aload_n 0, 1) := by decide +kernel
theorem dX3_goodFor_1 : decode cX3_goodFor 1 = .ok (.iconst 0, 1) := by decide +kernel
theorem dX3_goodFor_2 : decode cX3_goodFor 2 = .ok (.putfield 34, 3) := by decide +kernel
theorem dX3_goodFor_5 : decode cX3_goodFor 5 = .ok (.iload_n 1, 1) := by decide +kernel
theorem dX3_goodFor_6 : decode cX3_goodFor 6 = .ok (.invokestatic 92, 3) := by decide +kernel
theorem dX3_goodFor_9 : decode cX3_goodFor 9 = .ok (.ifCond .ne 9, 3) := by decide +kernel
theorem dX3_goodFor_12 : decode cX3_goodFor 12 = .ok (.aload_n 0, 1) := by decide +kernel
theorem dX3_goodFor_13 : decode cX3_goodFor 13 = .ok (.iconst 1, 1) := by decide +kernel
theorem dX3_goodFor_14 : decode cX3_goodFor 14 = .ok (.invokevirtual 49, 3) := by decide +kernel
theorem dX3_goodFor_17 : decode cX3_goodFor 17 = .ok (.ireturn, 1) := by decide +kernel
theorem dX3_goodFor_18 : decode cX3_goodFor 18 = .ok (.iload_n 2, 1) := by decide +kernel
theorem dX3_goodFor_19 : decode cX3_goodFor 19 = .ok (.iconst 0, 1) := by decide +kernel
theorem dX3_goodFor_20 : decode cX3_goodFor 20 = .ok (.sipush 999, 3) := by decide +kernel
theorem dX3_goodFor_23 : decode cX3_goodFor 23 = .ok (.invokestatic 38, 3) := by decide +kernel
theorem dX3_goodFor_26 : decode cX3_goodFor 26 = .ok (.ifCond .eq 12, 3) := by decide +kernel
theorem dX3_goodFor_29 : decode cX3_goodFor 29 = .ok (.aload_n 0, 1) := by decide +kernel
theorem dX3_goodFor_30 : decode cX3_goodFor 30 = .ok (.iload_n 1, 1) := by decide +kernel
theorem dX3_goodFor_31 : decode cX3_goodFor 31 = .ok (.iload_n 2, 1) := by decide +kernel
theorem dX3_goodFor_32 : decode cX3_goodFor 32 = .ok (.invokevirtual 158, 3) := by decide +kernel
theorem dX3_goodFor_35 : decode cX3_goodFor 35 = .ok (.goto 8, 3) := by decide +kernel
theorem dX3_goodFor_38 : decode cX3_goodFor 38 = .ok (.aload_n 0, 1) := by decide +kernel
theorem dX3_goodFor_39 : decode cX3_goodFor 39 = .ok (.iconst 2, 1) := by decide +kernel
theorem dX3_goodFor_40 : decode cX3_goodFor 40 = .ok (.invokevirtual 49, 3) := by decide +kernel
theorem dX3_goodFor_43 : decode cX3_goodFor 43 = .ok (.ireturn, 1) := by decide +kernel
abbrev zX3_goodFor : List Cond := .code yX3_goodFor cX3_goodFor 3 (some .int) :: BIG
def fX3_goodFor (mo : MoT) (fn : (Nat → Int32)) (ft : (Nat → Int32)) (le : (Nat → Int32)) (co : (Nat → Int32)) (li : (Nat → Int32)) (v : Int32) (n : Int32) : Option (Int32 × MoT × (Nat → Int32) × (Nat → Int32) × (Nat → Int32) × (Nat → Int32)) := (fX3_isSpeed v).bind (fun r1 => (if (b2i r1) = 0 then (fX3_fails (mo.1, mo.2.1, 0, mo.2.2.2.1, mo.2.2.2.2.1, mo.2.2.2.2.2) 1).bind (fun r7 => some (r7.1, r7.2, ft, le, co, li)) else (fX3_in n 0 999).bind (fun r3 => (if (b2i r3) = 0 then (fX3_fails (mo.1, mo.2.1, 0, mo.2.2.2.1, mo.2.2.2.2.1, mo.2.2.2.2.2) 2).bind (fun r5 => some (r5.1, r5.2, ft, le, co, li)) else (fX3_good (mo.1, mo.2.1, 0, mo.2.2.2.1, mo.2.2.2.2.1, mo.2.2.2.2.2) fn ft le co li v n).bind (fun r6 => some (r6.1, (mo.1, mo.2.1, 0, mo.2.2.2.1, mo.2.2.2.2.1, mo.2.2.2.2.2), r6.2.1, r6.2.2.1, r6.2.2.2.1, r6.2.2.2.2))))))
set_option maxHeartbeats 4000000 in
set_option maxRecDepth 100000 in
theorem mtX3_goodFor (l : Launch) (D : va_G) (t : Nat → ClassId) (mh : Nat) (mb : Nat → Nat) (mo : MoT) (fn : (Nat → Int32)) (ft : (Nat → Int32)) (le : (Nat → Int32)) (co : (Nat → Int32)) (li : (Nat → Int32)) (v : Int32) (n : Int32) (out : Int32 × MoT × (Nat → Int32) × (Nat → Int32) × (Nat → Int32) × (Nat → Int32)) (h : fX3_goodFor mo fn ft le co li v n = some out)  (sz : Nat) : Met l yX3_goodFor zX3_goodFor ({ frames := 5, cells := 0, slots := 0, locals := 116 }) (sPc D t (gMo mh mb mo ++ (gA t (mb 0) 71 fn ++ (gA t (mb 1) 71 ft ++ (gA t (mb 5) 24 le ++ (gA t (mb 6) 24 co ++ (gA t (mb 7) 24 li)))))) sz [.ref mh, .int v, .int n]) (qI D t (gMo mh mb out.2.1 ++ (gA t (mb 0) 71 fn ++ (gA t (mb 1) 71 out.2.2.1 ++ (gA t (mb 5) 24 out.2.2.2.1 ++ (gA t (mb 6) 24 out.2.2.2.2.1 ++ (gA t (mb 7) 24 out.2.2.2.2.2)))))) out.1 (va_A (gMo mh mb mo ++ (gA t (mb 0) 71 fn ++ (gA t (mb 1) 71 ft ++ (gA t (mb 5) 24 le ++ (gA t (mb 6) 24 co ++ (gA t (mb 7) 24 li)))))) sz)) 0 0 (va_A (gMo mh mb mo ++ (gA t (mb 0) 71 fn ++ (gA t (mb 1) 71 ft ++ (gA t (mb 5) 24 le ++ (gA t (mb 6) 24 co ++ (gA t (mb 7) 24 li)))))) sz) := by
  refine met_of (Qf := fun A => qI D t (gMo mh mb out.2.1 ++ (gA t (mb 0) 71 fn ++ (gA t (mb 1) 71 out.2.2.1 ++ (gA t (mb 5) 24 out.2.2.2.1 ++ (gA t (mb 6) 24 out.2.2.2.2.1 ++ (gA t (mb 7) 24 out.2.2.2.2.2)))))) out.1 A) (cc := cX3_goodFor) (maxL := 3) (ret := some .int) (by decide) rfl (Nat.le_of_ble_eq_true rfl) ?_
  intro p e s m args below meth c A hx hb hr hml hts hown hlocks hA hP hK hD hE hS ls hl
  have htB : ∀ w ∈ BIG, w.before args s = true := fun w h => hts w (List.mem_cons_of_mem _ h)
  have hown : s.vm.findClass RX3 = some m.cls := hown
  have hl : lv_has ls 3 [(0, .ref mh), (1, .int v), (2, .int n)] := hl
  unfold fX3_goodFor at h
  refine lv_aload_n hx hb dX3_goodFor_0 rfl (lv_at hl 0 rfl) ?_
  refine lv_iconst (v := 0) hx hb dX3_goodFor_1 (by decide) ?_
  refine va_put (D := D) (ci := 3) (v := .int 0) (ty := .int) (C := RX3) (T := TX3) (N := 14) hx hb htB inlX3 tyX3 tyX3_ok nmX3 hown hK hP hD hS 0 rfl rfl 6 (by decide) (htB _ kw114) (fun _ h9 => h9) rfl (by decide +kernel) rfl rfl (Nat.le_of_ble_eq_true rfl) dX3_goodFor_2 (fun H locs hP hD hS => ?_)
  have hP : va_P D vwCl (gMo mh mb (mo.1, mo.2.1, 0, mo.2.2.2.1, mo.2.2.2.2.1, mo.2.2.2.2.2) ++ (gA t (mb 0) 71 fn ++ (gA t (mb 1) 71 ft ++ (gA t (mb 5) 24 le ++ (gA t (mb 6) 24 co ++ (gA t (mb 7) 24 li)))))) H := hP
  have hD : va_D A (gMo mh mb (mo.1, mo.2.1, 0, mo.2.2.2.1, mo.2.2.2.2.1, mo.2.2.2.2.2) ++ (gA t (mb 0) 71 fn ++ (gA t (mb 1) 71 ft ++ (gA t (mb 5) 24 le ++ (gA t (mb 6) 24 co ++ (gA t (mb 7) 24 li)))))) := hD
  refine lv_iload_n hx hb dX3_goodFor_5 rfl (lv_at hl 1 rfl) ?_
  obtain ⟨r1, h1, h⟩ := ob h
  refine call_i (v := b2i r1) (wc := ([] : va_W)) (wc' := ([] : va_W)) (ws' := (gMo mh mb (mo.1, mo.2.1, 0, mo.2.2.2.1, mo.2.2.2.2.1, mo.2.2.2.2.2) ++ (gA t (mb 0) 71 fn ++ (gA t (mb 1) 71 ft ++ (gA t (mb 5) 24 le ++ (gA t (mb 6) 24 co ++ (gA t (mb 7) 24 li))))))) (cutB (bs := [gMo mh mb (mo.1, mo.2.1, 0, mo.2.2.2.1, mo.2.2.2.2.1, mo.2.2.2.2.2), gA t (mb 0) 71 fn, gA t (mb 1) 71 ft, gA t (mb 5) 24 le, gA t (mb 6) 24 co, gA t (mb 7) 24 li]) (cs := []) (cs' := []) (bs' := [gMo mh mb (mo.1, mo.2.1, 0, mo.2.2.2.1, mo.2.2.2.2.1, mo.2.2.2.2.2), gA t (mb 0) 71 fn, gA t (mb 1) 71 ft, gA t (mb 5) 24 le, gA t (mb 6) 24 co, gA t (mb 7) 24 li]) [] hP hD hS hA rfl rfl rfl rfl) hS (fun hPc hDc => va_runS (As := [.int v]) (rest := []) ⟨hx, hb, hml, hown, hts⟩ (mtX3_isSpeed l D t v r1 h1 _) (va_cwS 1 hts (gBS kw186 kw187 kw5 kw188) rfl rfl rfl (by decide +kernel) ⟨Nat.le_of_ble_eq_true rfl, Nat.le_of_ble_eq_true rfl⟩) (sPc_S hPc hK hDc hE) rfl rfl hl.1 rfl (lv_room (Nat.le_of_ble_eq_true rfl)) dX3_goodFor_6 ⟨Nat.zero_le _, Nat.zero_le _⟩) (fun H locs hP hD hS => ?_)
  refine lv_if_ne (tgt := 18) hx hb dX3_goodFor_9 (by decide) (fun c2 => ?_) (fun c2 => ?_)
  · have h := it_n c2 h
    refine lv_iload_n hx hb dX3_goodFor_18 rfl (lv_at hl 2 rfl) ?_
    refine lv_iconst (v := 0) hx hb dX3_goodFor_19 (by decide) ?_
    refine lv_sipush (v := 999) hx hb dX3_goodFor_20 (by decide) ?_
    obtain ⟨r3, h3, h⟩ := ob h
    refine call_i (v := b2i r3) (wc := ([] : va_W)) (wc' := ([] : va_W)) (ws' := (gMo mh mb (mo.1, mo.2.1, 0, mo.2.2.2.1, mo.2.2.2.2.1, mo.2.2.2.2.2) ++ (gA t (mb 0) 71 fn ++ (gA t (mb 1) 71 ft ++ (gA t (mb 5) 24 le ++ (gA t (mb 6) 24 co ++ (gA t (mb 7) 24 li))))))) (cutB (bs := [gMo mh mb (mo.1, mo.2.1, 0, mo.2.2.2.1, mo.2.2.2.2.1, mo.2.2.2.2.2), gA t (mb 0) 71 fn, gA t (mb 1) 71 ft, gA t (mb 5) 24 le, gA t (mb 6) 24 co, gA t (mb 7) 24 li]) (cs := []) (cs' := []) (bs' := [gMo mh mb (mo.1, mo.2.1, 0, mo.2.2.2.1, mo.2.2.2.2.1, mo.2.2.2.2.2), gA t (mb 0) 71 fn, gA t (mb 1) 71 ft, gA t (mb 5) 24 le, gA t (mb 6) 24 co, gA t (mb 7) 24 li]) [] hP hD hS hA rfl rfl rfl rfl) hS (fun hPc hDc => va_runS (As := [.int n, .int 0, .int 999]) (rest := []) ⟨hx, hb, hml, hown, hts⟩ (mtX3_in l D t n 0 999 r3 h3 _) (va_cwS 3 hts (gBS kw118 kw119 kw5 kw120) rfl rfl rfl (by decide +kernel) ⟨Nat.le_of_ble_eq_true rfl, Nat.le_of_ble_eq_true rfl⟩) (sPc_S hPc hK hDc hE) rfl rfl hl.1 rfl (lv_room (Nat.le_of_ble_eq_true rfl)) dX3_goodFor_23 ⟨Nat.zero_le _, Nat.zero_le _⟩) (fun H locs hP hD hS => ?_)
    refine lv_if_eq (tgt := 38) hx hb dX3_goodFor_26 (by decide) (fun c4 => ?_) (fun c4 => ?_)
    · have h := it_p c4 h
      refine lv_aload_n hx hb dX3_goodFor_38 rfl (lv_at hl 0 rfl) ?_
      refine lv_iconst (v := 2) hx hb dX3_goodFor_39 (by decide) ?_
      obtain ⟨r5, h5, h⟩ := ob h
      refine call_i (v := r5.1) (wc := (gMo mh mb (mo.1, mo.2.1, 0, mo.2.2.2.1, mo.2.2.2.2.1, mo.2.2.2.2.2))) (wc' := (gMo mh mb r5.2)) (ws' := (gMo mh mb r5.2 ++ (gA t (mb 0) 71 fn ++ (gA t (mb 1) 71 ft ++ (gA t (mb 5) 24 le ++ (gA t (mb 6) 24 co ++ (gA t (mb 7) 24 li))))))) (cutB (bs := [gMo mh mb (mo.1, mo.2.1, 0, mo.2.2.2.1, mo.2.2.2.2.1, mo.2.2.2.2.2), gA t (mb 0) 71 fn, gA t (mb 1) 71 ft, gA t (mb 5) 24 le, gA t (mb 6) 24 co, gA t (mb 7) 24 li]) (cs := [gMo mh mb (mo.1, mo.2.1, 0, mo.2.2.2.1, mo.2.2.2.2.1, mo.2.2.2.2.2)]) (cs' := [gMo mh mb r5.2]) (bs' := [gMo mh mb r5.2, gA t (mb 0) 71 fn, gA t (mb 1) 71 ft, gA t (mb 5) 24 le, gA t (mb 6) 24 co, gA t (mb 7) 24 li]) [0] hP hD hS hA rfl rfl rfl rfl) hS (fun hPc hDc => va_runV (As := [.int 2]) (rest := []) ⟨hx, hb, hml, hown, hts⟩ (mtX3_fails l D t mh mb (mo.1, mo.2.1, 0, mo.2.2.2.1, mo.2.2.2.2.1, mo.2.2.2.2.2) 2 r5 h5 _) (cwV 1 hts (gBV kw121 kw122 kw123 kw5 kw124) rfl rfl rfl (by decide +kernel) ⟨Nat.le_of_ble_eq_true rfl, Nat.le_of_ble_eq_true rfl⟩) (sPc_V hPc hK hDc hE (va_recv hK hP (ci := 3) (q0 := 0) rfl rfl)) rfl rfl hl.1 rfl (lv_room (Nat.le_of_ble_eq_true rfl)) dX3_goodFor_40 ⟨Nat.zero_le _, Nat.zero_le _⟩) (fun H locs hP hD hS => ?_)
      obtain rfl := os h
      exact ret_i hx hb hr hlocks hP hK hD hS dX3_goodFor_43
    · have h := it_n c4 h
      refine lv_aload_n hx hb dX3_goodFor_29 rfl (lv_at hl 0 rfl) ?_
      refine lv_iload_n hx hb dX3_goodFor_30 rfl (lv_at hl 1 rfl) ?_
      refine lv_iload_n hx hb dX3_goodFor_31 rfl (lv_at hl 2 rfl) ?_
      obtain ⟨r6, h6, h⟩ := ob h
      refine call_i (v := r6.1) (wc := (gMo mh mb (mo.1, mo.2.1, 0, mo.2.2.2.1, mo.2.2.2.2.1, mo.2.2.2.2.2) ++ (gA t (mb 0) 71 fn ++ (gA t (mb 1) 71 ft ++ (gA t (mb 5) 24 le ++ (gA t (mb 6) 24 co ++ (gA t (mb 7) 24 li))))))) (wc' := (gMo mh mb (mo.1, mo.2.1, 0, mo.2.2.2.1, mo.2.2.2.2.1, mo.2.2.2.2.2) ++ (gA t (mb 0) 71 fn ++ (gA t (mb 1) 71 r6.2.1 ++ (gA t (mb 5) 24 r6.2.2.1 ++ (gA t (mb 6) 24 r6.2.2.2.1 ++ (gA t (mb 7) 24 r6.2.2.2.2))))))) (ws' := (gMo mh mb (mo.1, mo.2.1, 0, mo.2.2.2.1, mo.2.2.2.2.1, mo.2.2.2.2.2) ++ (gA t (mb 0) 71 fn ++ (gA t (mb 1) 71 r6.2.1 ++ (gA t (mb 5) 24 r6.2.2.1 ++ (gA t (mb 6) 24 r6.2.2.2.1 ++ (gA t (mb 7) 24 r6.2.2.2.2))))))) (cutB (bs := [gMo mh mb (mo.1, mo.2.1, 0, mo.2.2.2.1, mo.2.2.2.2.1, mo.2.2.2.2.2), gA t (mb 0) 71 fn, gA t (mb 1) 71 ft, gA t (mb 5) 24 le, gA t (mb 6) 24 co, gA t (mb 7) 24 li]) (cs := [gMo mh mb (mo.1, mo.2.1, 0, mo.2.2.2.1, mo.2.2.2.2.1, mo.2.2.2.2.2), gA t (mb 0) 71 fn, gA t (mb 1) 71 ft, gA t (mb 5) 24 le, gA t (mb 6) 24 co, gA t (mb 7) 24 li]) (cs' := [gMo mh mb (mo.1, mo.2.1, 0, mo.2.2.2.1, mo.2.2.2.2.1, mo.2.2.2.2.2), gA t (mb 0) 71 fn, gA t (mb 1) 71 r6.2.1, gA t (mb 5) 24 r6.2.2.1, gA t (mb 6) 24 r6.2.2.2.1, gA t (mb 7) 24 r6.2.2.2.2]) (bs' := [gMo mh mb (mo.1, mo.2.1, 0, mo.2.2.2.1, mo.2.2.2.2.1, mo.2.2.2.2.2), gA t (mb 0) 71 fn, gA t (mb 1) 71 r6.2.1, gA t (mb 5) 24 r6.2.2.1, gA t (mb 6) 24 r6.2.2.2.1, gA t (mb 7) 24 r6.2.2.2.2]) [0, 1, 2, 3, 4, 5] hP hD hS hA rfl rfl rfl rfl) hS (fun hPc hDc => va_runV (As := [.int v, .int n]) (rest := []) ⟨hx, hb, hml, hown, hts⟩ (mtX3_good l D t mh mb (mo.1, mo.2.1, 0, mo.2.2.2.1, mo.2.2.2.2.1, mo.2.2.2.2.2) fn ft le co li v n r6 h6 _) (cwV 2 hts (gBV kw575 kw576 kw577 kw5 kw578) rfl rfl rfl (by decide +kernel) ⟨Nat.le_of_ble_eq_true rfl, Nat.le_of_ble_eq_true rfl⟩) (sPc_V hPc hK hDc hE (va_recv hK hP (ci := 3) (q0 := 0) rfl rfl)) rfl rfl hl.1 rfl (lv_room (Nat.le_of_ble_eq_true rfl)) dX3_goodFor_32 ⟨Nat.zero_le _, Nat.zero_le _⟩) (fun H locs hP hD hS => ?_)
      refine lv_goto (tgt := 43) hx hb dX3_goodFor_35 (by decide) ?_
      obtain rfl := os h
      exact ret_i hx hb hr hlocks hP hK hD hS dX3_goodFor_43
  · have h := it_p c2 h
    refine lv_aload_n hx hb dX3_goodFor_12 rfl (lv_at hl 0 rfl) ?_
    refine lv_iconst (v := 1) hx hb dX3_goodFor_13 (by decide) ?_
    obtain ⟨r7, h7, h⟩ := ob h
    refine call_i (v := r7.1) (wc := (gMo mh mb (mo.1, mo.2.1, 0, mo.2.2.2.1, mo.2.2.2.2.1, mo.2.2.2.2.2))) (wc' := (gMo mh mb r7.2)) (ws' := (gMo mh mb r7.2 ++ (gA t (mb 0) 71 fn ++ (gA t (mb 1) 71 ft ++ (gA t (mb 5) 24 le ++ (gA t (mb 6) 24 co ++ (gA t (mb 7) 24 li))))))) (cutB (bs := [gMo mh mb (mo.1, mo.2.1, 0, mo.2.2.2.1, mo.2.2.2.2.1, mo.2.2.2.2.2), gA t (mb 0) 71 fn, gA t (mb 1) 71 ft, gA t (mb 5) 24 le, gA t (mb 6) 24 co, gA t (mb 7) 24 li]) (cs := [gMo mh mb (mo.1, mo.2.1, 0, mo.2.2.2.1, mo.2.2.2.2.1, mo.2.2.2.2.2)]) (cs' := [gMo mh mb r7.2]) (bs' := [gMo mh mb r7.2, gA t (mb 0) 71 fn, gA t (mb 1) 71 ft, gA t (mb 5) 24 le, gA t (mb 6) 24 co, gA t (mb 7) 24 li]) [0] hP hD hS hA rfl rfl rfl rfl) hS (fun hPc hDc => va_runV (As := [.int 1]) (rest := []) ⟨hx, hb, hml, hown, hts⟩ (mtX3_fails l D t mh mb (mo.1, mo.2.1, 0, mo.2.2.2.1, mo.2.2.2.2.1, mo.2.2.2.2.2) 1 r7 h7 _) (cwV 1 hts (gBV kw121 kw122 kw123 kw5 kw124) rfl rfl rfl (by decide +kernel) ⟨Nat.le_of_ble_eq_true rfl, Nat.le_of_ble_eq_true rfl⟩) (sPc_V hPc hK hDc hE (va_recv hK hP (ci := 3) (q0 := 0) rfl rfl)) rfl rfl hl.1 rfl (lv_room (Nat.le_of_ble_eq_true rfl)) dX3_goodFor_14 ⟨Nat.zero_le _, Nat.zero_le _⟩) (fun H locs hP hD hS => ?_)
    obtain rfl := os h
    exact ret_i hx hb hr hlocks hP hK hD hS dX3_goodFor_17

theorem dX3_share_0 : decode cX3_share 0 = .ok (.aload_n 0, 1) := by decide +kernel
theorem dX3_share_1 : decode cX3_share 1 = .ok (.aload_n 0, 1) := by decide +kernel
theorem dX3_share_2 : decode cX3_share 2 = .ok (.getfield 7, 3) := by decide +kernel
theorem dX3_share_5 : decode cX3_share 5 = .ok (.iload_n 1, 1) := by decide +kernel
theorem dX3_share_6 : decode cX3_share 6 = .ok (.invokevirtual 71, 3) := by decide +kernel
theorem dX3_share_9 : decode cX3_share 9 = .ok (.aload_n 0, 1) := by decide +kernel
theorem dX3_share_10 : decode cX3_share 10 = .ok (.iload_n 1, 1) := by decide +kernel
theorem dX3_share_11 : decode cX3_share 11 = .ok (.bipush 9, 2) := by decide +kernel
theorem dX3_share_13 : decode cX3_share 13 = .ok (.invokevirtual 75, 3) := by decide +kernel
theorem dX3_share_16 : decode cX3_share 16 = .ok (.istore_n 2, 1) := by decide +kernel
theorem dX3_share_17 : decode cX3_share 17 = .ok (.iload_n 2, 1) := by decide +kernel
theorem dX3_share_18 : decode cX3_share 18 = .ok (.ifCond .ne 7, 3) := by decide +kernel
theorem dX3_share_21 : decode cX3_share 21 = .ok (.dconst 1, 1) := by decide +kernel
theorem dX3_share_22 : decode cX3_share 22 = .ok (.goto 14, 3) := by decide +kernel
theorem dX3_share_25 : decode cX3_share 25 = .ok (.aload_n 0, 1) := by decide +kernel
theorem dX3_share_26 : decode cX3_share 26 = .ok (.iload_n 1, 1) := by decide +kernel
theorem dX3_share_27 : decode cX3_share 27 = .ok (.bipush 8, 2) := by decide +kernel
theorem dX3_share_29 : decode cX3_share 29 = .ok (.invokevirtual 75, 3) := by decide +kernel
theorem dX3_share_32 : decode cX3_share 32 = .ok (.i2d, 1) := by decide +kernel
theorem dX3_share_33 : decode cX3_share 33 = .ok (.iload_n 2, 1) := by decide +kernel
theorem dX3_share_34 : decode cX3_share 34 = .ok (.i2d, 1) := by decide +kernel
theorem dX3_share_35 : decode cX3_share 35 = .ok (.ddiv, 1) := by decide +kernel
theorem dX3_share_36 : decode cX3_share 36 = .ok (.dreturn, 1) := by decide +kernel
abbrev zX3_share : List Cond := .code yX3_share cX3_share 3 (some .double) :: BIG
def fX3_share (mo : MoT) (fn : (Nat → Int32)) (le : (Nat → Int32)) (co : (Nat → Int32)) (li : (Nat → Int32)) (v : Int32) : Option (UInt64 × (Nat → Int32) × (Nat → Int32) × (Nat → Int32)) := (fX3_lays mo fn le co li v).bind (fun r1 => (fX3_tells mo r1.2.2 v 9).bind (fun r2 => (if r2 = 0 then some (FP.dconst1, r1.1, r1.2.1, r1.2.2) else (fX3_tells mo r1.2.2 v 8).bind (fun r4 => gd (nn64 (FP.ddiv (FP.i2d r4) (FP.i2d r2))) (some (FP.ddiv (FP.i2d r4) (FP.i2d r2), r1.1, r1.2.1, r1.2.2))))))
set_option maxHeartbeats 4000000 in
set_option maxRecDepth 100000 in
theorem mtX3_share (l : Launch) (D : va_G) (t : Nat → ClassId) (mh : Nat) (mb : Nat → Nat) (mo : MoT) (fn : (Nat → Int32)) (le : (Nat → Int32)) (co : (Nat → Int32)) (li : (Nat → Int32)) (v : Int32) (out : UInt64 × (Nat → Int32) × (Nat → Int32) × (Nat → Int32)) (h : fX3_share mo fn le co li v = some out)  (sz : Nat) : Met l yX3_share zX3_share ({ frames := 3, cells := 0, slots := 0, locals := 68 }) (sPc D t (gMo mh mb mo ++ (gA t (mb 0) 71 fn ++ (gA t (mb 5) 24 le ++ (gA t (mb 6) 24 co ++ (gA t (mb 7) 24 li))))) sz [.ref mh, .int v]) (qD D t (gMo mh mb mo ++ (gA t (mb 0) 71 fn ++ (gA t (mb 5) 24 out.2.1 ++ (gA t (mb 6) 24 out.2.2.1 ++ (gA t (mb 7) 24 out.2.2.2))))) out.1 (va_A (gMo mh mb mo ++ (gA t (mb 0) 71 fn ++ (gA t (mb 5) 24 le ++ (gA t (mb 6) 24 co ++ (gA t (mb 7) 24 li))))) sz)) 0 0 (va_A (gMo mh mb mo ++ (gA t (mb 0) 71 fn ++ (gA t (mb 5) 24 le ++ (gA t (mb 6) 24 co ++ (gA t (mb 7) 24 li))))) sz) := by
  refine met_of (Qf := fun A => qD D t (gMo mh mb mo ++ (gA t (mb 0) 71 fn ++ (gA t (mb 5) 24 out.2.1 ++ (gA t (mb 6) 24 out.2.2.1 ++ (gA t (mb 7) 24 out.2.2.2))))) out.1 A) (cc := cX3_share) (maxL := 3) (ret := some .double) (by decide) rfl (Nat.le_of_ble_eq_true rfl) ?_
  intro p e s m args below meth c A hx hb hr hml hts hown hlocks hA hP hK hD hE hS ls hl
  have htB : ∀ w ∈ BIG, w.before args s = true := fun w h => hts w (List.mem_cons_of_mem _ h)
  have hown : s.vm.findClass RX3 = some m.cls := hown
  have hl : lv_has ls 3 [(0, .ref mh), (1, .int v)] := hl
  unfold fX3_share at h
  refine lv_aload_n hx hb dX3_share_0 rfl (lv_at hl 0 rfl) ?_
  refine lv_aload_n hx hb dX3_share_1 rfl (lv_at hl 0 rfl) ?_
  refine va_get (D := D) (ci := 3) (v := .ref (mb 0)) (C := RX3) (T := TX3) (N := 14) hx hb htB inlX3 hown hK hP 0 rfl rfl 0 (by decide) (htB _ kw54) (fun _ h9 => h9) rfl dX3_share_2 ?_
  refine lv_iload_n hx hb dX3_share_5 rfl (lv_at hl 1 rfl) ?_
  obtain ⟨r1, h1, h⟩ := ob h
  refine call_v (wc := (gMo mh mb mo ++ (gA t (mb 0) 71 fn ++ (gA t (mb 5) 24 le ++ (gA t (mb 6) 24 co ++ (gA t (mb 7) 24 li)))))) (wc' := (gMo mh mb mo ++ (gA t (mb 0) 71 fn ++ (gA t (mb 5) 24 r1.1 ++ (gA t (mb 6) 24 r1.2.1 ++ (gA t (mb 7) 24 r1.2.2)))))) (ws' := (gMo mh mb mo ++ (gA t (mb 0) 71 fn ++ (gA t (mb 5) 24 r1.1 ++ (gA t (mb 6) 24 r1.2.1 ++ (gA t (mb 7) 24 r1.2.2)))))) (cutB (bs := [gMo mh mb mo, gA t (mb 0) 71 fn, gA t (mb 5) 24 le, gA t (mb 6) 24 co, gA t (mb 7) 24 li]) (cs := [gMo mh mb mo, gA t (mb 0) 71 fn, gA t (mb 5) 24 le, gA t (mb 6) 24 co, gA t (mb 7) 24 li]) (cs' := [gMo mh mb mo, gA t (mb 0) 71 fn, gA t (mb 5) 24 r1.1, gA t (mb 6) 24 r1.2.1, gA t (mb 7) 24 r1.2.2]) (bs' := [gMo mh mb mo, gA t (mb 0) 71 fn, gA t (mb 5) 24 r1.1, gA t (mb 6) 24 r1.2.1, gA t (mb 7) 24 r1.2.2]) [0, 1, 2, 3, 4] hP hD hS hA rfl rfl rfl rfl) hS (fun hPc hDc => va_runV (As := [.ref (mb 0), .int v]) (rest := []) ⟨hx, hb, hml, hown, hts⟩ (mtX3_lays l D t mh mb mo (mb 0) fn le co li v r1 h1 _) (cwV 2 hts (gBV kw295 kw296 kw297 kw5 kw298) rfl rfl rfl (by decide +kernel) ⟨Nat.le_of_ble_eq_true rfl, Nat.le_of_ble_eq_true rfl⟩) (sPc_V hPc hK hDc hE (va_recv hK hP (ci := 3) (q0 := 0) rfl rfl)) rfl rfl hl.1 rfl (lv_room (Nat.le_of_ble_eq_true rfl)) dX3_share_6 ⟨Nat.zero_le _, Nat.zero_le _⟩) (fun H locs hP hD hS => ?_)
  refine lv_aload_n hx hb dX3_share_9 rfl (lv_at hl 0 rfl) ?_
  refine lv_iload_n hx hb dX3_share_10 rfl (lv_at hl 1 rfl) ?_
  refine lv_bipush (v := 9) hx hb dX3_share_11 (by decide) ?_
  obtain ⟨r2, h2, h⟩ := ob h
  refine call_i (v := r2) (wc := (gMo mh mb mo ++ (gA t (mb 7) 24 r1.2.2))) (wc' := (gMo mh mb mo ++ (gA t (mb 7) 24 r1.2.2))) (ws' := (gMo mh mb mo ++ (gA t (mb 0) 71 fn ++ (gA t (mb 5) 24 r1.1 ++ (gA t (mb 6) 24 r1.2.1 ++ (gA t (mb 7) 24 r1.2.2)))))) (cutB (bs := [gMo mh mb mo, gA t (mb 0) 71 fn, gA t (mb 5) 24 r1.1, gA t (mb 6) 24 r1.2.1, gA t (mb 7) 24 r1.2.2]) (cs := [gMo mh mb mo, gA t (mb 7) 24 r1.2.2]) (cs' := [gMo mh mb mo, gA t (mb 7) 24 r1.2.2]) (bs' := [gMo mh mb mo, gA t (mb 0) 71 fn, gA t (mb 5) 24 r1.1, gA t (mb 6) 24 r1.2.1, gA t (mb 7) 24 r1.2.2]) [0, 4] hP hD hS hA rfl rfl rfl rfl) hS (fun hPc hDc => va_runV (As := [.int v, .int 9]) (rest := []) ⟨hx, hb, hml, hown, hts⟩ (mtX3_tells l D t mh mb mo r1.2.2 v 9 r2 h2 _) (cwV 2 hts (gBV kw311 kw312 kw313 kw5 kw314) rfl rfl rfl (by decide +kernel) ⟨Nat.le_of_ble_eq_true rfl, Nat.le_of_ble_eq_true rfl⟩) (sPc_V hPc hK hDc hE (va_recv hK hP (ci := 3) (q0 := 0) rfl rfl)) rfl rfl hl.1 rfl (lv_room (Nat.le_of_ble_eq_true rfl)) dX3_share_13 ⟨Nat.zero_le _, Nat.zero_le _⟩) (fun H locs hP hD hS => ?_)
  refine lv_istore_n (lv' := [(2, .int r2), (0, .ref mh), (1, .int v)]) hx hb dX3_share_16 rfl hl (by decide) rfl (fun ls hl => ?_)
  refine lv_iload_n hx hb dX3_share_17 rfl (lv_at hl 0 rfl) ?_
  refine lv_if_ne (tgt := 25) hx hb dX3_share_18 (by decide) (fun c3 => ?_) (fun c3 => ?_)
  · have h := it_n c3 h
    refine lv_aload_n hx hb dX3_share_25 rfl (lv_at hl 1 rfl) ?_
    refine lv_iload_n hx hb dX3_share_26 rfl (lv_at hl 2 rfl) ?_
    refine lv_bipush (v := 8) hx hb dX3_share_27 (by decide) ?_
    obtain ⟨r4, h4, h⟩ := ob h
    refine call_i (v := r4) (wc := (gMo mh mb mo ++ (gA t (mb 7) 24 r1.2.2))) (wc' := (gMo mh mb mo ++ (gA t (mb 7) 24 r1.2.2))) (ws' := (gMo mh mb mo ++ (gA t (mb 0) 71 fn ++ (gA t (mb 5) 24 r1.1 ++ (gA t (mb 6) 24 r1.2.1 ++ (gA t (mb 7) 24 r1.2.2)))))) (cutB (bs := [gMo mh mb mo, gA t (mb 0) 71 fn, gA t (mb 5) 24 r1.1, gA t (mb 6) 24 r1.2.1, gA t (mb 7) 24 r1.2.2]) (cs := [gMo mh mb mo, gA t (mb 7) 24 r1.2.2]) (cs' := [gMo mh mb mo, gA t (mb 7) 24 r1.2.2]) (bs' := [gMo mh mb mo, gA t (mb 0) 71 fn, gA t (mb 5) 24 r1.1, gA t (mb 6) 24 r1.2.1, gA t (mb 7) 24 r1.2.2]) [0, 4] hP hD hS hA rfl rfl rfl rfl) hS (fun hPc hDc => va_runV (As := [.int v, .int 8]) (rest := []) ⟨hx, hb, hml, hown, hts⟩ (mtX3_tells l D t mh mb mo r1.2.2 v 8 r4 h4 _) (cwV 2 hts (gBV kw311 kw312 kw313 kw5 kw314) rfl rfl rfl (by decide +kernel) ⟨Nat.le_of_ble_eq_true rfl, Nat.le_of_ble_eq_true rfl⟩) (sPc_V hPc hK hDc hE (va_recv hK hP (ci := 3) (q0 := 0) rfl rfl)) rfl rfl hl.1 rfl (lv_room (Nat.le_of_ble_eq_true rfl)) dX3_share_29 ⟨Nat.zero_le _, Nat.zero_le _⟩) (fun H locs hP hD hS => ?_)
    refine lv_i2d hx hb dX3_share_32 ?_
    refine lv_iload_n hx hb dX3_share_33 rfl (lv_at hl 0 rfl) ?_
    refine lv_i2d hx hb dX3_share_34 ?_
    obtain ⟨g5, h⟩ := og h
    refine lv_ddiv hx hb dX3_share_35 (nn_n64 g5) ?_
    obtain rfl := os h
    exact ret_d hx hb hr hlocks hP hK hD hS dX3_share_36
  · have h := it_p c3 h
    refine lv_dconst1 hx hb dX3_share_21 ?_
    refine lv_goto (tgt := 36) hx hb dX3_share_22 (by decide) ?_
    obtain rfl := os h
    exact ret_d hx hb hr hlocks hP hK hD hS dX3_share_36

theorem dX3_evenness_0 : decode cX3_evenness 0 = .ok (.aload_n 0, 1) := by decide +kernel
theorem dX3_evenness_1 : decode cX3_evenness 1 = .ok (.iconst 0, 1) := by decide +kernel
theorem dX3_evenness_2 : decode cX3_evenness 2 = .ok (.putfield 34, 3) := by decide +kernel
theorem dX3_evenness_5 : decode cX3_evenness 5 = .ok (.iload_n 1, 1) := by decide +kernel
theorem dX3_evenness_6 : decode cX3_evenness 6 = .ok (.invokestatic 92, 3) := by decide +kernel
theorem dX3_evenness_9 : decode cX3_evenness 9 = .ok (.ifCond .eq 11, 3) := by decide +kernel
theorem dX3_evenness_12 : decode cX3_evenness 12 = .ok (.aload_n 0, 1) := by decide +kernel
theorem dX3_evenness_13 : decode cX3_evenness 13 = .ok (.iload_n 1, 1) := by decide +kernel
theorem dX3_evenness_14 : decode cX3_evenness 14 = .ok (.invokevirtual 161, 3) := by decide +kernel
theorem dX3_evenness_17 : decode cX3_evenness 17 = .ok (.goto 9, 3) := by decide +kernel
theorem dX3_evenness_20 : decode cX3_evenness 20 = .ok (.aload_n 0, 1) := by decide +kernel
theorem dX3_evenness_21 : decode cX3_evenness 21 = .ok (.iconst 1, 1) := by decide +kernel
theorem dX3_evenness_22 : decode cX3_evenness 22 = .ok (.invokevirtual 49, 3) := by decide +kernel
theorem dX3_evenness_25 : decode cX3_evenness 25 = .ok (.i2d, 1) := by decide +kernel
theorem dX3_evenness_26 : decode cX3_evenness 26 = .ok (.dreturn, 1) := by decide +kernel
abbrev zX3_evenness : List Cond := .code yX3_evenness cX3_evenness 2 (some .double) :: BIG
def fX3_evenness (mo : MoT) (fn : (Nat → Int32)) (le : (Nat → Int32)) (co : (Nat → Int32)) (li : (Nat → Int32)) (v : Int32) : Option (UInt64 × MoT × (Nat → Int32) × (Nat → Int32) × (Nat → Int32)) := (fX3_isSpeed v).bind (fun r1 => (if (b2i r1) = 0 then (fX3_fails (mo.1, mo.2.1, 0, mo.2.2.2.1, mo.2.2.2.2.1, mo.2.2.2.2.2) 1).bind (fun r3 => some (FP.i2d r3.1, r3.2, le, co, li)) else (fX3_share (mo.1, mo.2.1, 0, mo.2.2.2.1, mo.2.2.2.2.1, mo.2.2.2.2.2) fn le co li v).bind (fun r4 => some (r4.1, (mo.1, mo.2.1, 0, mo.2.2.2.1, mo.2.2.2.2.1, mo.2.2.2.2.2), r4.2.1, r4.2.2.1, r4.2.2.2))))
set_option maxHeartbeats 4000000 in
set_option maxRecDepth 100000 in
theorem mtX3_evenness (l : Launch) (D : va_G) (t : Nat → ClassId) (mh : Nat) (mb : Nat → Nat) (mo : MoT) (fn : (Nat → Int32)) (le : (Nat → Int32)) (co : (Nat → Int32)) (li : (Nat → Int32)) (v : Int32) (out : UInt64 × MoT × (Nat → Int32) × (Nat → Int32) × (Nat → Int32)) (h : fX3_evenness mo fn le co li v = some out)  (sz : Nat) : Met l yX3_evenness zX3_evenness ({ frames := 4, cells := 0, slots := 0, locals := 90 }) (sPc D t (gMo mh mb mo ++ (gA t (mb 0) 71 fn ++ (gA t (mb 5) 24 le ++ (gA t (mb 6) 24 co ++ (gA t (mb 7) 24 li))))) sz [.ref mh, .int v]) (qD D t (gMo mh mb out.2.1 ++ (gA t (mb 0) 71 fn ++ (gA t (mb 5) 24 out.2.2.1 ++ (gA t (mb 6) 24 out.2.2.2.1 ++ (gA t (mb 7) 24 out.2.2.2.2))))) out.1 (va_A (gMo mh mb mo ++ (gA t (mb 0) 71 fn ++ (gA t (mb 5) 24 le ++ (gA t (mb 6) 24 co ++ (gA t (mb 7) 24 li))))) sz)) 0 0 (va_A (gMo mh mb mo ++ (gA t (mb 0) 71 fn ++ (gA t (mb 5) 24 le ++ (gA t (mb 6) 24 co ++ (gA t (mb 7) 24 li))))) sz) := by
  refine met_of (Qf := fun A => qD D t (gMo mh mb out.2.1 ++ (gA t (mb 0) 71 fn ++ (gA t (mb 5) 24 out.2.2.1 ++ (gA t (mb 6) 24 out.2.2.2.1 ++ (gA t (mb 7) 24 out.2.2.2.2))))) out.1 A) (cc := cX3_evenness) (maxL := 2) (ret := some .double) (by decide) rfl (Nat.le_of_ble_eq_true rfl) ?_
  intro p e s m args below meth c A hx hb hr hml hts hown hlocks hA hP hK hD hE hS ls hl
  have htB : ∀ w ∈ BIG, w.before args s = true := fun w h => hts w (List.mem_cons_of_mem _ h)
  have hown : s.vm.findClass RX3 = some m.cls := hown
  have hl : lv_has ls 2 [(0, .ref mh), (1, .int v)] := hl
  unfold fX3_evenness at h
  refine lv_aload_n hx hb dX3_evenness_0 rfl (lv_at hl 0 rfl) ?_
  refine lv_iconst (v := 0) hx hb dX3_evenness_1 (by decide) ?_
  refine va_put (D := D) (ci := 3) (v := .int 0) (ty := .int) (C := RX3) (T := TX3) (N := 14) hx hb htB inlX3 tyX3 tyX3_ok nmX3 hown hK hP hD hS 0 rfl rfl 6 (by decide) (htB _ kw114) (fun _ h9 => h9) rfl (by decide +kernel) rfl rfl (Nat.le_of_ble_eq_true rfl) dX3_evenness_2 (fun H locs hP hD hS => ?_)
  have hP : va_P D vwCl (gMo mh mb (mo.1, mo.2.1, 0, mo.2.2.2.1, mo.2.2.2.2.1, mo.2.2.2.2.2) ++ (gA t (mb 0) 71 fn ++ (gA t (mb 5) 24 le ++ (gA t (mb 6) 24 co ++ (gA t (mb 7) 24 li))))) H := hP
  have hD : va_D A (gMo mh mb (mo.1, mo.2.1, 0, mo.2.2.2.1, mo.2.2.2.2.1, mo.2.2.2.2.2) ++ (gA t (mb 0) 71 fn ++ (gA t (mb 5) 24 le ++ (gA t (mb 6) 24 co ++ (gA t (mb 7) 24 li))))) := hD
  refine lv_iload_n hx hb dX3_evenness_5 rfl (lv_at hl 1 rfl) ?_
  obtain ⟨r1, h1, h⟩ := ob h
  refine call_i (v := b2i r1) (wc := ([] : va_W)) (wc' := ([] : va_W)) (ws' := (gMo mh mb (mo.1, mo.2.1, 0, mo.2.2.2.1, mo.2.2.2.2.1, mo.2.2.2.2.2) ++ (gA t (mb 0) 71 fn ++ (gA t (mb 5) 24 le ++ (gA t (mb 6) 24 co ++ (gA t (mb 7) 24 li)))))) (cutB (bs := [gMo mh mb (mo.1, mo.2.1, 0, mo.2.2.2.1, mo.2.2.2.2.1, mo.2.2.2.2.2), gA t (mb 0) 71 fn, gA t (mb 5) 24 le, gA t (mb 6) 24 co, gA t (mb 7) 24 li]) (cs := []) (cs' := []) (bs' := [gMo mh mb (mo.1, mo.2.1, 0, mo.2.2.2.1, mo.2.2.2.2.1, mo.2.2.2.2.2), gA t (mb 0) 71 fn, gA t (mb 5) 24 le, gA t (mb 6) 24 co, gA t (mb 7) 24 li]) [] hP hD hS hA rfl rfl rfl rfl) hS (fun hPc hDc => va_runS (As := [.int v]) (rest := []) ⟨hx, hb, hml, hown, hts⟩ (mtX3_isSpeed l D t v r1 h1 _) (va_cwS 1 hts (gBS kw186 kw187 kw5 kw188) rfl rfl rfl (by decide +kernel) ⟨Nat.le_of_ble_eq_true rfl, Nat.le_of_ble_eq_true rfl⟩) (sPc_S hPc hK hDc hE) rfl rfl hl.1 rfl (lv_room (Nat.le_of_ble_eq_true rfl)) dX3_evenness_6 ⟨Nat.zero_le _, Nat.zero_le _⟩) (fun H locs hP hD hS => ?_)
  refine lv_if_eq (tgt := 20) hx hb dX3_evenness_9 (by decide) (fun c2 => ?_) (fun c2 => ?_)
  · have h := it_p c2 h
    refine lv_aload_n hx hb dX3_evenness_20 rfl (lv_at hl 0 rfl) ?_
    refine lv_iconst (v := 1) hx hb dX3_evenness_21 (by decide) ?_
    obtain ⟨r3, h3, h⟩ := ob h
    refine call_i (v := r3.1) (wc := (gMo mh mb (mo.1, mo.2.1, 0, mo.2.2.2.1, mo.2.2.2.2.1, mo.2.2.2.2.2))) (wc' := (gMo mh mb r3.2)) (ws' := (gMo mh mb r3.2 ++ (gA t (mb 0) 71 fn ++ (gA t (mb 5) 24 le ++ (gA t (mb 6) 24 co ++ (gA t (mb 7) 24 li)))))) (cutB (bs := [gMo mh mb (mo.1, mo.2.1, 0, mo.2.2.2.1, mo.2.2.2.2.1, mo.2.2.2.2.2), gA t (mb 0) 71 fn, gA t (mb 5) 24 le, gA t (mb 6) 24 co, gA t (mb 7) 24 li]) (cs := [gMo mh mb (mo.1, mo.2.1, 0, mo.2.2.2.1, mo.2.2.2.2.1, mo.2.2.2.2.2)]) (cs' := [gMo mh mb r3.2]) (bs' := [gMo mh mb r3.2, gA t (mb 0) 71 fn, gA t (mb 5) 24 le, gA t (mb 6) 24 co, gA t (mb 7) 24 li]) [0] hP hD hS hA rfl rfl rfl rfl) hS (fun hPc hDc => va_runV (As := [.int 1]) (rest := []) ⟨hx, hb, hml, hown, hts⟩ (mtX3_fails l D t mh mb (mo.1, mo.2.1, 0, mo.2.2.2.1, mo.2.2.2.2.1, mo.2.2.2.2.2) 1 r3 h3 _) (cwV 1 hts (gBV kw121 kw122 kw123 kw5 kw124) rfl rfl rfl (by decide +kernel) ⟨Nat.le_of_ble_eq_true rfl, Nat.le_of_ble_eq_true rfl⟩) (sPc_V hPc hK hDc hE (va_recv hK hP (ci := 3) (q0 := 0) rfl rfl)) rfl rfl hl.1 rfl (lv_room (Nat.le_of_ble_eq_true rfl)) dX3_evenness_22 ⟨Nat.zero_le _, Nat.zero_le _⟩) (fun H locs hP hD hS => ?_)
    refine lv_i2d hx hb dX3_evenness_25 ?_
    obtain rfl := os h
    exact ret_d hx hb hr hlocks hP hK hD hS dX3_evenness_26
  · have h := it_n c2 h
    refine lv_aload_n hx hb dX3_evenness_12 rfl (lv_at hl 0 rfl) ?_
    refine lv_iload_n hx hb dX3_evenness_13 rfl (lv_at hl 1 rfl) ?_
    obtain ⟨r4, h4, h⟩ := ob h
    refine call_d (v := r4.1) (wc := (gMo mh mb (mo.1, mo.2.1, 0, mo.2.2.2.1, mo.2.2.2.2.1, mo.2.2.2.2.2) ++ (gA t (mb 0) 71 fn ++ (gA t (mb 5) 24 le ++ (gA t (mb 6) 24 co ++ (gA t (mb 7) 24 li)))))) (wc' := (gMo mh mb (mo.1, mo.2.1, 0, mo.2.2.2.1, mo.2.2.2.2.1, mo.2.2.2.2.2) ++ (gA t (mb 0) 71 fn ++ (gA t (mb 5) 24 r4.2.1 ++ (gA t (mb 6) 24 r4.2.2.1 ++ (gA t (mb 7) 24 r4.2.2.2)))))) (ws' := (gMo mh mb (mo.1, mo.2.1, 0, mo.2.2.2.1, mo.2.2.2.2.1, mo.2.2.2.2.2) ++ (gA t (mb 0) 71 fn ++ (gA t (mb 5) 24 r4.2.1 ++ (gA t (mb 6) 24 r4.2.2.1 ++ (gA t (mb 7) 24 r4.2.2.2)))))) (cutB (bs := [gMo mh mb (mo.1, mo.2.1, 0, mo.2.2.2.1, mo.2.2.2.2.1, mo.2.2.2.2.2), gA t (mb 0) 71 fn, gA t (mb 5) 24 le, gA t (mb 6) 24 co, gA t (mb 7) 24 li]) (cs := [gMo mh mb (mo.1, mo.2.1, 0, mo.2.2.2.1, mo.2.2.2.2.1, mo.2.2.2.2.2), gA t (mb 0) 71 fn, gA t (mb 5) 24 le, gA t (mb 6) 24 co, gA t (mb 7) 24 li]) (cs' := [gMo mh mb (mo.1, mo.2.1, 0, mo.2.2.2.1, mo.2.2.2.2.1, mo.2.2.2.2.2), gA t (mb 0) 71 fn, gA t (mb 5) 24 r4.2.1, gA t (mb 6) 24 r4.2.2.1, gA t (mb 7) 24 r4.2.2.2]) (bs' := [gMo mh mb (mo.1, mo.2.1, 0, mo.2.2.2.1, mo.2.2.2.2.1, mo.2.2.2.2.2), gA t (mb 0) 71 fn, gA t (mb 5) 24 r4.2.1, gA t (mb 6) 24 r4.2.2.1, gA t (mb 7) 24 r4.2.2.2]) [0, 1, 2, 3, 4] hP hD hS hA rfl rfl rfl rfl) hS (fun hPc hDc => va_runV (As := [.int v]) (rest := []) ⟨hx, hb, hml, hown, hts⟩ (mtX3_share l D t mh mb (mo.1, mo.2.1, 0, mo.2.2.2.1, mo.2.2.2.2.1, mo.2.2.2.2.2) fn le co li v r4 h4 _) (cwV 1 hts (gBV kw592 kw593 kw594 kw5 kw595) rfl rfl rfl (by decide +kernel) ⟨Nat.le_of_ble_eq_true rfl, Nat.le_of_ble_eq_true rfl⟩) (sPc_V hPc hK hDc hE (va_recv hK hP (ci := 3) (q0 := 0) rfl rfl)) rfl rfl hl.1 rfl (lv_room (Nat.le_of_ble_eq_true rfl)) dX3_evenness_14 ⟨Nat.zero_le _, Nat.zero_le _⟩) (fun H locs hP hD hS => ?_)
    refine lv_goto (tgt := 26) hx hb dX3_evenness_17 (by decide) ?_
    obtain rfl := os h
    exact ret_d hx hb hr hlocks hP hK hD hS dX3_evenness_26

abbrev zJxe99ae_isNaN_b9ae7 : List Cond := .code yJxe99ae_isNaN_b9ae7 cJxe99ae_isNaN_b9ae7 2 (some .boolean) :: BIG
def fJxe99ae_isNaN_b9ae7 (x : UInt64) : Option (Bool) := (if (Op.cmpValue (FP.dcmp x x) CmpOp.l) = 0 then some false else some true)
set_option maxHeartbeats 4000000 in
set_option maxRecDepth 100000 in
theorem mtJxe99ae_isNaN_b9ae7 (l : Launch) (D : va_G) (t : Nat → ClassId) (x : UInt64) (out : Bool) (h : fJxe99ae_isNaN_b9ae7 x = some out)  (sz : Nat) : Met l yJxe99ae_isNaN_b9ae7 zJxe99ae_isNaN_b9ae7 ({ frames := 0, cells := 0, slots := 0, locals := 0 }) (sPc D t ([] : va_W) sz [.double x]) (qI D t ([] : va_W) (b2i out) (va_A ([] : va_W) sz)) 0 0 (va_A ([] : va_W) sz) := by
  refine met_of (Qf := fun A => qI D t ([] : va_W) (b2i out) A) (cc := cJxe99ae_isNaN_b9ae7) (maxL := 2) (ret := some .boolean) (by decide) rfl (Nat.le_of_ble_eq_true rfl) ?_
  intro p e s m args below meth c A hx hb hr hml hts hown hlocks hA hP hK hD hE hS ls hl
  have htB : ∀ w ∈ BIG, w.before args s = true := fun w h => hts w (List.mem_cons_of_mem _ h)
  have hown : s.vm.findClass RJxe99ae = some m.cls := hown
  have hl : lv_has ls 2 [(0, .double x)] := hl
  unfold fJxe99ae_isNaN_b9ae7 at h
  refine lv_dload_n hx hb dJxe99ae_isNaN_b9ae7_0 rfl (lv_at hl 0 rfl) ?_
  refine lv_dload_n hx hb dJxe99ae_isNaN_b9ae7_1 rfl (lv_at hl 0 rfl) ?_
  refine lv_dcmp hx hb dJxe99ae_isNaN_b9ae7_2 ?_
  refine lv_if_eq (tgt := 10) hx hb dJxe99ae_isNaN_b9ae7_3 (by decide) (fun c1 => ?_) (fun c1 => ?_)
  · have h := it_p c1 h
    refine lv_iconst (v := 0) hx hb dJxe99ae_isNaN_b9ae7_10 (by decide) ?_
    obtain rfl := os h
    exact ret_z hx hb hr hlocks hP hK hD hS dJxe99ae_isNaN_b9ae7_11
  · have h := it_n c1 h
    refine lv_iconst (v := 1) hx hb dJxe99ae_isNaN_b9ae7_6 (by decide) ?_
    refine lv_goto (tgt := 11) hx hb dJxe99ae_isNaN_b9ae7_7 (by decide) ?_
    obtain rfl := os h
    exact ret_z hx hb hr hlocks hP hK hD hS dJxe99ae_isNaN_b9ae7_11

abbrev zJxe99ae_doubleToLongBits_ccdee : List Cond := .code yJxe99ae_doubleToLongBits_ccdee cJxe99ae_doubleToLongBits_ccdee 2 (some .long) :: BIG
def fJxe99ae_doubleToLongBits_ccdee (x : UInt64) : Option (Int64) := (fJxe99ae_isNaN_b9ae7 x).bind (fun r1 => (if (b2i r1) = 0 then some (UInt64.toInt64 x) else some 9221120237041090560))
set_option maxHeartbeats 4000000 in
set_option maxRecDepth 100000 in
theorem mtJxe99ae_doubleToLongBits_ccdee (l : Launch) (D : va_G) (t : Nat → ClassId) (x : UInt64) (out : Int64) (h : fJxe99ae_doubleToLongBits_ccdee x = some out)  (sz : Nat) : Met l yJxe99ae_doubleToLongBits_ccdee zJxe99ae_doubleToLongBits_ccdee ({ frames := 1, cells := 0, slots := 0, locals := 21 }) (sPc D t ([] : va_W) sz [.double x]) (qJ D t ([] : va_W) out (va_A ([] : va_W) sz)) 0 0 (va_A ([] : va_W) sz) := by
  refine met_of (Qf := fun A => qJ D t ([] : va_W) out A) (cc := cJxe99ae_doubleToLongBits_ccdee) (maxL := 2) (ret := some .long) (by decide) rfl (Nat.le_of_ble_eq_true rfl) ?_
  intro p e s m args below meth c A hx hb hr hml hts hown hlocks hA hP hK hD hE hS ls hl
  have htB : ∀ w ∈ BIG, w.before args s = true := fun w h => hts w (List.mem_cons_of_mem _ h)
  have hown : s.vm.findClass RJxe99ae = some m.cls := hown
  have hl : lv_has ls 2 [(0, .double x)] := hl
  unfold fJxe99ae_doubleToLongBits_ccdee at h
  refine lv_dload_n hx hb dJxe99ae_doubleToLongBits_ccdee_0 rfl (lv_at hl 0 rfl) ?_
  obtain ⟨r1, h1, h⟩ := ob h
  refine call_i (v := b2i r1) (wc := ([] : va_W)) (wc' := ([] : va_W)) (ws' := ([] : va_W)) (cutB (bs := []) (cs := []) (cs' := []) (bs' := []) [] hP hD hS hA rfl rfl rfl rfl) hS (fun hPc hDc => va_runS (As := [.double x]) (rest := []) ⟨hx, hb, hml, hown, hts⟩ (mtJxe99ae_isNaN_b9ae7 l D t x r1 h1 _) (va_cwS 1 hts (gBS kw649 kw650 kw642 kw651) rfl rfl rfl (by decide +kernel) ⟨Nat.le_of_ble_eq_true rfl, Nat.le_of_ble_eq_true rfl⟩) (sPc_S hPc hK hDc hE) rfl rfl hl.1 rfl (lv_room (Nat.le_of_ble_eq_true rfl)) dJxe99ae_doubleToLongBits_ccdee_1 ⟨Nat.zero_le _, Nat.zero_le _⟩) (fun H locs hP hD hS => ?_)
  refine lv_if_ne (tgt := 12) hx hb dJxe99ae_doubleToLongBits_ccdee_4 (by decide) (fun c2 => ?_) (fun c2 => ?_)
  · have h := it_n c2 h
    refine lv_ldc2 (v := 9221120237041090560) hx hb hown (htB _ kw648) dJxe99ae_doubleToLongBits_ccdee_12 ?_
    obtain rfl := os h
    exact ret_j hx hb hr hlocks hP hK hD hS dJxe99ae_doubleToLongBits_ccdee_15
  · have h := it_p c2 h
    refine lv_dload_n hx hb dJxe99ae_doubleToLongBits_ccdee_7 rfl (lv_at hl 0 rfl) ?_
    refine vn_d2l hx hb (by rw [hml]; exact hl.1.symm) hown (htB _ kw644) (htB _ kw645) (htB _ kw646) (htB _ kw647) (Nat.le_of_ble_eq_true rfl) (Nat.le_of_ble_eq_true rfl) dJxe99ae_doubleToLongBits_ccdee_8 ?_
    obtain rfl := os h
    exact ret_j hx hb hr hlocks hP hK hD hS dJxe99ae_doubleToLongBits_ccdee_11

theorem dX3_digest_0 : decode cX3_digest 0 = .ok (.aload_n 0, 1) := by decide +kernel
theorem dX3_digest_1 : decode cX3_digest 1 = .ok (.iconst 0, 1) := by decide +kernel
theorem dX3_digest_2 : decode cX3_digest 2 = .ok (.putfield 34, 3) := by decide +kernel
theorem dX3_digest_5 : decode cX3_digest 5 = .ok (.ldc2_w 165, 3) := by decide +kernel
theorem dX3_digest_8 : decode cX3_digest 8 = .ok (.lstore_n 1, 1) := by decide +kernel
theorem dX3_digest_9 : decode cX3_digest 9 = .ok (.iconst 0, 1) := by decide +kernel
theorem dX3_digest_10 : decode cX3_digest 10 = .ok (.istore_n 3, 1) := by decide +kernel
theorem dX3_digest_11 : decode cX3_digest 11 = .ok (.iload_n 3, 1) := by decide +kernel
theorem dX3_digest_12 : decode cX3_digest 12 = .ok (.iconst 5, 1) := by decide +kernel
theorem dX3_digest_13 : decode cX3_digest 13 = .ok (.if_icmp .ge 22, 3) := by decide +kernel
theorem dX3_digest_16 : decode cX3_digest 16 = .ok (.ldc2_w 167, 3) := by decide +kernel
theorem dX3_digest_19 : decode cX3_digest 19 = .ok (.lload_n 1, 1) := by decide +kernel
theorem dX3_digest_20 : decode cX3_digest 20 = .ok (.lmul, 1) := by decide +kernel
theorem dX3_digest_21 : decode cX3_digest 21 = .ok (.aload_n 0, 1) := by decide +kernel
theorem dX3_digest_22 : decode cX3_digest 22 = .ok (.iload_n 3, 1) := by decide +kernel
theorem dX3_digest_23 : decode cX3_digest 23 = .ok (.invokevirtual 148, 3) := by decide +kernel
theorem dX3_digest_26 : decode cX3_digest 26 = .ok (.i2l, 1) := by decide +kernel
theorem dX3_digest_27 : decode cX3_digest 27 = .ok (.ladd, 1) := by decide +kernel
theorem dX3_digest_28 : decode cX3_digest 28 = .ok (.lstore_n 1, 1) := by decide +kernel
theorem dX3_digest_29 : decode cX3_digest 29 = .ok (.iinc 3 1, 3) := by decide +kernel
theorem dX3_digest_32 : decode cX3_digest 32 = .ok (.goto (-21), 3) := by decide +kernel
theorem dX3_digest_35 : decode cX3_digest 35 = .ok (.iconst 0, 1) := by decide +kernel
theorem dX3_digest_36 : decode cX3_digest 36 = .ok (.istore_n 3, 1) := by decide +kernel
theorem dX3_digest_37 : decode cX3_digest 37 = .ok (.iload_n 3, 1) := by decide +kernel
theorem dX3_digest_38 : decode cX3_digest 38 = .ok (.iconst 4, 1) := by decide +kernel
theorem dX3_digest_39 : decode cX3_digest 39 = .ok (.if_icmp .ge 23, 3) := by decide +kernel
theorem dX3_digest_42 : decode cX3_digest 42 = .ok (.ldc2_w 167, 3) := by decide +kernel
theorem dX3_digest_45 : decode cX3_digest 45 = .ok (.lload_n 1, 1) := by decide +kernel
theorem dX3_digest_46 : decode cX3_digest 46 = .ok (.lmul, 1) := by decide +kernel
theorem dX3_digest_47 : decode cX3_digest 47 = .ok (.aload_n 0, 1) := by decide +kernel
theorem dX3_digest_48 : decode cX3_digest 48 = .ok (.getfield 7, 3) := by decide +kernel
theorem dX3_digest_51 : decode cX3_digest 51 = .ok (.iload_n 3, 1) := by decide +kernel
theorem dX3_digest_52 : decode cX3_digest 52 = .ok (.iaload, 1) := by decide +kernel
theorem dX3_digest_53 : decode cX3_digest 53 = .ok (.i2l, 1) := by decide +kernel
theorem dX3_digest_54 : decode cX3_digest 54 = .ok (.ladd, 1) := by decide +kernel
theorem dX3_digest_55 : decode cX3_digest 55 = .ok (.lstore_n 1, 1) := by decide +kernel
theorem dX3_digest_56 : decode cX3_digest 56 = .ok (.iinc 3 1, 3) := by decide +kernel
theorem dX3_digest_59 : decode cX3_digest 59 = .ok (.goto (-22), 3) := by decide +kernel
theorem dX3_digest_62 : decode cX3_digest 62 = .ok (.iconst 0, 1) := by decide +kernel
theorem dX3_digest_63 : decode cX3_digest 63 = .ok (.istore_n 3, 1) := by decide +kernel
theorem dX3_digest_64 : decode cX3_digest 64 = .ok (.iload_n 3, 1) := by decide +kernel
theorem dX3_digest_65 : decode cX3_digest 65 = .ok (.iconst 2, 1) := by decide +kernel
theorem dX3_digest_66 : decode cX3_digest 66 = .ok (.if_icmp .ge 78, 3) := by decide +kernel
theorem dX3_digest_69 : decode cX3_digest 69 = .ok (.iconst 0, 1) := by decide +kernel
theorem dX3_digest_70 : decode cX3_digest 70 = .ok (.istore 4, 2) := by decide +kernel
theorem dX3_digest_72 : decode cX3_digest 72 = .ok (.iload 4, 2) := by decide +kernel
theorem dX3_digest_74 : decode cX3_digest 74 = .ok (.iconst 4, 1) := by decide +kernel
theorem dX3_digest_75 : decode cX3_digest 75 = .ok (.if_icmp .ge 24, 3) := by decide +kernel
theorem dX3_digest_78 : decode cX3_digest 78 = .ok (.ldc2_w 167, 3) := by decide +kernel
theorem dX3_digest_81 : decode cX3_digest 81 = .ok (.lload_n 1, 1) := by decide +kernel
theorem dX3_digest_82 : decode cX3_digest 82 = .ok (.lmul, 1) := by decide +kernel
theorem dX3_digest_83 : decode cX3_digest 83 = .ok (.aload_n 0, 1) := by decide +kernel
theorem dX3_digest_84 : decode cX3_digest 84 = .ok (.iload_n 3, 1) := by decide +kernel
theorem dX3_digest_85 : decode cX3_digest 85 = .ok (.iload 4, 2) := by decide +kernel
theorem dX3_digest_87 : decode cX3_digest 87 = .ok (.invokevirtual 138, 3) := by decide +kernel
theorem dX3_digest_90 : decode cX3_digest 90 = .ok (.i2l, 1) := by decide +kernel
theorem dX3_digest_91 : decode cX3_digest 91 = .ok (.ladd, 1) := by decide +kernel
theorem dX3_digest_92 : decode cX3_digest 92 = .ok (.lstore_n 1, 1) := by decide +kernel
theorem dX3_digest_93 : decode cX3_digest 93 = .ok (.iinc 4 1, 3) := by decide +kernel
theorem dX3_digest_96 : decode cX3_digest 96 = .ok (.goto (-24), 3) := by decide +kernel
theorem dX3_digest_99 : decode cX3_digest 99 = .ok (.iconst 0, 1) := by decide +kernel
theorem dX3_digest_100 : decode cX3_digest 100 = .ok (.istore 4, 2) := by decide +kernel
theorem dX3_digest_102 : decode cX3_digest 102 = .ok (.iload 4, 2) := by decide +kernel
theorem dX3_digest_104 : decode cX3_digest 104 = .ok (.bipush 24, 2) := by decide +kernel
theorem dX3_digest_106 : decode cX3_digest 106 = .ok (.if_icmp .ge 32, 3) := by decide +kernel
theorem dX3_digest_109 : decode cX3_digest 109 = .ok (.ldc2_w 167, 3) := by decide +kernel
theorem dX3_digest_112 : decode cX3_digest 112 = .ok (.lload_n 1, 1) := by decide +kernel
theorem dX3_digest_113 : decode cX3_digest 113 = .ok (.lmul, 1) := by decide +kernel
theorem dX3_digest_114 : decode cX3_digest 114 = .ok (.aload_n 0, 1) := by decide +kernel
theorem dX3_digest_115 : decode cX3_digest 115 = .ok (.getfield 7, 3) := by decide +kernel
theorem dX3_digest_118 : decode cX3_digest 118 = .ok (.bipush 23, 2) := by decide +kernel
theorem dX3_digest_120 : decode cX3_digest 120 = .ok (.bipush 24, 2) := by decide +kernel
theorem dX3_digest_122 : decode cX3_digest 122 = .ok (.iload_n 3, 1) := by decide +kernel
theorem dX3_digest_123 : decode cX3_digest 123 = .ok (.imul, 1) := by decide +kernel
theorem dX3_digest_124 : decode cX3_digest 124 = .ok (.iadd, 1) := by decide +kernel
theorem dX3_digest_125 : decode cX3_digest 125 = .ok (.iload 4, 2) := by decide +kernel
theorem dX3_digest_127 : decode cX3_digest 127 = .ok (.iadd, 1) := by decide +kernel
theorem dX3_digest_128 : decode cX3_digest 128 = .ok (.iaload, 1) := by decide +kernel
theorem dX3_digest_129 : decode cX3_digest 129 = .ok (.i2l, 1) := by decide +kernel
theorem dX3_digest_130 : decode cX3_digest 130 = .ok (.ladd, 1) := by decide +kernel
theorem dX3_digest_131 : decode cX3_digest 131 = .ok (.lstore_n 1, 1) := by decide +kernel
theorem dX3_digest_132 : decode cX3_digest 132 = .ok (.iinc 4 1, 3) := by decide +kernel
theorem dX3_digest_135 : decode cX3_digest 135 = .ok (.goto (-33), 3) := by decide +kernel
theorem dX3_digest_138 : decode cX3_digest 138 = .ok (.iinc 3 1, 3) := by decide +kernel
theorem dX3_digest_141 : decode cX3_digest 141 = .ok (.goto (-77), 3) := by decide +kernel
theorem dX3_digest_144 : decode cX3_digest 144 = .ok (.iconst 0, 1) := by decide +kernel
theorem dX3_digest_145 : decode cX3_digest 145 = .ok (.istore_n 3, 1) := by decide +kernel
theorem dX3_digest_146 : decode cX3_digest 146 = .ok (.iload_n 3, 1) := by decide +kernel
theorem dX3_digest_147 : decode cX3_digest 147 = .ok (.bipush 54, 2) := by decide +kernel
theorem dX3_digest_149 : decode cX3_digest 149 = .ok (.if_icmp .ge 29, 3) := by decide +kernel
theorem dX3_digest_152 : decode cX3_digest 152 = .ok (.ldc2_w 167, 3) := by decide +kernel
theorem dX3_digest_155 : decode cX3_digest 155 = .ok (.lload_n 1, 1) := by decide +kernel
theorem dX3_digest_156 : decode cX3_digest 156 = .ok (.lmul, 1) := by decide +kernel
theorem dX3_digest_157 : decode cX3_digest 157 = .ok (.aload_n 0, 1) := by decide +kernel
theorem dX3_digest_158 : decode cX3_digest 158 = .ok (.iload_n 3, 1) := by decide +kernel
theorem dX3_digest_159 : decode cX3_digest 159 = .ok (.bipush 9, 2) := by decide +kernel
theorem dX3_digest_161 : decode cX3_digest 161 = .ok (.idiv, 1) := by decide +kernel
theorem dX3_digest_162 : decode cX3_digest 162 = .ok (.iload_n 3, 1) := by decide +kernel
theorem dX3_digest_163 : decode cX3_digest 163 = .ok (.bipush 9, 2) := by decide +kernel
theorem dX3_digest_165 : decode cX3_digest 165 = .ok (.irem, 1) := by decide +kernel
theorem dX3_digest_166 : decode cX3_digest 166 = .ok (.invokevirtual 145, 3) := by decide +kernel
theorem dX3_digest_169 : decode cX3_digest 169 = .ok (.i2l, 1) := by decide +kernel
theorem dX3_digest_170 : decode cX3_digest 170 = .ok (.ladd, 1) := by decide +kernel
theorem dX3_digest_171 : decode cX3_digest 171 = .ok (.lstore_n 1, 1) := by decide +kernel
theorem dX3_digest_172 : decode cX3_digest 172 = .ok (.iinc 3 1, 3) := by decide +kernel
theorem dX3_digest_175 : decode cX3_digest 175 = .ok (.goto (-29), 3) := by decide +kernel
theorem dX3_digest_178 : decode cX3_digest 178 = .ok (.iconst 0, 1) := by decide +kernel
theorem dX3_digest_179 : decode cX3_digest 179 = .ok (.istore_n 3, 1) := by decide +kernel
theorem dX3_digest_180 : decode cX3_digest 180 = .ok (.iload_n 3, 1) := by decide +kernel
theorem dX3_digest_181 : decode cX3_digest 181 = .ok (.bipush 12, 2) := by decide +kernel
theorem dX3_digest_183 : decode cX3_digest 183 = .ok (.if_icmp .ge 47, 3) := by decide +kernel
theorem dX3_digest_186 : decode cX3_digest 186 = .ok (.ldc2_w 167, 3) := by decide +kernel
theorem dX3_digest_189 : decode cX3_digest 189 = .ok (.lload_n 1, 1) := by decide +kernel
theorem dX3_digest_190 : decode cX3_digest 190 = .ok (.lmul, 1) := by decide +kernel
theorem dX3_digest_191 : decode cX3_digest 191 = .ok (.aload_n 0, 1) := by decide +kernel
theorem dX3_digest_192 : decode cX3_digest 192 = .ok (.iconst 2, 1) := by decide +kernel
theorem dX3_digest_193 : decode cX3_digest 193 = .ok (.iload_n 3, 1) := by decide +kernel
theorem dX3_digest_194 : decode cX3_digest 194 = .ok (.iconst 4, 1) := by decide +kernel
theorem dX3_digest_195 : decode cX3_digest 195 = .ok (.if_icmp .ge 7, 3) := by decide +kernel
theorem dX3_digest_198 : decode cX3_digest 198 = .ok (.iconst 0, 1) := by decide +kernel
theorem dX3_digest_199 : decode cX3_digest 199 = .ok (.goto 16, 3) := by decide +kernel
theorem dX3_digest_202 : decode cX3_digest 202 = .ok (.iload_n 3, 1) := by decide +kernel
theorem dX3_digest_203 : decode cX3_digest 203 = .ok (.bipush 8, 2) := by decide +kernel
theorem dX3_digest_205 : decode cX3_digest 205 = .ok (.if_icmp .ge 8, 3) := by decide +kernel
theorem dX3_digest_208 : decode cX3_digest 208 = .ok (.bipush 11, 2) := by decide +kernel
theorem dX3_digest_210 : decode cX3_digest 210 = .ok (.goto 5, 3) := by decide +kernel
theorem dX3_digest_213 : decode cX3_digest 213 = .ok (.bipush 23, 2) := by decide +kernel
theorem dX3_digest_215 : decode cX3_digest 215 = .ok (.iload_n 3, 1) := by decide +kernel
theorem dX3_digest_216 : decode cX3_digest 216 = .ok (.iconst 4, 1) := by decide +kernel
theorem dX3_digest_217 : decode cX3_digest 217 = .ok (.irem, 1) := by decide +kernel
theorem dX3_digest_218 : decode cX3_digest 218 = .ok (.invokevirtual 141, 3) := by decide +kernel
theorem dX3_digest_221 : decode cX3_digest 221 = .ok (.i2l, 1) := by decide +kernel
theorem dX3_digest_222 : decode cX3_digest 222 = .ok (.ladd, 1) := by decide +kernel
theorem dX3_digest_223 : decode cX3_digest 223 = .ok (.lstore_n 1, 1) := by decide +kernel
theorem dX3_digest_224 : decode cX3_digest 224 = .ok (.iinc 3 1, 3) := by decide +kernel
theorem dX3_digest_227 : decode cX3_digest 227 = .ok (.goto (-47), 3) := by decide +kernel
theorem dX3_digest_230 : decode cX3_digest 230 = .ok (.ldc2_w 167, 3) := by decide +kernel
theorem dX3_digest_233 : decode cX3_digest 233 = .ok (.lload_n 1, 1) := by decide +kernel
theorem dX3_digest_234 : decode cX3_digest 234 = .ok (.lmul, 1) := by decide +kernel
theorem dX3_digest_235 : decode cX3_digest 235 = .ok (.aload_n 0, 1) := by decide +kernel
theorem dX3_digest_236 : decode cX3_digest 236 = .ok (.bipush 9, 2) := by decide +kernel
theorem dX3_digest_238 : decode cX3_digest 238 = .ok (.bipush (-50), 2) := by decide +kernel
theorem dX3_digest_240 : decode cX3_digest 240 = .ok (.bipush 50, 2) := by decide +kernel
theorem dX3_digest_242 : decode cX3_digest 242 = .ok (.iconst 1, 1) := by decide +kernel
theorem dX3_digest_243 : decode cX3_digest 243 = .ok (.bipush 10, 2) := by decide +kernel
theorem dX3_digest_245 : decode cX3_digest 245 = .ok (.invokevirtual 151, 3) := by decide +kernel
theorem dX3_digest_248 : decode cX3_digest 248 = .ok (.i2l, 1) := by decide +kernel
theorem dX3_digest_249 : decode cX3_digest 249 = .ok (.ladd, 1) := by decide +kernel
theorem dX3_digest_250 : decode cX3_digest 250 = .ok (.ldc2_w 169, 3) := by decide +kernel
theorem dX3_digest_253 : decode cX3_digest 253 = .ok (.ladd, 1) := by decide +kernel
theorem dX3_digest_254 : decode cX3_digest 254 = .ok (.lstore_n 1, 1) := by decide +kernel
theorem dX3_digest_255 : decode cX3_digest 255 = .ok (.ldc2_w 167, 3) := by decide +kernel
theorem dX3_digest_258 : decode cX3_digest 258 = .ok (.lload_n 1, 1) := by decide +kernel
theorem dX3_digest_259 : decode cX3_digest 259 = .ok (.lmul, 1) := by decide +kernel
theorem dX3_digest_260 : decode cX3_digest 260 = .ok (.aload_n 0, 1) := by decide +kernel
theorem dX3_digest_261 : decode cX3_digest 261 = .ok (.iconst 5, 1) := by decide +kernel
theorem dX3_digest_262 : decode cX3_digest 262 = .ok (.iconst 1, 1) := by decide +kernel
theorem dX3_digest_263 : decode cX3_digest 263 = .ok (.bipush 99, 2) := by decide +kernel
theorem dX3_digest_265 : decode cX3_digest 265 = .ok (.iconst 2, 1) := by decide +kernel
theorem dX3_digest_266 : decode cX3_digest 266 = .ok (.iconst 4, 1) := by decide +kernel
theorem dX3_digest_267 : decode cX3_digest 267 = .ok (.invokevirtual 151, 3) := by decide +kernel
theorem dX3_digest_270 : decode cX3_digest 270 = .ok (.i2l, 1) := by decide +kernel
theorem dX3_digest_271 : decode cX3_digest 271 = .ok (.ladd, 1) := by decide +kernel
theorem dX3_digest_272 : decode cX3_digest 272 = .ok (.lstore_n 1, 1) := by decide +kernel
theorem dX3_digest_273 : decode cX3_digest 273 = .ok (.iconst 0, 1) := by decide +kernel
theorem dX3_digest_274 : decode cX3_digest 274 = .ok (.istore_n 3, 1) := by decide +kernel
theorem dX3_digest_275 : decode cX3_digest 275 = .ok (.iload_n 3, 1) := by decide +kernel
theorem dX3_digest_276 : decode cX3_digest 276 = .ok (.iconst 3, 1) := by decide +kernel
theorem dX3_digest_277 : decode cX3_digest 277 = .ok (.if_icmp .ge 25, 3) := by decide +kernel
theorem dX3_digest_280 : decode cX3_digest 280 = .ok (.ldc2_w 167, 3) := by decide +kernel
theorem dX3_digest_283 : decode cX3_digest 283 = .ok (.lload_n 1, 1) := by decide +kernel
theorem dX3_digest_284 : decode cX3_digest 284 = .ok (.lmul, 1) := by decide +kernel
theorem dX3_digest_285 : decode cX3_digest 285 = .ok (.aload_n 0, 1) := by decide +kernel
theorem dX3_digest_286 : decode cX3_digest 286 = .ok (.iconst 0, 1) := by decide +kernel
theorem dX3_digest_287 : decode cX3_digest 287 = .ok (.bipush 9, 2) := by decide +kernel
theorem dX3_digest_289 : decode cX3_digest 289 = .ok (.iload_n 3, 1) := by decide +kernel
theorem dX3_digest_290 : decode cX3_digest 290 = .ok (.invokevirtual 155, 3) := by decide +kernel
theorem dX3_digest_293 : decode cX3_digest 293 = .ok (.i2l, 1) := by decide +kernel
theorem dX3_digest_294 : decode cX3_digest 294 = .ok (.ladd, 1) := by decide +kernel
theorem dX3_digest_295 : decode cX3_digest 295 = .ok (.lstore_n 1, 1) := by decide +kernel
theorem dX3_digest_296 : decode cX3_digest 296 = .ok (.iinc 3 1, 3) := by decide +kernel
theorem dX3_digest_299 : decode cX3_digest 299 = .ok (.goto (-24), 3) := by decide +kernel
theorem dX3_digest_302 : decode cX3_digest 302 = .ok (.ldc2_w 167, 3) := by decide +kernel
theorem dX3_digest_305 : decode cX3_digest 305 = .ok (.lload_n 1, 1) := by decide +kernel
theorem dX3_digest_306 : decode cX3_digest 306 = .ok (.lmul, 1) := by decide +kernel
theorem dX3_digest_307 : decode cX3_digest 307 = .ok (.aload_n 0, 1) := by decide +kernel
theorem dX3_digest_308 : decode cX3_digest 308 = .ok (.iconst 3, 1) := by decide +kernel
theorem dX3_digest_309 : decode cX3_digest 309 = .ok (.bipush 60, 2) := by decide +kernel
theorem dX3_digest_311 : decode cX3_digest 311 = .ok (.invokevirtual 158, 3) := by decide +kernel
theorem dX3_digest_314 : decode cX3_digest 314 = .ok (.i2l, 1) := by decide +kernel
theorem dX3_digest_315 : decode cX3_digest 315 = .ok (.ladd, 1) := by decide +kernel
theorem dX3_digest_316 : decode cX3_digest 316 = .ok (.lstore_n 1, 1) := by decide +kernel
theorem dX3_digest_317 : decode cX3_digest 317 = .ok (.ldc2_w 167, 3) := by decide +kernel
theorem dX3_digest_320 : decode cX3_digest 320 = .ok (.ldc2_w 167, 3) := by decide +kernel
theorem dX3_digest_323 : decode cX3_digest 323 = .ok (.lload_n 1, 1) := by decide +kernel
theorem dX3_digest_324 : decode cX3_digest 324 = .ok (.lmul, 1) := by decide +kernel
theorem dX3_digest_325 : decode cX3_digest 325 = .ok (.aload_n 0, 1) := by decide +kernel
theorem dX3_digest_326 : decode cX3_digest 326 = .ok (.iconst 2, 1) := by decide +kernel
theorem dX3_digest_327 : decode cX3_digest 327 = .ok (.invokevirtual 161, 3) := by decide +kernel
theorem dX3_digest_330 : decode cX3_digest 330 = .ok (.invokestatic 171, 3) := by decide +kernel
theorem dX3_digest_333 : decode cX3_digest 333 = .ok (.ladd, 1) := by decide +kernel
theorem dX3_digest_334 : decode cX3_digest 334 = .ok (.lmul, 1) := by decide +kernel
theorem dX3_digest_335 : decode cX3_digest 335 = .ok (.aload_n 0, 1) := by decide +kernel
theorem dX3_digest_336 : decode cX3_digest 336 = .ok (.getfield 106, 3) := by decide +kernel
theorem dX3_digest_339 : decode cX3_digest 339 = .ok (.i2l, 1) := by decide +kernel
theorem dX3_digest_340 : decode cX3_digest 340 = .ok (.ladd, 1) := by decide +kernel
theorem dX3_digest_341 : decode cX3_digest 341 = .ok (.lstore_n 1, 1) := by decide +kernel
theorem dX3_digest_342 : decode cX3_digest 342 = .ok (.iconst 0, 1) := by decide +kernel
theorem dX3_digest_343 : decode cX3_digest 343 = .ok (.istore_n 3, 1) := by decide +kernel
theorem dX3_digest_344 : decode cX3_digest 344 = .ok (.iload_n 3, 1) := by decide +kernel
theorem dX3_digest_345 : decode cX3_digest 345 = .ok (.aload_n 0, 1) := by decide +kernel
theorem dX3_digest_346 : decode cX3_digest 346 = .ok (.getfield 106, 3) := by decide +kernel
theorem dX3_digest_349 : decode cX3_digest 349 = .ok (.if_icmp .ge 23, 3) := by decide +kernel
theorem dX3_digest_352 : decode cX3_digest 352 = .ok (.ldc2_w 167, 3) := by decide +kernel
theorem dX3_digest_355 : decode cX3_digest 355 = .ok (.lload_n 1, 1) := by decide +kernel
theorem dX3_digest_356 : decode cX3_digest 356 = .ok (.lmul, 1) := by decide +kernel
theorem dX3_digest_357 : decode cX3_digest 357 = .ok (.aload_n 0, 1) := by decide +kernel
theorem dX3_digest_358 : decode cX3_digest 358 = .ok (.getfield 19, 3) := by decide +kernel
theorem dX3_digest_361 : decode cX3_digest 361 = .ok (.iload_n 3, 1) := by decide +kernel
theorem dX3_digest_362 : decode cX3_digest 362 = .ok (.iaload, 1) := by decide +kernel
theorem dX3_digest_363 : decode cX3_digest 363 = .ok (.i2l, 1) := by decide +kernel
theorem dX3_digest_364 : decode cX3_digest 364 = .ok (.ladd, 1) := by decide +kernel
theorem dX3_digest_365 : decode cX3_digest 365 = .ok (.lstore_n 1, 1) := by decide +kernel
theorem dX3_digest_366 : decode cX3_digest 366 = .ok (.iinc 3 1, 3) := by decide +kernel
theorem dX3_digest_369 : decode cX3_digest 369 = .ok (.goto (-25), 3) := by decide +kernel
theorem dX3_digest_372 : decode cX3_digest 372 = .ok (.lload_n 1, 1) := by decide +kernel
theorem dX3_digest_373 : decode cX3_digest 373 = .ok (.lreturn, 1) := by decide +kernel
abbrev zX3_digest : List Cond := .code yX3_digest cX3_digest 5 (some .long) :: BIG
def fX3_digest_l102 (fn : (Nat → Int32)) (tx : (Nat → Int32)) (K64 : (MoT × (Nat → Int32) × (Nat → Int32) × (Nat → Int32) × (Nat → Int32) × Int64 × Int32) → Option (Int64 × MoT × (Nat → Int32) × (Nat → Int32) × (Nat → Int32) × (Nat → Int32))) (K102 : (MoT × (Nat → Int32) × (Nat → Int32) × (Nat → Int32) × (Nat → Int32) × Int64 × Int32 × Int32) → Option (Int64 × MoT × (Nat → Int32) × (Nat → Int32) × (Nat → Int32) × (Nat → Int32))) (v102 : MoT × (Nat → Int32) × (Nat → Int32) × (Nat → Int32) × (Nat → Int32) × Int64 × Int32 × Int32) : Option (Int64 × MoT × (Nat → Int32) × (Nat → Int32) × (Nat → Int32) × (Nat → Int32)) := (if 24 ≤ v102.2.2.2.2.2.2.2 then K64 (v102.1, v102.2.1, v102.2.2.1, v102.2.2.2.1, v102.2.2.2.2.1, v102.2.2.2.2.2.1, v102.2.2.2.2.2.2.1 + 1) else gd (pin ((23 + (24 * v102.2.2.2.2.2.2.1)) + v102.2.2.2.2.2.2.2) 71) (K102 (v102.1, v102.2.1, v102.2.2.1, v102.2.2.2.1, v102.2.2.2.2.1, (31 * v102.2.2.2.2.2.1) + (Int32.toInt64 (fn (Int32.toNatClampNeg ((23 + (24 * v102.2.2.2.2.2.2.1)) + v102.2.2.2.2.2.2.2)))), v102.2.2.2.2.2.2.1, v102.2.2.2.2.2.2.2 + 1)))
def fX3_digest_j215 (fn : (Nat → Int32)) (tx : (Nat → Int32)) (K180 : (MoT × (Nat → Int32) × (Nat → Int32) × (Nat → Int32) × (Nat → Int32) × Int64 × Int32) → Option (Int64 × MoT × (Nat → Int32) × (Nat → Int32) × (Nat → Int32) × (Nat → Int32))) (v215 : MoT × (Nat → Int32) × (Nat → Int32) × (Nat → Int32) × (Nat → Int32) × Int32 × Int32 × Int32 × Int64) : Option (Int64 × MoT × (Nat → Int32) × (Nat → Int32) × (Nat → Int32) × (Nat → Int32)) := (fX3_ofColumn v215.1 fn v215.2.2.1 v215.2.2.2.1 v215.2.2.2.2.1 v215.2.2.2.2.2.2.2.1 v215.2.2.2.2.2.2.1 (v215.2.2.2.2.2.1 - v215.2.2.2.2.2.1 / 4 * 4)).bind (fun r17 => K180 (v215.1, v215.2.1, r17.2.1, r17.2.2.1, r17.2.2.2, v215.2.2.2.2.2.2.2.2 + (Int32.toInt64 r17.1), v215.2.2.2.2.2.1 + 1))
def fX3_digest_l344 (fn : (Nat → Int32)) (tx : (Nat → Int32))  (K344 : (MoT × (Nat → Int32) × (Nat → Int32) × (Nat → Int32) × (Nat → Int32) × Int64 × Int32) → Option (Int64 × MoT × (Nat → Int32) × (Nat → Int32) × (Nat → Int32) × (Nat → Int32))) (v344 : MoT × (Nat → Int32) × (Nat → Int32) × (Nat → Int32) × (Nat → Int32) × Int64 × Int32) : Option (Int64 × MoT × (Nat → Int32) × (Nat → Int32) × (Nat → Int32) × (Nat → Int32)) := (if v344.1.2.1 ≤ v344.2.2.2.2.2.2 then some (v344.2.2.2.2.2.1, v344.1, v344.2.1, v344.2.2.1, v344.2.2.2.1, v344.2.2.2.2.1) else gd (pin v344.2.2.2.2.2.2 60) (K344 (v344.1, v344.2.1, v344.2.2.1, v344.2.2.2.1, v344.2.2.2.2.1, (31 * v344.2.2.2.2.2.1) + (Int32.toInt64 (tx (Int32.toNatClampNeg v344.2.2.2.2.2.2))), v344.2.2.2.2.2.2 + 1)))
def fX3_digest_l275 (fn : (Nat → Int32)) (tx : (Nat → Int32))  (K275 : (MoT × (Nat → Int32) × (Nat → Int32) × (Nat → Int32) × (Nat → Int32) × Int64 × Int32) → Option (Int64 × MoT × (Nat → Int32) × (Nat → Int32) × (Nat → Int32) × (Nat → Int32))) (v275 : MoT × (Nat → Int32) × (Nat → Int32) × (Nat → Int32) × (Nat → Int32) × Int64 × Int32) : Option (Int64 × MoT × (Nat → Int32) × (Nat → Int32) × (Nat → Int32) × (Nat → Int32)) := (if 3 ≤ v275.2.2.2.2.2.2 then (fX3_good v275.1 fn v275.2.1 v275.2.2.1 v275.2.2.2.1 v275.2.2.2.2.1 3 60).bind (fun r19 => (fX3_share v275.1 fn r19.2.2.1 r19.2.2.2.1 r19.2.2.2.2 2).bind (fun r20 => (fJxe99ae_doubleToLongBits_ccdee r20.1).bind (fun r21 => lp (fX3_digest_l344 fn tx) 2000 (v275.1, r19.2.1, r20.2.1, r20.2.2.1, r20.2.2.2, (31 * ((31 * ((31 * v275.2.2.2.2.2.1) + (Int32.toInt64 r19.1))) + r21)) + (Int32.toInt64 v275.1.2.1), 0)))) else (fX3_byShooting v275.1 fn v275.2.1 v275.2.2.1 v275.2.2.2.1 v275.2.2.2.2.1 0 9 v275.2.2.2.2.2.2).bind (fun r22 => K275 (v275.1, r22.2.1, r22.2.2.1, r22.2.2.2.1, r22.2.2.2.2, (31 * v275.2.2.2.2.2.1) + (Int32.toInt64 r22.1), v275.2.2.2.2.2.2 + 1)))
def fX3_digest_l180 (fn : (Nat → Int32)) (tx : (Nat → Int32))  (K180 : (MoT × (Nat → Int32) × (Nat → Int32) × (Nat → Int32) × (Nat → Int32) × Int64 × Int32) → Option (Int64 × MoT × (Nat → Int32) × (Nat → Int32) × (Nat → Int32) × (Nat → Int32))) (v180 : MoT × (Nat → Int32) × (Nat → Int32) × (Nat → Int32) × (Nat → Int32) × Int64 × Int32) : Option (Int64 × MoT × (Nat → Int32) × (Nat → Int32) × (Nat → Int32) × (Nat → Int32)) := (if 12 ≤ v180.2.2.2.2.2.2 then (fX3_best v180.1 fn v180.2.1 v180.2.2.1 v180.2.2.2.1 v180.2.2.2.2.1 9 (-50) 50 1 10).bind (fun r13 => (fX3_best v180.1 fn r13.2.1 r13.2.2.1 r13.2.2.2.1 r13.2.2.2.2 5 1 99 2 4).bind (fun r14 => lp (fX3_digest_l275 fn tx) 2000 (v180.1, r14.2.1, r14.2.2.1, r14.2.2.2.1, r14.2.2.2.2, (31 * (((31 * v180.2.2.2.2.2.1) + (Int32.toInt64 r13.1)) + 100)) + (Int32.toInt64 r14.1), 0))) else (if 4 ≤ v180.2.2.2.2.2.2 then (if 8 ≤ v180.2.2.2.2.2.2 then fX3_digest_j215 fn tx K180 (v180.1, v180.2.1, v180.2.2.1, v180.2.2.2.1, v180.2.2.2.2.1, v180.2.2.2.2.2.2, 23, 2, 31 * v180.2.2.2.2.2.1) else fX3_digest_j215 fn tx K180 (v180.1, v180.2.1, v180.2.2.1, v180.2.2.2.1, v180.2.2.2.2.1, v180.2.2.2.2.2.2, 11, 2, 31 * v180.2.2.2.2.2.1)) else fX3_digest_j215 fn tx K180 (v180.1, v180.2.1, v180.2.2.1, v180.2.2.2.1, v180.2.2.2.2.1, v180.2.2.2.2.2.2, 0, 2, 31 * v180.2.2.2.2.2.1)))
def fX3_digest_l146 (fn : (Nat → Int32)) (tx : (Nat → Int32))  (K146 : (MoT × (Nat → Int32) × (Nat → Int32) × (Nat → Int32) × (Nat → Int32) × Int64 × Int32) → Option (Int64 × MoT × (Nat → Int32) × (Nat → Int32) × (Nat → Int32) × (Nat → Int32))) (v146 : MoT × (Nat → Int32) × (Nat → Int32) × (Nat → Int32) × (Nat → Int32) × Int64 × Int32) : Option (Int64 × MoT × (Nat → Int32) × (Nat → Int32) × (Nat → Int32) × (Nat → Int32)) := (if 54 ≤ v146.2.2.2.2.2.2 then lp (fX3_digest_l180 fn tx) 2000 (v146.1, v146.2.1, v146.2.2.1, v146.2.2.2.1, v146.2.2.2.2.1, v146.2.2.2.2.2.1, 0) else (fX3_ofSpeed v146.1 fn v146.2.2.1 v146.2.2.2.1 v146.2.2.2.2.1 (v146.2.2.2.2.2.2 / 9) (v146.2.2.2.2.2.2 - v146.2.2.2.2.2.2 / 9 * 9)).bind (fun r11 => K146 (v146.1, v146.2.1, r11.2.1, r11.2.2.1, r11.2.2.2, (31 * v146.2.2.2.2.2.1) + (Int32.toInt64 r11.1), v146.2.2.2.2.2.2 + 1)))
def fX3_digest_l72 (fn : (Nat → Int32)) (tx : (Nat → Int32)) (K64 : (MoT × (Nat → Int32) × (Nat → Int32) × (Nat → Int32) × (Nat → Int32) × Int64 × Int32) → Option (Int64 × MoT × (Nat → Int32) × (Nat → Int32) × (Nat → Int32) × (Nat → Int32))) (K72 : (MoT × (Nat → Int32) × (Nat → Int32) × (Nat → Int32) × (Nat → Int32) × Int64 × Int32 × Int32) → Option (Int64 × MoT × (Nat → Int32) × (Nat → Int32) × (Nat → Int32) × (Nat → Int32))) (v72 : MoT × (Nat → Int32) × (Nat → Int32) × (Nat → Int32) × (Nat → Int32) × Int64 × Int32 × Int32) : Option (Int64 × MoT × (Nat → Int32) × (Nat → Int32) × (Nat → Int32) × (Nat → Int32)) := (if 4 ≤ v72.2.2.2.2.2.2.2 then lp (fX3_digest_l102 fn tx K64) 2000 (v72.1, v72.2.1, v72.2.2.1, v72.2.2.2.1, v72.2.2.2.2.1, v72.2.2.2.2.2.1, v72.2.2.2.2.2.2.1, 0) else (fX3_ofCurtain v72.1 fn v72.2.2.2.2.2.2.1 v72.2.2.2.2.2.2.2).bind (fun r7 => K72 (v72.1, v72.2.1, v72.2.2.1, v72.2.2.2.1, v72.2.2.2.2.1, (31 * v72.2.2.2.2.2.1) + (Int32.toInt64 r7), v72.2.2.2.2.2.2.1, v72.2.2.2.2.2.2.2 + 1)))
def fX3_digest_l64 (fn : (Nat → Int32)) (tx : (Nat → Int32))  (K64 : (MoT × (Nat → Int32) × (Nat → Int32) × (Nat → Int32) × (Nat → Int32) × Int64 × Int32) → Option (Int64 × MoT × (Nat → Int32) × (Nat → Int32) × (Nat → Int32) × (Nat → Int32))) (v64 : MoT × (Nat → Int32) × (Nat → Int32) × (Nat → Int32) × (Nat → Int32) × Int64 × Int32) : Option (Int64 × MoT × (Nat → Int32) × (Nat → Int32) × (Nat → Int32) × (Nat → Int32)) := (if 2 ≤ v64.2.2.2.2.2.2 then lp (fX3_digest_l146 fn tx) 2000 (v64.1, v64.2.1, v64.2.2.1, v64.2.2.2.1, v64.2.2.2.2.1, v64.2.2.2.2.2.1, 0) else lp (fX3_digest_l72 fn tx K64) 2000 (v64.1, v64.2.1, v64.2.2.1, v64.2.2.2.1, v64.2.2.2.2.1, v64.2.2.2.2.2.1, v64.2.2.2.2.2.2, 0))
def fX3_digest_l37 (fn : (Nat → Int32)) (tx : (Nat → Int32))  (K37 : (MoT × (Nat → Int32) × (Nat → Int32) × (Nat → Int32) × (Nat → Int32) × Int64 × Int32) → Option (Int64 × MoT × (Nat → Int32) × (Nat → Int32) × (Nat → Int32) × (Nat → Int32))) (v37 : MoT × (Nat → Int32) × (Nat → Int32) × (Nat → Int32) × (Nat → Int32) × Int64 × Int32) : Option (Int64 × MoT × (Nat → Int32) × (Nat → Int32) × (Nat → Int32) × (Nat → Int32)) := (if 4 ≤ v37.2.2.2.2.2.2 then lp (fX3_digest_l64 fn tx) 2000 (v37.1, v37.2.1, v37.2.2.1, v37.2.2.2.1, v37.2.2.2.2.1, v37.2.2.2.2.2.1, 0) else gd (pin v37.2.2.2.2.2.2 71) (K37 (v37.1, v37.2.1, v37.2.2.1, v37.2.2.2.1, v37.2.2.2.2.1, (31 * v37.2.2.2.2.2.1) + (Int32.toInt64 (fn (Int32.toNatClampNeg v37.2.2.2.2.2.2))), v37.2.2.2.2.2.2 + 1)))
def fX3_digest_l11 (fn : (Nat → Int32)) (tx : (Nat → Int32))  (K11 : (MoT × (Nat → Int32) × (Nat → Int32) × (Nat → Int32) × (Nat → Int32) × Int64 × Int32) → Option (Int64 × MoT × (Nat → Int32) × (Nat → Int32) × (Nat → Int32) × (Nat → Int32))) (v11 : MoT × (Nat → Int32) × (Nat → Int32) × (Nat → Int32) × (Nat → Int32) × Int64 × Int32) : Option (Int64 × MoT × (Nat → Int32) × (Nat → Int32) × (Nat → Int32) × (Nat → Int32)) := (if 5 ≤ v11.2.2.2.2.2.2 then lp (fX3_digest_l37 fn tx) 2000 (v11.1, v11.2.1, v11.2.2.1, v11.2.2.2.1, v11.2.2.2.2.1, v11.2.2.2.2.2.1, 0) else (fX3_counted v11.1 fn v11.2.2.2.2.2.2).bind (fun r2 => K11 (v11.1, v11.2.1, v11.2.2.1, v11.2.2.2.1, v11.2.2.2.2.1, (31 * v11.2.2.2.2.2.1) + (Int32.toInt64 r2), v11.2.2.2.2.2.2 + 1)))
def fX3_digest (mo : MoT) (fn : (Nat → Int32)) (ft : (Nat → Int32)) (tx : (Nat → Int32)) (le : (Nat → Int32)) (co : (Nat → Int32)) (li : (Nat → Int32)) : Option (Int64 × MoT × (Nat → Int32) × (Nat → Int32) × (Nat → Int32) × (Nat → Int32)) := lp (fX3_digest_l11 fn tx) 2000 ((mo.1, mo.2.1, 0, mo.2.2.2.1, mo.2.2.2.2.1, mo.2.2.2.2.2), ft, le, co, li, 3191, 0)
set_option maxHeartbeats 4000000 in
set_option maxRecDepth 100000 in
theorem mtX3_digest (l : Launch) (D : va_G) (t : Nat → ClassId) (mh : Nat) (mb : Nat → Nat) (mo : MoT) (fn : (Nat → Int32)) (ft : (Nat → Int32)) (tx : (Nat → Int32)) (le : (Nat → Int32)) (co : (Nat → Int32)) (li : (Nat → Int32)) (out : Int64 × MoT × (Nat → Int32) × (Nat → Int32) × (Nat → Int32) × (Nat → Int32)) (h : fX3_digest mo fn ft tx le co li = some out)  (sz : Nat) : Met l yX3_digest zX3_digest ({ frames := 6, cells := 0, slots := 0, locals := 139 }) (sPc D t (gMo mh mb mo ++ (gA t (mb 0) 71 fn ++ (gA t (mb 1) 71 ft ++ (gA t (mb 3) 60 tx ++ (gA t (mb 5) 24 le ++ (gA t (mb 6) 24 co ++ (gA t (mb 7) 24 li))))))) sz [.ref mh]) (qJ D t (gMo mh mb out.2.1 ++ (gA t (mb 0) 71 fn ++ (gA t (mb 1) 71 out.2.2.1 ++ (gA t (mb 3) 60 tx ++ (gA t (mb 5) 24 out.2.2.2.1 ++ (gA t (mb 6) 24 out.2.2.2.2.1 ++ (gA t (mb 7) 24 out.2.2.2.2.2))))))) out.1 (va_A (gMo mh mb mo ++ (gA t (mb 0) 71 fn ++ (gA t (mb 1) 71 ft ++ (gA t (mb 3) 60 tx ++ (gA t (mb 5) 24 le ++ (gA t (mb 6) 24 co ++ (gA t (mb 7) 24 li))))))) sz)) 0 0 (va_A (gMo mh mb mo ++ (gA t (mb 0) 71 fn ++ (gA t (mb 1) 71 ft ++ (gA t (mb 3) 60 tx ++ (gA t (mb 5) 24 le ++ (gA t (mb 6) 24 co ++ (gA t (mb 7) 24 li))))))) sz) := by
  refine met_of (Qf := fun A => qJ D t (gMo mh mb out.2.1 ++ (gA t (mb 0) 71 fn ++ (gA t (mb 1) 71 out.2.2.1 ++ (gA t (mb 3) 60 tx ++ (gA t (mb 5) 24 out.2.2.2.1 ++ (gA t (mb 6) 24 out.2.2.2.2.1 ++ (gA t (mb 7) 24 out.2.2.2.2.2))))))) out.1 A) (cc := cX3_digest) (maxL := 5) (ret := some .long) (by decide) rfl (Nat.le_of_ble_eq_true rfl) ?_
  intro p e s m args below meth c A hx hb hr hml hts hown hlocks hA hP hK hD hE hS ls hl
  have htB : ∀ w ∈ BIG, w.before args s = true := fun w h => hts w (List.mem_cons_of_mem _ h)
  have hown : s.vm.findClass RX3 = some m.cls := hown
  have hl : lv_has ls 5 [(0, .ref mh)] := hl
  unfold fX3_digest at h
  have J344 : ∀ (fu344 : Nat) (v344 : MoT × (Nat → Int32) × (Nat → Int32) × (Nat → Int32) × (Nat → Int32) × Int64 × Int32), lp (fX3_digest_l344 fn tx) fu344 v344 = some out → ∀ (H : Heap) (locs : List Loc), va_P D vwCl (gMo mh mb v344.1 ++ (gA t (mb 0) 71 fn ++ (gA t (mb 1) 71 v344.2.1 ++ (gA t (mb 3) 60 tx ++ (gA t (mb 5) 24 v344.2.2.1 ++ (gA t (mb 6) 24 v344.2.2.2.1 ++ (gA t (mb 7) 24 v344.2.2.2.2.1))))))) H → va_D A (gMo mh mb v344.1 ++ (gA t (mb 0) 71 fn ++ (gA t (mb 1) 71 v344.2.1 ++ (gA t (mb 3) 60 tx ++ (gA t (mb 5) 24 v344.2.2.1 ++ (gA t (mb 6) 24 v344.2.2.2.1 ++ (gA t (mb 7) 24 v344.2.2.2.2.1))))))) → va_S A s.heap H locs → ∀ ls : Array Slot, lv_has ls 5 [(0, .ref mh), (1, .long v344.2.2.2.2.2.1), (3, .int v344.2.2.2.2.2.2)] → W p l e ({ frames := 6, cells := 0, slots := 0, locals := 139 }) s m args below meth c H locs 0 0 (MQ below (qJ D t (gMo mh mb out.2.1 ++ (gA t (mb 0) 71 fn ++ (gA t (mb 1) 71 out.2.2.1 ++ (gA t (mb 3) 60 tx ++ (gA t (mb 5) 24 out.2.2.2.1 ++ (gA t (mb 6) 24 out.2.2.2.2.1 ++ (gA t (mb 7) 24 out.2.2.2.2.2))))))) out.1 A) args s 0 0 A) (F0 m 344 ls []) := by
    intro fu344
    induction fu344 with
    | zero => intro v344 h; cases h
    | succ fu344 ih344 =>
      intro v344 h H locs hP hD hS ls hl
      have h : fX3_digest_l344 fn tx (lp (fX3_digest_l344 fn tx) fu344) v344 = some out := h
      unfold fX3_digest_l344 at h
      refine lv_iload_n hx hb dX3_digest_344 rfl (lv_at hl 2 rfl) ?_
      refine lv_aload_n hx hb dX3_digest_345 rfl (lv_at hl 0 rfl) ?_
      refine va_get (D := D) (ci := 3) (v := .int v344.1.2.1) (C := RX3) (T := TX3) (N := 14) hx hb htB inlX3 hown hK hP 0 rfl rfl 5 (by decide) (htB _ kw332) (fun _ h9 => h9) rfl dX3_digest_346 ?_
      refine lv_icmp_ge (tgt := 372) hx hb dX3_digest_349 (by decide) (fun c23 => ?_) (fun c23 => ?_)
      · have h := it_p c23 h
        refine lv_lload_n hx hb dX3_digest_372 rfl (lv_at hl 1 rfl) ?_
        obtain rfl := os h
        exact ret_j hx hb hr hlocks hP hK hD hS dX3_digest_373
      · have h := it_n c23 h
        refine lv_ldc2 (v := 31) hx hb hown (htB _ kw638) dX3_digest_352 ?_
        refine lv_lload_n hx hb dX3_digest_355 rfl (lv_at hl 1 rfl) ?_
        refine lv_lmul hx hb dX3_digest_356 ?_
        refine lv_aload_n hx hb dX3_digest_357 rfl (lv_at hl 0 rfl) ?_
        refine va_get (D := D) (ci := 3) (v := .ref (mb 3)) (C := RX3) (T := TX3) (N := 14) hx hb htB inlX3 hown hK hP 0 rfl rfl 4 (by decide) (htB _ kw57) (fun _ h9 => h9) rfl dX3_digest_358 ?_
        refine lv_iload_n hx hb dX3_digest_361 rfl (lv_at hl 2 rfl) ?_
        obtain ⟨g24, h⟩ := og h
        refine va_iald hx hb hK hP 3 0 rfl rfl (pin_in g24) dX3_digest_362 ?_
        refine lv_i2l (v := Int32.toInt64 (tx (Int32.toNatClampNeg v344.2.2.2.2.2.2))) hx hb dX3_digest_363 rfl ?_
        refine lv_ladd hx hb dX3_digest_364 ?_
        refine lv_lstore_n (lv' := [(1, .long ((31 * v344.2.2.2.2.2.1) + (Int32.toInt64 (tx (Int32.toNatClampNeg v344.2.2.2.2.2.2))))), (0, .ref mh), (3, .int v344.2.2.2.2.2.2)]) hx hb dX3_digest_365 rfl hl (by decide) rfl (fun ls hl => ?_)
        refine lv_iinc (v := v344.2.2.2.2.2.2 + 1) (lv' := [(3, .int (v344.2.2.2.2.2.2 + 1)), (1, .long ((31 * v344.2.2.2.2.2.1) + (Int32.toInt64 (tx (Int32.toNatClampNeg v344.2.2.2.2.2.2))))), (0, .ref mh)]) hx hb dX3_digest_366 hl (k := 2) rfl rfl (by decide) rfl (fun ls hl => ?_)
        refine lv_goto (tgt := 344) hx hb dX3_digest_369 (by decide) ?_
        exact ih344 (v344.1, v344.2.1, v344.2.2.1, v344.2.2.2.1, v344.2.2.2.2.1, (31 * v344.2.2.2.2.2.1) + (Int32.toInt64 (tx (Int32.toNatClampNeg v344.2.2.2.2.2.2))), v344.2.2.2.2.2.2 + 1) h _ _ hP hD hS _ (lv_sub hl [2, 1, 0] rfl)
  have J275 : ∀ (fu275 : Nat) (v275 : MoT × (Nat → Int32) × (Nat → Int32) × (Nat → Int32) × (Nat → Int32) × Int64 × Int32), lp (fX3_digest_l275 fn tx) fu275 v275 = some out → ∀ (H : Heap) (locs : List Loc), va_P D vwCl (gMo mh mb v275.1 ++ (gA t (mb 0) 71 fn ++ (gA t (mb 1) 71 v275.2.1 ++ (gA t (mb 3) 60 tx ++ (gA t (mb 5) 24 v275.2.2.1 ++ (gA t (mb 6) 24 v275.2.2.2.1 ++ (gA t (mb 7) 24 v275.2.2.2.2.1))))))) H → va_D A (gMo mh mb v275.1 ++ (gA t (mb 0) 71 fn ++ (gA t (mb 1) 71 v275.2.1 ++ (gA t (mb 3) 60 tx ++ (gA t (mb 5) 24 v275.2.2.1 ++ (gA t (mb 6) 24 v275.2.2.2.1 ++ (gA t (mb 7) 24 v275.2.2.2.2.1))))))) → va_S A s.heap H locs → ∀ ls : Array Slot, lv_has ls 5 [(0, .ref mh), (1, .long v275.2.2.2.2.2.1), (3, .int v275.2.2.2.2.2.2)] → W p l e ({ frames := 6, cells := 0, slots := 0, locals := 139 }) s m args below meth c H locs 0 0 (MQ below (qJ D t (gMo mh mb out.2.1 ++ (gA t (mb 0) 71 fn ++ (gA t (mb 1) 71 out.2.2.1 ++ (gA t (mb 3) 60 tx ++ (gA t (mb 5) 24 out.2.2.2.1 ++ (gA t (mb 6) 24 out.2.2.2.2.1 ++ (gA t (mb 7) 24 out.2.2.2.2.2))))))) out.1 A) args s 0 0 A) (F0 m 275 ls []) := by
    intro fu275
    induction fu275 with
    | zero => intro v275 h; cases h
    | succ fu275 ih275 =>
      intro v275 h H locs hP hD hS ls hl
      have h : fX3_digest_l275 fn tx (lp (fX3_digest_l275 fn tx) fu275) v275 = some out := h
      unfold fX3_digest_l275 at h
      refine lv_iload_n hx hb dX3_digest_275 rfl (lv_at hl 2 rfl) ?_
      refine lv_iconst (v := 3) hx hb dX3_digest_276 (by decide) ?_
      refine lv_icmp_ge (tgt := 302) hx hb dX3_digest_277 (by decide) (fun c18 => ?_) (fun c18 => ?_)
      · have h := it_p c18 h
        refine lv_ldc2 (v := 31) hx hb hown (htB _ kw638) dX3_digest_302 ?_
        refine lv_lload_n hx hb dX3_digest_305 rfl (lv_at hl 1 rfl) ?_
        refine lv_lmul hx hb dX3_digest_306 ?_
        refine lv_aload_n hx hb dX3_digest_307 rfl (lv_at hl 0 rfl) ?_
        refine lv_iconst (v := 3) hx hb dX3_digest_308 (by decide) ?_
        refine lv_bipush (v := 60) hx hb dX3_digest_309 (by decide) ?_
        obtain ⟨r19, h19, h⟩ := ob h
        refine call_i (v := r19.1) (wc := (gMo mh mb v275.1 ++ (gA t (mb 0) 71 fn ++ (gA t (mb 1) 71 v275.2.1 ++ (gA t (mb 5) 24 v275.2.2.1 ++ (gA t (mb 6) 24 v275.2.2.2.1 ++ (gA t (mb 7) 24 v275.2.2.2.2.1))))))) (wc' := (gMo mh mb v275.1 ++ (gA t (mb 0) 71 fn ++ (gA t (mb 1) 71 r19.2.1 ++ (gA t (mb 5) 24 r19.2.2.1 ++ (gA t (mb 6) 24 r19.2.2.2.1 ++ (gA t (mb 7) 24 r19.2.2.2.2))))))) (ws' := (gMo mh mb v275.1 ++ (gA t (mb 0) 71 fn ++ (gA t (mb 1) 71 r19.2.1 ++ (gA t (mb 3) 60 tx ++ (gA t (mb 5) 24 r19.2.2.1 ++ (gA t (mb 6) 24 r19.2.2.2.1 ++ (gA t (mb 7) 24 r19.2.2.2.2)))))))) (cutB (bs := [gMo mh mb v275.1, gA t (mb 0) 71 fn, gA t (mb 1) 71 v275.2.1, gA t (mb 3) 60 tx, gA t (mb 5) 24 v275.2.2.1, gA t (mb 6) 24 v275.2.2.2.1, gA t (mb 7) 24 v275.2.2.2.2.1]) (cs := [gMo mh mb v275.1, gA t (mb 0) 71 fn, gA t (mb 1) 71 v275.2.1, gA t (mb 5) 24 v275.2.2.1, gA t (mb 6) 24 v275.2.2.2.1, gA t (mb 7) 24 v275.2.2.2.2.1]) (cs' := [gMo mh mb v275.1, gA t (mb 0) 71 fn, gA t (mb 1) 71 r19.2.1, gA t (mb 5) 24 r19.2.2.1, gA t (mb 6) 24 r19.2.2.2.1, gA t (mb 7) 24 r19.2.2.2.2]) (bs' := [gMo mh mb v275.1, gA t (mb 0) 71 fn, gA t (mb 1) 71 r19.2.1, gA t (mb 3) 60 tx, gA t (mb 5) 24 r19.2.2.1, gA t (mb 6) 24 r19.2.2.2.1, gA t (mb 7) 24 r19.2.2.2.2]) [0, 1, 2, 4, 5, 6] hP hD hS hA rfl rfl rfl rfl) hS (fun hPc hDc => va_runV (As := [.int 3, .int 60]) (rest := [.long (31 * v275.2.2.2.2.2.1)]) ⟨hx, hb, hml, hown, hts⟩ (mtX3_good l D t mh mb v275.1 fn v275.2.1 v275.2.2.1 v275.2.2.2.1 v275.2.2.2.2.1 3 60 r19 h19 _) (cwV 2 hts (gBV kw575 kw576 kw577 kw5 kw578) rfl rfl rfl (by decide +kernel) ⟨Nat.le_of_ble_eq_true rfl, Nat.le_of_ble_eq_true rfl⟩) (sPc_V hPc hK hDc hE (va_recv hK hP (ci := 3) (q0 := 0) rfl rfl)) rfl rfl hl.1 rfl (lv_room (Nat.le_of_ble_eq_true rfl)) dX3_digest_311 ⟨Nat.zero_le _, Nat.zero_le _⟩) (fun H locs hP hD hS => ?_)
        refine lv_i2l (v := Int32.toInt64 r19.1) hx hb dX3_digest_314 rfl ?_
        refine lv_ladd hx hb dX3_digest_315 ?_
        refine lv_lstore_n (lv' := [(1, .long ((31 * v275.2.2.2.2.2.1) + (Int32.toInt64 r19.1))), (0, .ref mh), (3, .int v275.2.2.2.2.2.2)]) hx hb dX3_digest_316 rfl hl (by decide) rfl (fun ls hl => ?_)
        refine lv_ldc2 (v := 31) hx hb hown (htB _ kw638) dX3_digest_317 ?_
        refine lv_ldc2 (v := 31) hx hb hown (htB _ kw638) dX3_digest_320 ?_
        refine lv_lload_n hx hb dX3_digest_323 rfl (lv_at hl 0 rfl) ?_
        refine lv_lmul hx hb dX3_digest_324 ?_
        refine lv_aload_n hx hb dX3_digest_325 rfl (lv_at hl 1 rfl) ?_
        refine lv_iconst (v := 2) hx hb dX3_digest_326 (by decide) ?_
        obtain ⟨r20, h20, h⟩ := ob h
        refine call_d (v := r20.1) (wc := (gMo mh mb v275.1 ++ (gA t (mb 0) 71 fn ++ (gA t (mb 5) 24 r19.2.2.1 ++ (gA t (mb 6) 24 r19.2.2.2.1 ++ (gA t (mb 7) 24 r19.2.2.2.2)))))) (wc' := (gMo mh mb v275.1 ++ (gA t (mb 0) 71 fn ++ (gA t (mb 5) 24 r20.2.1 ++ (gA t (mb 6) 24 r20.2.2.1 ++ (gA t (mb 7) 24 r20.2.2.2)))))) (ws' := (gMo mh mb v275.1 ++ (gA t (mb 0) 71 fn ++ (gA t (mb 1) 71 r19.2.1 ++ (gA t (mb 3) 60 tx ++ (gA t (mb 5) 24 r20.2.1 ++ (gA t (mb 6) 24 r20.2.2.1 ++ (gA t (mb 7) 24 r20.2.2.2)))))))) (cutB (bs := [gMo mh mb v275.1, gA t (mb 0) 71 fn, gA t (mb 1) 71 r19.2.1, gA t (mb 3) 60 tx, gA t (mb 5) 24 r19.2.2.1, gA t (mb 6) 24 r19.2.2.2.1, gA t (mb 7) 24 r19.2.2.2.2]) (cs := [gMo mh mb v275.1, gA t (mb 0) 71 fn, gA t (mb 5) 24 r19.2.2.1, gA t (mb 6) 24 r19.2.2.2.1, gA t (mb 7) 24 r19.2.2.2.2]) (cs' := [gMo mh mb v275.1, gA t (mb 0) 71 fn, gA t (mb 5) 24 r20.2.1, gA t (mb 6) 24 r20.2.2.1, gA t (mb 7) 24 r20.2.2.2]) (bs' := [gMo mh mb v275.1, gA t (mb 0) 71 fn, gA t (mb 1) 71 r19.2.1, gA t (mb 3) 60 tx, gA t (mb 5) 24 r20.2.1, gA t (mb 6) 24 r20.2.2.1, gA t (mb 7) 24 r20.2.2.2]) [0, 1, 4, 5, 6] hP hD hS hA rfl rfl rfl rfl) hS (fun hPc hDc => va_runV (As := [.int 2]) (rest := [.long (31 * ((31 * v275.2.2.2.2.2.1) + (Int32.toInt64 r19.1))), .long 31]) ⟨hx, hb, hml, hown, hts⟩ (mtX3_share l D t mh mb v275.1 fn r19.2.2.1 r19.2.2.2.1 r19.2.2.2.2 2 r20 h20 _) (cwV 1 hts (gBV kw592 kw593 kw594 kw5 kw595) rfl rfl rfl (by decide +kernel) ⟨Nat.le_of_ble_eq_true rfl, Nat.le_of_ble_eq_true rfl⟩) (sPc_V hPc hK hDc hE (va_recv hK hP (ci := 3) (q0 := 0) rfl rfl)) rfl rfl hl.1 rfl (lv_room (Nat.le_of_ble_eq_true rfl)) dX3_digest_327 ⟨Nat.zero_le _, Nat.zero_le _⟩) (fun H locs hP hD hS => ?_)
        obtain ⟨r21, h21, h⟩ := ob h
        refine call_j (v := r21) (wc := ([] : va_W)) (wc' := ([] : va_W)) (ws' := (gMo mh mb v275.1 ++ (gA t (mb 0) 71 fn ++ (gA t (mb 1) 71 r19.2.1 ++ (gA t (mb 3) 60 tx ++ (gA t (mb 5) 24 r20.2.1 ++ (gA t (mb 6) 24 r20.2.2.1 ++ (gA t (mb 7) 24 r20.2.2.2)))))))) (cutB (bs := [gMo mh mb v275.1, gA t (mb 0) 71 fn, gA t (mb 1) 71 r19.2.1, gA t (mb 3) 60 tx, gA t (mb 5) 24 r20.2.1, gA t (mb 6) 24 r20.2.2.1, gA t (mb 7) 24 r20.2.2.2]) (cs := []) (cs' := []) (bs' := [gMo mh mb v275.1, gA t (mb 0) 71 fn, gA t (mb 1) 71 r19.2.1, gA t (mb 3) 60 tx, gA t (mb 5) 24 r20.2.1, gA t (mb 6) 24 r20.2.2.1, gA t (mb 7) 24 r20.2.2.2]) [] hP hD hS hA rfl rfl rfl rfl) hS (fun hPc hDc => va_runS (As := [.double r20.1]) (rest := [.long (31 * ((31 * v275.2.2.2.2.2.1) + (Int32.toInt64 r19.1))), .long 31]) ⟨hx, hb, hml, hown, hts⟩ (mtJxe99ae_doubleToLongBits_ccdee l D t r20.1 r21 h21 _) (va_cwS 1 hts (gBS kw640 kw641 kw642 kw643) rfl rfl rfl (by decide +kernel) ⟨Nat.le_of_ble_eq_true rfl, Nat.le_of_ble_eq_true rfl⟩) (sPc_S hPc hK hDc hE) rfl rfl hl.1 rfl (lv_room (Nat.le_of_ble_eq_true rfl)) dX3_digest_330 ⟨Nat.zero_le _, Nat.zero_le _⟩) (fun H locs hP hD hS => ?_)
        refine lv_ladd hx hb dX3_digest_333 ?_
        refine lv_lmul hx hb dX3_digest_334 ?_
        refine lv_aload_n hx hb dX3_digest_335 rfl (lv_at hl 1 rfl) ?_
        refine va_get (D := D) (ci := 3) (v := .int v275.1.2.1) (C := RX3) (T := TX3) (N := 14) hx hb htB inlX3 hown hK hP 0 rfl rfl 5 (by decide) (htB _ kw332) (fun _ h9 => h9) rfl dX3_digest_336 ?_
        refine lv_i2l (v := Int32.toInt64 v275.1.2.1) hx hb dX3_digest_339 rfl ?_
        refine lv_ladd hx hb dX3_digest_340 ?_
        refine lv_lstore_n (lv' := [(1, .long ((31 * ((31 * ((31 * v275.2.2.2.2.2.1) + (Int32.toInt64 r19.1))) + r21)) + (Int32.toInt64 v275.1.2.1))), (0, .ref mh), (3, .int v275.2.2.2.2.2.2)]) hx hb dX3_digest_341 rfl hl (by decide) rfl (fun ls hl => ?_)
        refine lv_iconst (v := 0) hx hb dX3_digest_342 (by decide) ?_
        refine lv_istore_n (lv' := [(3, .int 0), (1, .long ((31 * ((31 * ((31 * v275.2.2.2.2.2.1) + (Int32.toInt64 r19.1))) + r21)) + (Int32.toInt64 v275.1.2.1))), (0, .ref mh)]) hx hb dX3_digest_343 rfl hl (by decide) rfl (fun ls hl => ?_)
        exact J344 2000 (v275.1, r19.2.1, r20.2.1, r20.2.2.1, r20.2.2.2, (31 * ((31 * ((31 * v275.2.2.2.2.2.1) + (Int32.toInt64 r19.1))) + r21)) + (Int32.toInt64 v275.1.2.1), 0) h _ _ hP hD hS _ (lv_sub hl [2, 1, 0] rfl)
      · have h := it_n c18 h
        refine lv_ldc2 (v := 31) hx hb hown (htB _ kw638) dX3_digest_280 ?_
        refine lv_lload_n hx hb dX3_digest_283 rfl (lv_at hl 1 rfl) ?_
        refine lv_lmul hx hb dX3_digest_284 ?_
        refine lv_aload_n hx hb dX3_digest_285 rfl (lv_at hl 0 rfl) ?_
        refine lv_iconst (v := 0) hx hb dX3_digest_286 (by decide) ?_
        refine lv_bipush (v := 9) hx hb dX3_digest_287 (by decide) ?_
        refine lv_iload_n hx hb dX3_digest_289 rfl (lv_at hl 2 rfl) ?_
        obtain ⟨r22, h22, h⟩ := ob h
        refine call_i (v := r22.1) (wc := (gMo mh mb v275.1 ++ (gA t (mb 0) 71 fn ++ (gA t (mb 1) 71 v275.2.1 ++ (gA t (mb 5) 24 v275.2.2.1 ++ (gA t (mb 6) 24 v275.2.2.2.1 ++ (gA t (mb 7) 24 v275.2.2.2.2.1))))))) (wc' := (gMo mh mb v275.1 ++ (gA t (mb 0) 71 fn ++ (gA t (mb 1) 71 r22.2.1 ++ (gA t (mb 5) 24 r22.2.2.1 ++ (gA t (mb 6) 24 r22.2.2.2.1 ++ (gA t (mb 7) 24 r22.2.2.2.2))))))) (ws' := (gMo mh mb v275.1 ++ (gA t (mb 0) 71 fn ++ (gA t (mb 1) 71 r22.2.1 ++ (gA t (mb 3) 60 tx ++ (gA t (mb 5) 24 r22.2.2.1 ++ (gA t (mb 6) 24 r22.2.2.2.1 ++ (gA t (mb 7) 24 r22.2.2.2.2)))))))) (cutB (bs := [gMo mh mb v275.1, gA t (mb 0) 71 fn, gA t (mb 1) 71 v275.2.1, gA t (mb 3) 60 tx, gA t (mb 5) 24 v275.2.2.1, gA t (mb 6) 24 v275.2.2.2.1, gA t (mb 7) 24 v275.2.2.2.2.1]) (cs := [gMo mh mb v275.1, gA t (mb 0) 71 fn, gA t (mb 1) 71 v275.2.1, gA t (mb 5) 24 v275.2.2.1, gA t (mb 6) 24 v275.2.2.2.1, gA t (mb 7) 24 v275.2.2.2.2.1]) (cs' := [gMo mh mb v275.1, gA t (mb 0) 71 fn, gA t (mb 1) 71 r22.2.1, gA t (mb 5) 24 r22.2.2.1, gA t (mb 6) 24 r22.2.2.2.1, gA t (mb 7) 24 r22.2.2.2.2]) (bs' := [gMo mh mb v275.1, gA t (mb 0) 71 fn, gA t (mb 1) 71 r22.2.1, gA t (mb 3) 60 tx, gA t (mb 5) 24 r22.2.2.1, gA t (mb 6) 24 r22.2.2.2.1, gA t (mb 7) 24 r22.2.2.2.2]) [0, 1, 2, 4, 5, 6] hP hD hS hA rfl rfl rfl rfl) hS (fun hPc hDc => va_runV (As := [.int 0, .int 9, .int v275.2.2.2.2.2.2]) (rest := [.long (31 * v275.2.2.2.2.2.1)]) ⟨hx, hb, hml, hown, hts⟩ (mtX3_byShooting l D t mh mb v275.1 fn v275.2.1 v275.2.2.1 v275.2.2.2.1 v275.2.2.2.2.1 0 9 v275.2.2.2.2.2.2 r22 h22 _) (cwV 3 hts (gBV kw560 kw561 kw562 kw5 kw563) rfl rfl rfl (by decide +kernel) ⟨Nat.le_of_ble_eq_true rfl, Nat.le_of_ble_eq_true rfl⟩) (sPc_V hPc hK hDc hE (va_recv hK hP (ci := 3) (q0 := 0) rfl rfl)) rfl rfl hl.1 rfl (lv_room (Nat.le_of_ble_eq_true rfl)) dX3_digest_290 ⟨Nat.zero_le _, Nat.zero_le _⟩) (fun H locs hP hD hS => ?_)
        refine lv_i2l (v := Int32.toInt64 r22.1) hx hb dX3_digest_293 rfl ?_
        refine lv_ladd hx hb dX3_digest_294 ?_
        refine lv_lstore_n (lv' := [(1, .long ((31 * v275.2.2.2.2.2.1) + (Int32.toInt64 r22.1))), (0, .ref mh), (3, .int v275.2.2.2.2.2.2)]) hx hb dX3_digest_295 rfl hl (by decide) rfl (fun ls hl => ?_)
        refine lv_iinc (v := v275.2.2.2.2.2.2 + 1) (lv' := [(3, .int (v275.2.2.2.2.2.2 + 1)), (1, .long ((31 * v275.2.2.2.2.2.1) + (Int32.toInt64 r22.1))), (0, .ref mh)]) hx hb dX3_digest_296 hl (k := 2) rfl rfl (by decide) rfl (fun ls hl => ?_)
        refine lv_goto (tgt := 275) hx hb dX3_digest_299 (by decide) ?_
        exact ih275 (v275.1, r22.2.1, r22.2.2.1, r22.2.2.2.1, r22.2.2.2.2, (31 * v275.2.2.2.2.2.1) + (Int32.toInt64 r22.1), v275.2.2.2.2.2.2 + 1) h _ _ hP hD hS _ (lv_sub hl [2, 1, 0] rfl)
  have J180 : ∀ (fu180 : Nat) (v180 : MoT × (Nat → Int32) × (Nat → Int32) × (Nat → Int32) × (Nat → Int32) × Int64 × Int32), lp (fX3_digest_l180 fn tx) fu180 v180 = some out → ∀ (H : Heap) (locs : List Loc), va_P D vwCl (gMo mh mb v180.1 ++ (gA t (mb 0) 71 fn ++ (gA t (mb 1) 71 v180.2.1 ++ (gA t (mb 3) 60 tx ++ (gA t (mb 5) 24 v180.2.2.1 ++ (gA t (mb 6) 24 v180.2.2.2.1 ++ (gA t (mb 7) 24 v180.2.2.2.2.1))))))) H → va_D A (gMo mh mb v180.1 ++ (gA t (mb 0) 71 fn ++ (gA t (mb 1) 71 v180.2.1 ++ (gA t (mb 3) 60 tx ++ (gA t (mb 5) 24 v180.2.2.1 ++ (gA t (mb 6) 24 v180.2.2.2.1 ++ (gA t (mb 7) 24 v180.2.2.2.2.1))))))) → va_S A s.heap H locs → ∀ ls : Array Slot, lv_has ls 5 [(0, .ref mh), (1, .long v180.2.2.2.2.2.1), (3, .int v180.2.2.2.2.2.2)] → W p l e ({ frames := 6, cells := 0, slots := 0, locals := 139 }) s m args below meth c H locs 0 0 (MQ below (qJ D t (gMo mh mb out.2.1 ++ (gA t (mb 0) 71 fn ++ (gA t (mb 1) 71 out.2.2.1 ++ (gA t (mb 3) 60 tx ++ (gA t (mb 5) 24 out.2.2.2.1 ++ (gA t (mb 6) 24 out.2.2.2.2.1 ++ (gA t (mb 7) 24 out.2.2.2.2.2))))))) out.1 A) args s 0 0 A) (F0 m 180 ls []) := by
    intro fu180
    induction fu180 with
    | zero => intro v180 h; cases h
    | succ fu180 ih180 =>
      intro v180 h H locs hP hD hS ls hl
      have h : fX3_digest_l180 fn tx (lp (fX3_digest_l180 fn tx) fu180) v180 = some out := h
      unfold fX3_digest_l180 at h
      have J215 : ∀ v215 : MoT × (Nat → Int32) × (Nat → Int32) × (Nat → Int32) × (Nat → Int32) × Int32 × Int32 × Int32 × Int64, fX3_digest_j215 fn tx (lp (fX3_digest_l180 fn tx) fu180) v215 = some out → ∀ (H : Heap) (locs : List Loc), va_P D vwCl (gMo mh mb v215.1 ++ (gA t (mb 0) 71 fn ++ (gA t (mb 1) 71 v215.2.1 ++ (gA t (mb 3) 60 tx ++ (gA t (mb 5) 24 v215.2.2.1 ++ (gA t (mb 6) 24 v215.2.2.2.1 ++ (gA t (mb 7) 24 v215.2.2.2.2.1))))))) H → va_D A (gMo mh mb v215.1 ++ (gA t (mb 0) 71 fn ++ (gA t (mb 1) 71 v215.2.1 ++ (gA t (mb 3) 60 tx ++ (gA t (mb 5) 24 v215.2.2.1 ++ (gA t (mb 6) 24 v215.2.2.2.1 ++ (gA t (mb 7) 24 v215.2.2.2.2.1))))))) → va_S A s.heap H locs → ∀ ls : Array Slot, lv_has ls 5 [(0, .ref mh), (3, .int v215.2.2.2.2.2.1)] → W p l e ({ frames := 6, cells := 0, slots := 0, locals := 139 }) s m args below meth c H locs 0 0 (MQ below (qJ D t (gMo mh mb out.2.1 ++ (gA t (mb 0) 71 fn ++ (gA t (mb 1) 71 out.2.2.1 ++ (gA t (mb 3) 60 tx ++ (gA t (mb 5) 24 out.2.2.2.1 ++ (gA t (mb 6) 24 out.2.2.2.2.1 ++ (gA t (mb 7) 24 out.2.2.2.2.2))))))) out.1 A) args s 0 0 A) (F0 m 215 ls [.int v215.2.2.2.2.2.2.1, .int v215.2.2.2.2.2.2.2.1, .ref mh, .long v215.2.2.2.2.2.2.2.2]) := by
        intro v215 h H locs hP hD hS ls hl
        unfold fX3_digest_j215 at h
        refine lv_iload_n hx hb dX3_digest_215 rfl (lv_at hl 1 rfl) ?_
        refine lv_iconst (v := 4) hx hb dX3_digest_216 (by decide) ?_
        refine lv_irem hx hb dX3_digest_217 (by decide) ?_
        obtain ⟨r17, h17, h⟩ := ob h
        refine call_i (v := r17.1) (wc := (gMo mh mb v215.1 ++ (gA t (mb 0) 71 fn ++ (gA t (mb 5) 24 v215.2.2.1 ++ (gA t (mb 6) 24 v215.2.2.2.1 ++ (gA t (mb 7) 24 v215.2.2.2.2.1)))))) (wc' := (gMo mh mb v215.1 ++ (gA t (mb 0) 71 fn ++ (gA t (mb 5) 24 r17.2.1 ++ (gA t (mb 6) 24 r17.2.2.1 ++ (gA t (mb 7) 24 r17.2.2.2)))))) (ws' := (gMo mh mb v215.1 ++ (gA t (mb 0) 71 fn ++ (gA t (mb 1) 71 v215.2.1 ++ (gA t (mb 3) 60 tx ++ (gA t (mb 5) 24 r17.2.1 ++ (gA t (mb 6) 24 r17.2.2.1 ++ (gA t (mb 7) 24 r17.2.2.2)))))))) (cutB (bs := [gMo mh mb v215.1, gA t (mb 0) 71 fn, gA t (mb 1) 71 v215.2.1, gA t (mb 3) 60 tx, gA t (mb 5) 24 v215.2.2.1, gA t (mb 6) 24 v215.2.2.2.1, gA t (mb 7) 24 v215.2.2.2.2.1]) (cs := [gMo mh mb v215.1, gA t (mb 0) 71 fn, gA t (mb 5) 24 v215.2.2.1, gA t (mb 6) 24 v215.2.2.2.1, gA t (mb 7) 24 v215.2.2.2.2.1]) (cs' := [gMo mh mb v215.1, gA t (mb 0) 71 fn, gA t (mb 5) 24 r17.2.1, gA t (mb 6) 24 r17.2.2.1, gA t (mb 7) 24 r17.2.2.2]) (bs' := [gMo mh mb v215.1, gA t (mb 0) 71 fn, gA t (mb 1) 71 v215.2.1, gA t (mb 3) 60 tx, gA t (mb 5) 24 r17.2.1, gA t (mb 6) 24 r17.2.2.1, gA t (mb 7) 24 r17.2.2.2]) [0, 1, 4, 5, 6] hP hD hS hA rfl rfl rfl rfl) hS (fun hPc hDc => va_runV (As := [.int v215.2.2.2.2.2.2.2.1, .int v215.2.2.2.2.2.2.1, .int (v215.2.2.2.2.2.1 - v215.2.2.2.2.2.1 / 4 * 4)]) (rest := [.long v215.2.2.2.2.2.2.2.2]) ⟨hx, hb, hml, hown, hts⟩ (mtX3_ofColumn l D t mh mb v215.1 fn v215.2.2.1 v215.2.2.2.1 v215.2.2.2.2.1 v215.2.2.2.2.2.2.2.1 v215.2.2.2.2.2.2.1 (v215.2.2.2.2.2.1 - v215.2.2.2.2.2.1 / 4 * 4) r17 h17 _) (cwV 3 hts (gBV kw467 kw468 kw469 kw5 kw470) rfl rfl rfl (by decide +kernel) ⟨Nat.le_of_ble_eq_true rfl, Nat.le_of_ble_eq_true rfl⟩) (sPc_V hPc hK hDc hE (va_recv hK hP (ci := 3) (q0 := 0) rfl rfl)) rfl rfl hl.1 rfl (lv_room (Nat.le_of_ble_eq_true rfl)) dX3_digest_218 ⟨Nat.zero_le _, Nat.zero_le _⟩) (fun H locs hP hD hS => ?_)
        refine lv_i2l (v := Int32.toInt64 r17.1) hx hb dX3_digest_221 rfl ?_
        refine lv_ladd hx hb dX3_digest_222 ?_
        refine lv_lstore_n (lv' := [(1, .long (v215.2.2.2.2.2.2.2.2 + (Int32.toInt64 r17.1))), (0, .ref mh), (3, .int v215.2.2.2.2.2.1)]) hx hb dX3_digest_223 rfl hl (by decide) rfl (fun ls hl => ?_)
        refine lv_iinc (v := v215.2.2.2.2.2.1 + 1) (lv' := [(3, .int (v215.2.2.2.2.2.1 + 1)), (1, .long (v215.2.2.2.2.2.2.2.2 + (Int32.toInt64 r17.1))), (0, .ref mh)]) hx hb dX3_digest_224 hl (k := 2) rfl rfl (by decide) rfl (fun ls hl => ?_)
        refine lv_goto (tgt := 180) hx hb dX3_digest_227 (by decide) ?_
        exact ih180 (v215.1, v215.2.1, r17.2.1, r17.2.2.1, r17.2.2.2, v215.2.2.2.2.2.2.2.2 + (Int32.toInt64 r17.1), v215.2.2.2.2.2.1 + 1) h _ _ hP hD hS _ (lv_sub hl [2, 1, 0] rfl)
      refine lv_iload_n hx hb dX3_digest_180 rfl (lv_at hl 2 rfl) ?_
      refine lv_bipush (v := 12) hx hb dX3_digest_181 (by decide) ?_
      refine lv_icmp_ge (tgt := 230) hx hb dX3_digest_183 (by decide) (fun c12 => ?_) (fun c12 => ?_)
      · have h := it_p c12 h
        refine lv_ldc2 (v := 31) hx hb hown (htB _ kw638) dX3_digest_230 ?_
        refine lv_lload_n hx hb dX3_digest_233 rfl (lv_at hl 1 rfl) ?_
        refine lv_lmul hx hb dX3_digest_234 ?_
        refine lv_aload_n hx hb dX3_digest_235 rfl (lv_at hl 0 rfl) ?_
        refine lv_bipush (v := 9) hx hb dX3_digest_236 (by decide) ?_
        refine lv_bipush (v := (-50)) hx hb dX3_digest_238 (by decide) ?_
        refine lv_bipush (v := 50) hx hb dX3_digest_240 (by decide) ?_
        refine lv_iconst (v := 1) hx hb dX3_digest_242 (by decide) ?_
        refine lv_bipush (v := 10) hx hb dX3_digest_243 (by decide) ?_
        obtain ⟨r13, h13, h⟩ := ob h
        refine call_i (v := r13.1) (wc := (gMo mh mb v180.1 ++ (gA t (mb 0) 71 fn ++ (gA t (mb 1) 71 v180.2.1 ++ (gA t (mb 5) 24 v180.2.2.1 ++ (gA t (mb 6) 24 v180.2.2.2.1 ++ (gA t (mb 7) 24 v180.2.2.2.2.1))))))) (wc' := (gMo mh mb v180.1 ++ (gA t (mb 0) 71 fn ++ (gA t (mb 1) 71 r13.2.1 ++ (gA t (mb 5) 24 r13.2.2.1 ++ (gA t (mb 6) 24 r13.2.2.2.1 ++ (gA t (mb 7) 24 r13.2.2.2.2))))))) (ws' := (gMo mh mb v180.1 ++ (gA t (mb 0) 71 fn ++ (gA t (mb 1) 71 r13.2.1 ++ (gA t (mb 3) 60 tx ++ (gA t (mb 5) 24 r13.2.2.1 ++ (gA t (mb 6) 24 r13.2.2.2.1 ++ (gA t (mb 7) 24 r13.2.2.2.2)))))))) (cutB (bs := [gMo mh mb v180.1, gA t (mb 0) 71 fn, gA t (mb 1) 71 v180.2.1, gA t (mb 3) 60 tx, gA t (mb 5) 24 v180.2.2.1, gA t (mb 6) 24 v180.2.2.2.1, gA t (mb 7) 24 v180.2.2.2.2.1]) (cs := [gMo mh mb v180.1, gA t (mb 0) 71 fn, gA t (mb 1) 71 v180.2.1, gA t (mb 5) 24 v180.2.2.1, gA t (mb 6) 24 v180.2.2.2.1, gA t (mb 7) 24 v180.2.2.2.2.1]) (cs' := [gMo mh mb v180.1, gA t (mb 0) 71 fn, gA t (mb 1) 71 r13.2.1, gA t (mb 5) 24 r13.2.2.1, gA t (mb 6) 24 r13.2.2.2.1, gA t (mb 7) 24 r13.2.2.2.2]) (bs' := [gMo mh mb v180.1, gA t (mb 0) 71 fn, gA t (mb 1) 71 r13.2.1, gA t (mb 3) 60 tx, gA t (mb 5) 24 r13.2.2.1, gA t (mb 6) 24 r13.2.2.2.1, gA t (mb 7) 24 r13.2.2.2.2]) [0, 1, 2, 4, 5, 6] hP hD hS hA rfl rfl rfl rfl) hS (fun hPc hDc => va_runV (As := [.int 9, .int (-50), .int 50, .int 1, .int 10]) (rest := [.long (31 * v180.2.2.2.2.2.1)]) ⟨hx, hb, hml, hown, hts⟩ (mtX3_best l D t mh mb v180.1 fn v180.2.1 v180.2.2.1 v180.2.2.2.1 v180.2.2.2.2.1 9 (-50) 50 1 10 r13 h13 _) (cwV 5 hts (gBV kw534 kw535 kw536 kw5 kw537) rfl rfl rfl (by decide +kernel) ⟨Nat.le_of_ble_eq_true rfl, Nat.le_of_ble_eq_true rfl⟩) (sPc_V hPc hK hDc hE (va_recv hK hP (ci := 3) (q0 := 0) rfl rfl)) rfl rfl hl.1 rfl (lv_room (Nat.le_of_ble_eq_true rfl)) dX3_digest_245 ⟨Nat.zero_le _, Nat.zero_le _⟩) (fun H locs hP hD hS => ?_)
        refine lv_i2l (v := Int32.toInt64 r13.1) hx hb dX3_digest_248 rfl ?_
        refine lv_ladd hx hb dX3_digest_249 ?_
        refine lv_ldc2 (v := 100) hx hb hown (htB _ kw639) dX3_digest_250 ?_
        refine lv_ladd hx hb dX3_digest_253 ?_
        refine lv_lstore_n (lv' := [(1, .long (((31 * v180.2.2.2.2.2.1) + (Int32.toInt64 r13.1)) + 100)), (0, .ref mh), (3, .int v180.2.2.2.2.2.2)]) hx hb dX3_digest_254 rfl hl (by decide) rfl (fun ls hl => ?_)
        refine lv_ldc2 (v := 31) hx hb hown (htB _ kw638) dX3_digest_255 ?_
        refine lv_lload_n hx hb dX3_digest_258 rfl (lv_at hl 0 rfl) ?_
        refine lv_lmul hx hb dX3_digest_259 ?_
        refine lv_aload_n hx hb dX3_digest_260 rfl (lv_at hl 1 rfl) ?_
        refine lv_iconst (v := 5) hx hb dX3_digest_261 (by decide) ?_
        refine lv_iconst (v := 1) hx hb dX3_digest_262 (by decide) ?_
        refine lv_bipush (v := 99) hx hb dX3_digest_263 (by decide) ?_
        refine lv_iconst (v := 2) hx hb dX3_digest_265 (by decide) ?_
        refine lv_iconst (v := 4) hx hb dX3_digest_266 (by decide) ?_
        obtain ⟨r14, h14, h⟩ := ob h
        refine call_i (v := r14.1) (wc := (gMo mh mb v180.1 ++ (gA t (mb 0) 71 fn ++ (gA t (mb 1) 71 r13.2.1 ++ (gA t (mb 5) 24 r13.2.2.1 ++ (gA t (mb 6) 24 r13.2.2.2.1 ++ (gA t (mb 7) 24 r13.2.2.2.2))))))) (wc' := (gMo mh mb v180.1 ++ (gA t (mb 0) 71 fn ++ (gA t (mb 1) 71 r14.2.1 ++ (gA t (mb 5) 24 r14.2.2.1 ++ (gA t (mb 6) 24 r14.2.2.2.1 ++ (gA t (mb 7) 24 r14.2.2.2.2))))))) (ws' := (gMo mh mb v180.1 ++ (gA t (mb 0) 71 fn ++ (gA t (mb 1) 71 r14.2.1 ++ (gA t (mb 3) 60 tx ++ (gA t (mb 5) 24 r14.2.2.1 ++ (gA t (mb 6) 24 r14.2.2.2.1 ++ (gA t (mb 7) 24 r14.2.2.2.2)))))))) (cutB (bs := [gMo mh mb v180.1, gA t (mb 0) 71 fn, gA t (mb 1) 71 r13.2.1, gA t (mb 3) 60 tx, gA t (mb 5) 24 r13.2.2.1, gA t (mb 6) 24 r13.2.2.2.1, gA t (mb 7) 24 r13.2.2.2.2]) (cs := [gMo mh mb v180.1, gA t (mb 0) 71 fn, gA t (mb 1) 71 r13.2.1, gA t (mb 5) 24 r13.2.2.1, gA t (mb 6) 24 r13.2.2.2.1, gA t (mb 7) 24 r13.2.2.2.2]) (cs' := [gMo mh mb v180.1, gA t (mb 0) 71 fn, gA t (mb 1) 71 r14.2.1, gA t (mb 5) 24 r14.2.2.1, gA t (mb 6) 24 r14.2.2.2.1, gA t (mb 7) 24 r14.2.2.2.2]) (bs' := [gMo mh mb v180.1, gA t (mb 0) 71 fn, gA t (mb 1) 71 r14.2.1, gA t (mb 3) 60 tx, gA t (mb 5) 24 r14.2.2.1, gA t (mb 6) 24 r14.2.2.2.1, gA t (mb 7) 24 r14.2.2.2.2]) [0, 1, 2, 4, 5, 6] hP hD hS hA rfl rfl rfl rfl) hS (fun hPc hDc => va_runV (As := [.int 5, .int 1, .int 99, .int 2, .int 4]) (rest := [.long (31 * (((31 * v180.2.2.2.2.2.1) + (Int32.toInt64 r13.1)) + 100))]) ⟨hx, hb, hml, hown, hts⟩ (mtX3_best l D t mh mb v180.1 fn r13.2.1 r13.2.2.1 r13.2.2.2.1 r13.2.2.2.2 5 1 99 2 4 r14 h14 _) (cwV 5 hts (gBV kw534 kw535 kw536 kw5 kw537) rfl rfl rfl (by decide +kernel) ⟨Nat.le_of_ble_eq_true rfl, Nat.le_of_ble_eq_true rfl⟩) (sPc_V hPc hK hDc hE (va_recv hK hP (ci := 3) (q0 := 0) rfl rfl)) rfl rfl hl.1 rfl (lv_room (Nat.le_of_ble_eq_true rfl)) dX3_digest_267 ⟨Nat.zero_le _, Nat.zero_le _⟩) (fun H locs hP hD hS => ?_)
        refine lv_i2l (v := Int32.toInt64 r14.1) hx hb dX3_digest_270 rfl ?_
        refine lv_ladd hx hb dX3_digest_271 ?_
        refine lv_lstore_n (lv' := [(1, .long ((31 * (((31 * v180.2.2.2.2.2.1) + (Int32.toInt64 r13.1)) + 100)) + (Int32.toInt64 r14.1))), (0, .ref mh), (3, .int v180.2.2.2.2.2.2)]) hx hb dX3_digest_272 rfl hl (by decide) rfl (fun ls hl => ?_)
        refine lv_iconst (v := 0) hx hb dX3_digest_273 (by decide) ?_
        refine lv_istore_n (lv' := [(3, .int 0), (1, .long ((31 * (((31 * v180.2.2.2.2.2.1) + (Int32.toInt64 r13.1)) + 100)) + (Int32.toInt64 r14.1))), (0, .ref mh)]) hx hb dX3_digest_274 rfl hl (by decide) rfl (fun ls hl => ?_)
        exact J275 2000 (v180.1, r14.2.1, r14.2.2.1, r14.2.2.2.1, r14.2.2.2.2, (31 * (((31 * v180.2.2.2.2.2.1) + (Int32.toInt64 r13.1)) + 100)) + (Int32.toInt64 r14.1), 0) h _ _ hP hD hS _ (lv_sub hl [2, 1, 0] rfl)
      · have h := it_n c12 h
        refine lv_ldc2 (v := 31) hx hb hown (htB _ kw638) dX3_digest_186 ?_
        refine lv_lload_n hx hb dX3_digest_189 rfl (lv_at hl 1 rfl) ?_
        refine lv_lmul hx hb dX3_digest_190 ?_
        refine lv_aload_n hx hb dX3_digest_191 rfl (lv_at hl 0 rfl) ?_
        refine lv_iconst (v := 2) hx hb dX3_digest_192 (by decide) ?_
        refine lv_iload_n hx hb dX3_digest_193 rfl (lv_at hl 2 rfl) ?_
        refine lv_iconst (v := 4) hx hb dX3_digest_194 (by decide) ?_
        refine lv_icmp_ge (tgt := 202) hx hb dX3_digest_195 (by decide) (fun c15 => ?_) (fun c15 => ?_)
        · have h := it_p c15 h
          refine lv_iload_n hx hb dX3_digest_202 rfl (lv_at hl 2 rfl) ?_
          refine lv_bipush (v := 8) hx hb dX3_digest_203 (by decide) ?_
          refine lv_icmp_ge (tgt := 213) hx hb dX3_digest_205 (by decide) (fun c16 => ?_) (fun c16 => ?_)
          · have h := it_p c16 h
            refine lv_bipush (v := 23) hx hb dX3_digest_213 (by decide) ?_
            exact J215 (v180.1, v180.2.1, v180.2.2.1, v180.2.2.2.1, v180.2.2.2.2.1, v180.2.2.2.2.2.2, 23, 2, 31 * v180.2.2.2.2.2.1) h _ _ hP hD hS _ (lv_sub hl [0, 2] rfl)
          · have h := it_n c16 h
            refine lv_bipush (v := 11) hx hb dX3_digest_208 (by decide) ?_
            refine lv_goto (tgt := 215) hx hb dX3_digest_210 (by decide) ?_
            exact J215 (v180.1, v180.2.1, v180.2.2.1, v180.2.2.2.1, v180.2.2.2.2.1, v180.2.2.2.2.2.2, 11, 2, 31 * v180.2.2.2.2.2.1) h _ _ hP hD hS _ (lv_sub hl [0, 2] rfl)
        · have h := it_n c15 h
          refine lv_iconst (v := 0) hx hb dX3_digest_198 (by decide) ?_
          refine lv_goto (tgt := 215) hx hb dX3_digest_199 (by decide) ?_
          exact J215 (v180.1, v180.2.1, v180.2.2.1, v180.2.2.2.1, v180.2.2.2.2.1, v180.2.2.2.2.2.2, 0, 2, 31 * v180.2.2.2.2.2.1) h _ _ hP hD hS _ (lv_sub hl [0, 2] rfl)
  have J146 : ∀ (fu146 : Nat) (v146 : MoT × (Nat → Int32) × (Nat → Int32) × (Nat → Int32) × (Nat → Int32) × Int64 × Int32), lp (fX3_digest_l146 fn tx) fu146 v146 = some out → ∀ (H : Heap) (locs : List Loc), va_P D vwCl (gMo mh mb v146.1 ++ (gA t (mb 0) 71 fn ++ (gA t (mb 1) 71 v146.2.1 ++ (gA t (mb 3) 60 tx ++ (gA t (mb 5) 24 v146.2.2.1 ++ (gA t (mb 6) 24 v146.2.2.2.1 ++ (gA t (mb 7) 24 v146.2.2.2.2.1))))))) H → va_D A (gMo mh mb v146.1 ++ (gA t (mb 0) 71 fn ++ (gA t (mb 1) 71 v146.2.1 ++ (gA t (mb 3) 60 tx ++ (gA t (mb 5) 24 v146.2.2.1 ++ (gA t (mb 6) 24 v146.2.2.2.1 ++ (gA t (mb 7) 24 v146.2.2.2.2.1))))))) → va_S A s.heap H locs → ∀ ls : Array Slot, lv_has ls 5 [(0, .ref mh), (1, .long v146.2.2.2.2.2.1), (3, .int v146.2.2.2.2.2.2)] → W p l e ({ frames := 6, cells := 0, slots := 0, locals := 139 }) s m args below meth c H locs 0 0 (MQ below (qJ D t (gMo mh mb out.2.1 ++ (gA t (mb 0) 71 fn ++ (gA t (mb 1) 71 out.2.2.1 ++ (gA t (mb 3) 60 tx ++ (gA t (mb 5) 24 out.2.2.2.1 ++ (gA t (mb 6) 24 out.2.2.2.2.1 ++ (gA t (mb 7) 24 out.2.2.2.2.2))))))) out.1 A) args s 0 0 A) (F0 m 146 ls []) := by
    intro fu146
    induction fu146 with
    | zero => intro v146 h; cases h
    | succ fu146 ih146 =>
      intro v146 h H locs hP hD hS ls hl
      have h : fX3_digest_l146 fn tx (lp (fX3_digest_l146 fn tx) fu146) v146 = some out := h
      unfold fX3_digest_l146 at h
      refine lv_iload_n hx hb dX3_digest_146 rfl (lv_at hl 2 rfl) ?_
      refine lv_bipush (v := 54) hx hb dX3_digest_147 (by decide) ?_
      refine lv_icmp_ge (tgt := 178) hx hb dX3_digest_149 (by decide) (fun c10 => ?_) (fun c10 => ?_)
      · have h := it_p c10 h
        refine lv_iconst (v := 0) hx hb dX3_digest_178 (by decide) ?_
        refine lv_istore_n (lv' := [(3, .int 0), (0, .ref mh), (1, .long v146.2.2.2.2.2.1)]) hx hb dX3_digest_179 rfl hl (by decide) rfl (fun ls hl => ?_)
        exact J180 2000 (v146.1, v146.2.1, v146.2.2.1, v146.2.2.2.1, v146.2.2.2.2.1, v146.2.2.2.2.2.1, 0) h _ _ hP hD hS _ (lv_sub hl [1, 2, 0] rfl)
      · have h := it_n c10 h
        refine lv_ldc2 (v := 31) hx hb hown (htB _ kw638) dX3_digest_152 ?_
        refine lv_lload_n hx hb dX3_digest_155 rfl (lv_at hl 1 rfl) ?_
        refine lv_lmul hx hb dX3_digest_156 ?_
        refine lv_aload_n hx hb dX3_digest_157 rfl (lv_at hl 0 rfl) ?_
        refine lv_iload_n hx hb dX3_digest_158 rfl (lv_at hl 2 rfl) ?_
        refine lv_bipush (v := 9) hx hb dX3_digest_159 (by decide) ?_
        refine lv_idiv hx hb dX3_digest_161 (by decide) ?_
        refine lv_iload_n hx hb dX3_digest_162 rfl (lv_at hl 2 rfl) ?_
        refine lv_bipush (v := 9) hx hb dX3_digest_163 (by decide) ?_
        refine lv_irem hx hb dX3_digest_165 (by decide) ?_
        obtain ⟨r11, h11, h⟩ := ob h
        refine call_i (v := r11.1) (wc := (gMo mh mb v146.1 ++ (gA t (mb 0) 71 fn ++ (gA t (mb 5) 24 v146.2.2.1 ++ (gA t (mb 6) 24 v146.2.2.2.1 ++ (gA t (mb 7) 24 v146.2.2.2.2.1)))))) (wc' := (gMo mh mb v146.1 ++ (gA t (mb 0) 71 fn ++ (gA t (mb 5) 24 r11.2.1 ++ (gA t (mb 6) 24 r11.2.2.1 ++ (gA t (mb 7) 24 r11.2.2.2)))))) (ws' := (gMo mh mb v146.1 ++ (gA t (mb 0) 71 fn ++ (gA t (mb 1) 71 v146.2.1 ++ (gA t (mb 3) 60 tx ++ (gA t (mb 5) 24 r11.2.1 ++ (gA t (mb 6) 24 r11.2.2.1 ++ (gA t (mb 7) 24 r11.2.2.2)))))))) (cutB (bs := [gMo mh mb v146.1, gA t (mb 0) 71 fn, gA t (mb 1) 71 v146.2.1, gA t (mb 3) 60 tx, gA t (mb 5) 24 v146.2.2.1, gA t (mb 6) 24 v146.2.2.2.1, gA t (mb 7) 24 v146.2.2.2.2.1]) (cs := [gMo mh mb v146.1, gA t (mb 0) 71 fn, gA t (mb 5) 24 v146.2.2.1, gA t (mb 6) 24 v146.2.2.2.1, gA t (mb 7) 24 v146.2.2.2.2.1]) (cs' := [gMo mh mb v146.1, gA t (mb 0) 71 fn, gA t (mb 5) 24 r11.2.1, gA t (mb 6) 24 r11.2.2.1, gA t (mb 7) 24 r11.2.2.2]) (bs' := [gMo mh mb v146.1, gA t (mb 0) 71 fn, gA t (mb 1) 71 v146.2.1, gA t (mb 3) 60 tx, gA t (mb 5) 24 r11.2.1, gA t (mb 6) 24 r11.2.2.1, gA t (mb 7) 24 r11.2.2.2]) [0, 1, 4, 5, 6] hP hD hS hA rfl rfl rfl rfl) hS (fun hPc hDc => va_runV (As := [.int (v146.2.2.2.2.2.2 / 9), .int (v146.2.2.2.2.2.2 - v146.2.2.2.2.2.2 / 9 * 9)]) (rest := [.long (31 * v146.2.2.2.2.2.1)]) ⟨hx, hb, hml, hown, hts⟩ (mtX3_ofSpeed l D t mh mb v146.1 fn v146.2.2.1 v146.2.2.2.1 v146.2.2.2.2.1 (v146.2.2.2.2.2.2 / 9) (v146.2.2.2.2.2.2 - v146.2.2.2.2.2.2 / 9 * 9) r11 h11 _) (cwV 2 hts (gBV kw488 kw489 kw490 kw5 kw491) rfl rfl rfl (by decide +kernel) ⟨Nat.le_of_ble_eq_true rfl, Nat.le_of_ble_eq_true rfl⟩) (sPc_V hPc hK hDc hE (va_recv hK hP (ci := 3) (q0 := 0) rfl rfl)) rfl rfl hl.1 rfl (lv_room (Nat.le_of_ble_eq_true rfl)) dX3_digest_166 ⟨Nat.zero_le _, Nat.zero_le _⟩) (fun H locs hP hD hS => ?_)
        refine lv_i2l (v := Int32.toInt64 r11.1) hx hb dX3_digest_169 rfl ?_
        refine lv_ladd hx hb dX3_digest_170 ?_
        refine lv_lstore_n (lv' := [(1, .long ((31 * v146.2.2.2.2.2.1) + (Int32.toInt64 r11.1))), (0, .ref mh), (3, .int v146.2.2.2.2.2.2)]) hx hb dX3_digest_171 rfl hl (by decide) rfl (fun ls hl => ?_)
        refine lv_iinc (v := v146.2.2.2.2.2.2 + 1) (lv' := [(3, .int (v146.2.2.2.2.2.2 + 1)), (1, .long ((31 * v146.2.2.2.2.2.1) + (Int32.toInt64 r11.1))), (0, .ref mh)]) hx hb dX3_digest_172 hl (k := 2) rfl rfl (by decide) rfl (fun ls hl => ?_)
        refine lv_goto (tgt := 146) hx hb dX3_digest_175 (by decide) ?_
        exact ih146 (v146.1, v146.2.1, r11.2.1, r11.2.2.1, r11.2.2.2, (31 * v146.2.2.2.2.2.1) + (Int32.toInt64 r11.1), v146.2.2.2.2.2.2 + 1) h _ _ hP hD hS _ (lv_sub hl [2, 1, 0] rfl)
  have J64 : ∀ (fu64 : Nat) (v64 : MoT × (Nat → Int32) × (Nat → Int32) × (Nat → Int32) × (Nat → Int32) × Int64 × Int32), lp (fX3_digest_l64 fn tx) fu64 v64 = some out → ∀ (H : Heap) (locs : List Loc), va_P D vwCl (gMo mh mb v64.1 ++ (gA t (mb 0) 71 fn ++ (gA t (mb 1) 71 v64.2.1 ++ (gA t (mb 3) 60 tx ++ (gA t (mb 5) 24 v64.2.2.1 ++ (gA t (mb 6) 24 v64.2.2.2.1 ++ (gA t (mb 7) 24 v64.2.2.2.2.1))))))) H → va_D A (gMo mh mb v64.1 ++ (gA t (mb 0) 71 fn ++ (gA t (mb 1) 71 v64.2.1 ++ (gA t (mb 3) 60 tx ++ (gA t (mb 5) 24 v64.2.2.1 ++ (gA t (mb 6) 24 v64.2.2.2.1 ++ (gA t (mb 7) 24 v64.2.2.2.2.1))))))) → va_S A s.heap H locs → ∀ ls : Array Slot, lv_has ls 5 [(0, .ref mh), (1, .long v64.2.2.2.2.2.1), (3, .int v64.2.2.2.2.2.2)] → W p l e ({ frames := 6, cells := 0, slots := 0, locals := 139 }) s m args below meth c H locs 0 0 (MQ below (qJ D t (gMo mh mb out.2.1 ++ (gA t (mb 0) 71 fn ++ (gA t (mb 1) 71 out.2.2.1 ++ (gA t (mb 3) 60 tx ++ (gA t (mb 5) 24 out.2.2.2.1 ++ (gA t (mb 6) 24 out.2.2.2.2.1 ++ (gA t (mb 7) 24 out.2.2.2.2.2))))))) out.1 A) args s 0 0 A) (F0 m 64 ls []) := by
    intro fu64
    induction fu64 with
    | zero => intro v64 h; cases h
    | succ fu64 ih64 =>
      intro v64 h H locs hP hD hS ls hl
      have h : fX3_digest_l64 fn tx (lp (fX3_digest_l64 fn tx) fu64) v64 = some out := h
      unfold fX3_digest_l64 at h
      have J102 : ∀ (fu102 : Nat) (v102 : MoT × (Nat → Int32) × (Nat → Int32) × (Nat → Int32) × (Nat → Int32) × Int64 × Int32 × Int32), lp (fX3_digest_l102 fn tx (lp (fX3_digest_l64 fn tx) fu64)) fu102 v102 = some out → ∀ (H : Heap) (locs : List Loc), va_P D vwCl (gMo mh mb v102.1 ++ (gA t (mb 0) 71 fn ++ (gA t (mb 1) 71 v102.2.1 ++ (gA t (mb 3) 60 tx ++ (gA t (mb 5) 24 v102.2.2.1 ++ (gA t (mb 6) 24 v102.2.2.2.1 ++ (gA t (mb 7) 24 v102.2.2.2.2.1))))))) H → va_D A (gMo mh mb v102.1 ++ (gA t (mb 0) 71 fn ++ (gA t (mb 1) 71 v102.2.1 ++ (gA t (mb 3) 60 tx ++ (gA t (mb 5) 24 v102.2.2.1 ++ (gA t (mb 6) 24 v102.2.2.2.1 ++ (gA t (mb 7) 24 v102.2.2.2.2.1))))))) → va_S A s.heap H locs → ∀ ls : Array Slot, lv_has ls 5 [(0, .ref mh), (1, .long v102.2.2.2.2.2.1), (3, .int v102.2.2.2.2.2.2.1), (4, .int v102.2.2.2.2.2.2.2)] → W p l e ({ frames := 6, cells := 0, slots := 0, locals := 139 }) s m args below meth c H locs 0 0 (MQ below (qJ D t (gMo mh mb out.2.1 ++ (gA t (mb 0) 71 fn ++ (gA t (mb 1) 71 out.2.2.1 ++ (gA t (mb 3) 60 tx ++ (gA t (mb 5) 24 out.2.2.2.1 ++ (gA t (mb 6) 24 out.2.2.2.2.1 ++ (gA t (mb 7) 24 out.2.2.2.2.2))))))) out.1 A) args s 0 0 A) (F0 m 102 ls []) := by
        intro fu102
        induction fu102 with
        | zero => intro v102 h; cases h
        | succ fu102 ih102 =>
          intro v102 h H locs hP hD hS ls hl
          have h : fX3_digest_l102 fn tx (lp (fX3_digest_l64 fn tx) fu64) (lp (fX3_digest_l102 fn tx (lp (fX3_digest_l64 fn tx) fu64)) fu102) v102 = some out := h
          unfold fX3_digest_l102 at h
          refine lv_iload hx hb dX3_digest_102 (lv_at hl 3 rfl) ?_
          refine lv_bipush (v := 24) hx hb dX3_digest_104 (by decide) ?_
          refine lv_icmp_ge (tgt := 138) hx hb dX3_digest_106 (by decide) (fun c8 => ?_) (fun c8 => ?_)
          · have h := it_p c8 h
            refine lv_iinc (v := v102.2.2.2.2.2.2.1 + 1) (lv' := [(3, .int (v102.2.2.2.2.2.2.1 + 1)), (0, .ref mh), (1, .long v102.2.2.2.2.2.1), (4, .int v102.2.2.2.2.2.2.2)]) hx hb dX3_digest_138 hl (k := 2) rfl rfl (by decide) rfl (fun ls hl => ?_)
            refine lv_goto (tgt := 64) hx hb dX3_digest_141 (by decide) ?_
            exact ih64 (v102.1, v102.2.1, v102.2.2.1, v102.2.2.2.1, v102.2.2.2.2.1, v102.2.2.2.2.2.1, v102.2.2.2.2.2.2.1 + 1) h _ _ hP hD hS _ (lv_sub hl [1, 2, 0] rfl)
          · have h := it_n c8 h
            refine lv_ldc2 (v := 31) hx hb hown (htB _ kw638) dX3_digest_109 ?_
            refine lv_lload_n hx hb dX3_digest_112 rfl (lv_at hl 1 rfl) ?_
            refine lv_lmul hx hb dX3_digest_113 ?_
            refine lv_aload_n hx hb dX3_digest_114 rfl (lv_at hl 0 rfl) ?_
            refine va_get (D := D) (ci := 3) (v := .ref (mb 0)) (C := RX3) (T := TX3) (N := 14) hx hb htB inlX3 hown hK hP 0 rfl rfl 0 (by decide) (htB _ kw54) (fun _ h9 => h9) rfl dX3_digest_115 ?_
            refine lv_bipush (v := 23) hx hb dX3_digest_118 (by decide) ?_
            refine lv_bipush (v := 24) hx hb dX3_digest_120 (by decide) ?_
            refine lv_iload_n hx hb dX3_digest_122 rfl (lv_at hl 2 rfl) ?_
            refine lv_imul hx hb dX3_digest_123 ?_
            refine lv_iadd hx hb dX3_digest_124 ?_
            refine lv_iload hx hb dX3_digest_125 (lv_at hl 3 rfl) ?_
            refine lv_iadd hx hb dX3_digest_127 ?_
            obtain ⟨g9, h⟩ := og h
            refine va_iald hx hb hK hP 1 0 rfl rfl (pin_in g9) dX3_digest_128 ?_
            refine lv_i2l (v := Int32.toInt64 (fn (Int32.toNatClampNeg ((23 + (24 * v102.2.2.2.2.2.2.1)) + v102.2.2.2.2.2.2.2)))) hx hb dX3_digest_129 rfl ?_
            refine lv_ladd hx hb dX3_digest_130 ?_
            refine lv_lstore_n (lv' := [(1, .long ((31 * v102.2.2.2.2.2.1) + (Int32.toInt64 (fn (Int32.toNatClampNeg ((23 + (24 * v102.2.2.2.2.2.2.1)) + v102.2.2.2.2.2.2.2)))))), (0, .ref mh), (3, .int v102.2.2.2.2.2.2.1), (4, .int v102.2.2.2.2.2.2.2)]) hx hb dX3_digest_131 rfl hl (by decide) rfl (fun ls hl => ?_)
            refine lv_iinc (v := v102.2.2.2.2.2.2.2 + 1) (lv' := [(4, .int (v102.2.2.2.2.2.2.2 + 1)), (1, .long ((31 * v102.2.2.2.2.2.1) + (Int32.toInt64 (fn (Int32.toNatClampNeg ((23 + (24 * v102.2.2.2.2.2.2.1)) + v102.2.2.2.2.2.2.2)))))), (0, .ref mh), (3, .int v102.2.2.2.2.2.2.1)]) hx hb dX3_digest_132 hl (k := 3) rfl rfl (by decide) rfl (fun ls hl => ?_)
            refine lv_goto (tgt := 102) hx hb dX3_digest_135 (by decide) ?_
            exact ih102 (v102.1, v102.2.1, v102.2.2.1, v102.2.2.2.1, v102.2.2.2.2.1, (31 * v102.2.2.2.2.2.1) + (Int32.toInt64 (fn (Int32.toNatClampNeg ((23 + (24 * v102.2.2.2.2.2.2.1)) + v102.2.2.2.2.2.2.2)))), v102.2.2.2.2.2.2.1, v102.2.2.2.2.2.2.2 + 1) h _ _ hP hD hS _ (lv_sub hl [2, 1, 3, 0] rfl)
      have J72 : ∀ (fu72 : Nat) (v72 : MoT × (Nat → Int32) × (Nat → Int32) × (Nat → Int32) × (Nat → Int32) × Int64 × Int32 × Int32), lp (fX3_digest_l72 fn tx (lp (fX3_digest_l64 fn tx) fu64)) fu72 v72 = some out → ∀ (H : Heap) (locs : List Loc), va_P D vwCl (gMo mh mb v72.1 ++ (gA t (mb 0) 71 fn ++ (gA t (mb 1) 71 v72.2.1 ++ (gA t (mb 3) 60 tx ++ (gA t (mb 5) 24 v72.2.2.1 ++ (gA t (mb 6) 24 v72.2.2.2.1 ++ (gA t (mb 7) 24 v72.2.2.2.2.1))))))) H → va_D A (gMo mh mb v72.1 ++ (gA t (mb 0) 71 fn ++ (gA t (mb 1) 71 v72.2.1 ++ (gA t (mb 3) 60 tx ++ (gA t (mb 5) 24 v72.2.2.1 ++ (gA t (mb 6) 24 v72.2.2.2.1 ++ (gA t (mb 7) 24 v72.2.2.2.2.1))))))) → va_S A s.heap H locs → ∀ ls : Array Slot, lv_has ls 5 [(0, .ref mh), (1, .long v72.2.2.2.2.2.1), (3, .int v72.2.2.2.2.2.2.1), (4, .int v72.2.2.2.2.2.2.2)] → W p l e ({ frames := 6, cells := 0, slots := 0, locals := 139 }) s m args below meth c H locs 0 0 (MQ below (qJ D t (gMo mh mb out.2.1 ++ (gA t (mb 0) 71 fn ++ (gA t (mb 1) 71 out.2.2.1 ++ (gA t (mb 3) 60 tx ++ (gA t (mb 5) 24 out.2.2.2.1 ++ (gA t (mb 6) 24 out.2.2.2.2.1 ++ (gA t (mb 7) 24 out.2.2.2.2.2))))))) out.1 A) args s 0 0 A) (F0 m 72 ls []) := by
        intro fu72
        induction fu72 with
        | zero => intro v72 h; cases h
        | succ fu72 ih72 =>
          intro v72 h H locs hP hD hS ls hl
          have h : fX3_digest_l72 fn tx (lp (fX3_digest_l64 fn tx) fu64) (lp (fX3_digest_l72 fn tx (lp (fX3_digest_l64 fn tx) fu64)) fu72) v72 = some out := h
          unfold fX3_digest_l72 at h
          refine lv_iload hx hb dX3_digest_72 (lv_at hl 3 rfl) ?_
          refine lv_iconst (v := 4) hx hb dX3_digest_74 (by decide) ?_
          refine lv_icmp_ge (tgt := 99) hx hb dX3_digest_75 (by decide) (fun c6 => ?_) (fun c6 => ?_)
          · have h := it_p c6 h
            refine lv_iconst (v := 0) hx hb dX3_digest_99 (by decide) ?_
            refine lv_istore (lv' := [(4, .int 0), (0, .ref mh), (1, .long v72.2.2.2.2.2.1), (3, .int v72.2.2.2.2.2.2.1)]) hx hb dX3_digest_100 hl (by decide) rfl (fun ls hl => ?_)
            exact J102 2000 (v72.1, v72.2.1, v72.2.2.1, v72.2.2.2.1, v72.2.2.2.2.1, v72.2.2.2.2.2.1, v72.2.2.2.2.2.2.1, 0) h _ _ hP hD hS _ (lv_sub hl [1, 2, 3, 0] rfl)
          · have h := it_n c6 h
            refine lv_ldc2 (v := 31) hx hb hown (htB _ kw638) dX3_digest_78 ?_
            refine lv_lload_n hx hb dX3_digest_81 rfl (lv_at hl 1 rfl) ?_
            refine lv_lmul hx hb dX3_digest_82 ?_
            refine lv_aload_n hx hb dX3_digest_83 rfl (lv_at hl 0 rfl) ?_
            refine lv_iload_n hx hb dX3_digest_84 rfl (lv_at hl 2 rfl) ?_
            refine lv_iload hx hb dX3_digest_85 (lv_at hl 3 rfl) ?_
            obtain ⟨r7, h7, h⟩ := ob h
            refine call_i (v := r7) (wc := (gMo mh mb v72.1 ++ (gA t (mb 0) 71 fn))) (wc' := (gMo mh mb v72.1 ++ (gA t (mb 0) 71 fn))) (ws' := (gMo mh mb v72.1 ++ (gA t (mb 0) 71 fn ++ (gA t (mb 1) 71 v72.2.1 ++ (gA t (mb 3) 60 tx ++ (gA t (mb 5) 24 v72.2.2.1 ++ (gA t (mb 6) 24 v72.2.2.2.1 ++ (gA t (mb 7) 24 v72.2.2.2.2.1)))))))) (cutB (bs := [gMo mh mb v72.1, gA t (mb 0) 71 fn, gA t (mb 1) 71 v72.2.1, gA t (mb 3) 60 tx, gA t (mb 5) 24 v72.2.2.1, gA t (mb 6) 24 v72.2.2.2.1, gA t (mb 7) 24 v72.2.2.2.2.1]) (cs := [gMo mh mb v72.1, gA t (mb 0) 71 fn]) (cs' := [gMo mh mb v72.1, gA t (mb 0) 71 fn]) (bs' := [gMo mh mb v72.1, gA t (mb 0) 71 fn, gA t (mb 1) 71 v72.2.1, gA t (mb 3) 60 tx, gA t (mb 5) 24 v72.2.2.1, gA t (mb 6) 24 v72.2.2.2.1, gA t (mb 7) 24 v72.2.2.2.2.1]) [0, 1] hP hD hS hA rfl rfl rfl rfl) hS (fun hPc hDc => va_runV (As := [.int v72.2.2.2.2.2.2.1, .int v72.2.2.2.2.2.2.2]) (rest := [.long (31 * v72.2.2.2.2.2.1)]) ⟨hx, hb, hml, hown, hts⟩ (mtX3_ofCurtain l D t mh mb v72.1 fn v72.2.2.2.2.2.2.1 v72.2.2.2.2.2.2.2 r7 h7 _) (cwV 2 hts (gBV kw447 kw448 kw449 kw5 kw450) rfl rfl rfl (by decide +kernel) ⟨Nat.le_of_ble_eq_true rfl, Nat.le_of_ble_eq_true rfl⟩) (sPc_V hPc hK hDc hE (va_recv hK hP (ci := 3) (q0 := 0) rfl rfl)) rfl rfl hl.1 rfl (lv_room (Nat.le_of_ble_eq_true rfl)) dX3_digest_87 ⟨Nat.zero_le _, Nat.zero_le _⟩) (fun H locs hP hD hS => ?_)
            refine lv_i2l (v := Int32.toInt64 r7) hx hb dX3_digest_90 rfl ?_
            refine lv_ladd hx hb dX3_digest_91 ?_
            refine lv_lstore_n (lv' := [(1, .long ((31 * v72.2.2.2.2.2.1) + (Int32.toInt64 r7))), (0, .ref mh), (3, .int v72.2.2.2.2.2.2.1), (4, .int v72.2.2.2.2.2.2.2)]) hx hb dX3_digest_92 rfl hl (by decide) rfl (fun ls hl => ?_)
            refine lv_iinc (v := v72.2.2.2.2.2.2.2 + 1) (lv' := [(4, .int (v72.2.2.2.2.2.2.2 + 1)), (1, .long ((31 * v72.2.2.2.2.2.1) + (Int32.toInt64 r7))), (0, .ref mh), (3, .int v72.2.2.2.2.2.2.1)]) hx hb dX3_digest_93 hl (k := 3) rfl rfl (by decide) rfl (fun ls hl => ?_)
            refine lv_goto (tgt := 72) hx hb dX3_digest_96 (by decide) ?_
            exact ih72 (v72.1, v72.2.1, v72.2.2.1, v72.2.2.2.1, v72.2.2.2.2.1, (31 * v72.2.2.2.2.2.1) + (Int32.toInt64 r7), v72.2.2.2.2.2.2.1, v72.2.2.2.2.2.2.2 + 1) h _ _ hP hD hS _ (lv_sub hl [2, 1, 3, 0] rfl)
      refine lv_iload_n hx hb dX3_digest_64 rfl (lv_at hl 2 rfl) ?_
      refine lv_iconst (v := 2) hx hb dX3_digest_65 (by decide) ?_
      refine lv_icmp_ge (tgt := 144) hx hb dX3_digest_66 (by decide) (fun c5 => ?_) (fun c5 => ?_)
      · have h := it_p c5 h
        refine lv_iconst (v := 0) hx hb dX3_digest_144 (by decide) ?_
        refine lv_istore_n (lv' := [(3, .int 0), (0, .ref mh), (1, .long v64.2.2.2.2.2.1)]) hx hb dX3_digest_145 rfl hl (by decide) rfl (fun ls hl => ?_)
        exact J146 2000 (v64.1, v64.2.1, v64.2.2.1, v64.2.2.2.1, v64.2.2.2.2.1, v64.2.2.2.2.2.1, 0) h _ _ hP hD hS _ (lv_sub hl [1, 2, 0] rfl)
      · have h := it_n c5 h
        refine lv_iconst (v := 0) hx hb dX3_digest_69 (by decide) ?_
        refine lv_istore (lv' := [(4, .int 0), (0, .ref mh), (1, .long v64.2.2.2.2.2.1), (3, .int v64.2.2.2.2.2.2)]) hx hb dX3_digest_70 hl (by decide) rfl (fun ls hl => ?_)
        exact J72 2000 (v64.1, v64.2.1, v64.2.2.1, v64.2.2.2.1, v64.2.2.2.2.1, v64.2.2.2.2.2.1, v64.2.2.2.2.2.2, 0) h _ _ hP hD hS _ (lv_sub hl [1, 2, 3, 0] rfl)
  have J37 : ∀ (fu37 : Nat) (v37 : MoT × (Nat → Int32) × (Nat → Int32) × (Nat → Int32) × (Nat → Int32) × Int64 × Int32), lp (fX3_digest_l37 fn tx) fu37 v37 = some out → ∀ (H : Heap) (locs : List Loc), va_P D vwCl (gMo mh mb v37.1 ++ (gA t (mb 0) 71 fn ++ (gA t (mb 1) 71 v37.2.1 ++ (gA t (mb 3) 60 tx ++ (gA t (mb 5) 24 v37.2.2.1 ++ (gA t (mb 6) 24 v37.2.2.2.1 ++ (gA t (mb 7) 24 v37.2.2.2.2.1))))))) H → va_D A (gMo mh mb v37.1 ++ (gA t (mb 0) 71 fn ++ (gA t (mb 1) 71 v37.2.1 ++ (gA t (mb 3) 60 tx ++ (gA t (mb 5) 24 v37.2.2.1 ++ (gA t (mb 6) 24 v37.2.2.2.1 ++ (gA t (mb 7) 24 v37.2.2.2.2.1))))))) → va_S A s.heap H locs → ∀ ls : Array Slot, lv_has ls 5 [(0, .ref mh), (1, .long v37.2.2.2.2.2.1), (3, .int v37.2.2.2.2.2.2)] → W p l e ({ frames := 6, cells := 0, slots := 0, locals := 139 }) s m args below meth c H locs 0 0 (MQ below (qJ D t (gMo mh mb out.2.1 ++ (gA t (mb 0) 71 fn ++ (gA t (mb 1) 71 out.2.2.1 ++ (gA t (mb 3) 60 tx ++ (gA t (mb 5) 24 out.2.2.2.1 ++ (gA t (mb 6) 24 out.2.2.2.2.1 ++ (gA t (mb 7) 24 out.2.2.2.2.2))))))) out.1 A) args s 0 0 A) (F0 m 37 ls []) := by
    intro fu37
    induction fu37 with
    | zero => intro v37 h; cases h
    | succ fu37 ih37 =>
      intro v37 h H locs hP hD hS ls hl
      have h : fX3_digest_l37 fn tx (lp (fX3_digest_l37 fn tx) fu37) v37 = some out := h
      unfold fX3_digest_l37 at h
      refine lv_iload_n hx hb dX3_digest_37 rfl (lv_at hl 2 rfl) ?_
      refine lv_iconst (v := 4) hx hb dX3_digest_38 (by decide) ?_
      refine lv_icmp_ge (tgt := 62) hx hb dX3_digest_39 (by decide) (fun c3 => ?_) (fun c3 => ?_)
      · have h := it_p c3 h
        refine lv_iconst (v := 0) hx hb dX3_digest_62 (by decide) ?_
        refine lv_istore_n (lv' := [(3, .int 0), (0, .ref mh), (1, .long v37.2.2.2.2.2.1)]) hx hb dX3_digest_63 rfl hl (by decide) rfl (fun ls hl => ?_)
        exact J64 2000 (v37.1, v37.2.1, v37.2.2.1, v37.2.2.2.1, v37.2.2.2.2.1, v37.2.2.2.2.2.1, 0) h _ _ hP hD hS _ (lv_sub hl [1, 2, 0] rfl)
      · have h := it_n c3 h
        refine lv_ldc2 (v := 31) hx hb hown (htB _ kw638) dX3_digest_42 ?_
        refine lv_lload_n hx hb dX3_digest_45 rfl (lv_at hl 1 rfl) ?_
        refine lv_lmul hx hb dX3_digest_46 ?_
        refine lv_aload_n hx hb dX3_digest_47 rfl (lv_at hl 0 rfl) ?_
        refine va_get (D := D) (ci := 3) (v := .ref (mb 0)) (C := RX3) (T := TX3) (N := 14) hx hb htB inlX3 hown hK hP 0 rfl rfl 0 (by decide) (htB _ kw54) (fun _ h9 => h9) rfl dX3_digest_48 ?_
        refine lv_iload_n hx hb dX3_digest_51 rfl (lv_at hl 2 rfl) ?_
        obtain ⟨g4, h⟩ := og h
        refine va_iald hx hb hK hP 1 0 rfl rfl (pin_in g4) dX3_digest_52 ?_
        refine lv_i2l (v := Int32.toInt64 (fn (Int32.toNatClampNeg v37.2.2.2.2.2.2))) hx hb dX3_digest_53 rfl ?_
        refine lv_ladd hx hb dX3_digest_54 ?_
        refine lv_lstore_n (lv' := [(1, .long ((31 * v37.2.2.2.2.2.1) + (Int32.toInt64 (fn (Int32.toNatClampNeg v37.2.2.2.2.2.2))))), (0, .ref mh), (3, .int v37.2.2.2.2.2.2)]) hx hb dX3_digest_55 rfl hl (by decide) rfl (fun ls hl => ?_)
        refine lv_iinc (v := v37.2.2.2.2.2.2 + 1) (lv' := [(3, .int (v37.2.2.2.2.2.2 + 1)), (1, .long ((31 * v37.2.2.2.2.2.1) + (Int32.toInt64 (fn (Int32.toNatClampNeg v37.2.2.2.2.2.2))))), (0, .ref mh)]) hx hb dX3_digest_56 hl (k := 2) rfl rfl (by decide) rfl (fun ls hl => ?_)
        refine lv_goto (tgt := 37) hx hb dX3_digest_59 (by decide) ?_
        exact ih37 (v37.1, v37.2.1, v37.2.2.1, v37.2.2.2.1, v37.2.2.2.2.1, (31 * v37.2.2.2.2.2.1) + (Int32.toInt64 (fn (Int32.toNatClampNeg v37.2.2.2.2.2.2))), v37.2.2.2.2.2.2 + 1) h _ _ hP hD hS _ (lv_sub hl [2, 1, 0] rfl)
  have J11 : ∀ (fu11 : Nat) (v11 : MoT × (Nat → Int32) × (Nat → Int32) × (Nat → Int32) × (Nat → Int32) × Int64 × Int32), lp (fX3_digest_l11 fn tx) fu11 v11 = some out → ∀ (H : Heap) (locs : List Loc), va_P D vwCl (gMo mh mb v11.1 ++ (gA t (mb 0) 71 fn ++ (gA t (mb 1) 71 v11.2.1 ++ (gA t (mb 3) 60 tx ++ (gA t (mb 5) 24 v11.2.2.1 ++ (gA t (mb 6) 24 v11.2.2.2.1 ++ (gA t (mb 7) 24 v11.2.2.2.2.1))))))) H → va_D A (gMo mh mb v11.1 ++ (gA t (mb 0) 71 fn ++ (gA t (mb 1) 71 v11.2.1 ++ (gA t (mb 3) 60 tx ++ (gA t (mb 5) 24 v11.2.2.1 ++ (gA t (mb 6) 24 v11.2.2.2.1 ++ (gA t (mb 7) 24 v11.2.2.2.2.1))))))) → va_S A s.heap H locs → ∀ ls : Array Slot, lv_has ls 5 [(0, .ref mh), (1, .long v11.2.2.2.2.2.1), (3, .int v11.2.2.2.2.2.2)] → W p l e ({ frames := 6, cells := 0, slots := 0, locals := 139 }) s m args below meth c H locs 0 0 (MQ below (qJ D t (gMo mh mb out.2.1 ++ (gA t (mb 0) 71 fn ++ (gA t (mb 1) 71 out.2.2.1 ++ (gA t (mb 3) 60 tx ++ (gA t (mb 5) 24 out.2.2.2.1 ++ (gA t (mb 6) 24 out.2.2.2.2.1 ++ (gA t (mb 7) 24 out.2.2.2.2.2))))))) out.1 A) args s 0 0 A) (F0 m 11 ls []) := by
    intro fu11
    induction fu11 with
    | zero => intro v11 h; cases h
    | succ fu11 ih11 =>
      intro v11 h H locs hP hD hS ls hl
      have h : fX3_digest_l11 fn tx (lp (fX3_digest_l11 fn tx) fu11) v11 = some out := h
      unfold fX3_digest_l11 at h
      refine lv_iload_n hx hb dX3_digest_11 rfl (lv_at hl 2 rfl) ?_
      refine lv_iconst (v := 5) hx hb dX3_digest_12 (by decide) ?_
      refine lv_icmp_ge (tgt := 35) hx hb dX3_digest_13 (by decide) (fun c1 => ?_) (fun c1 => ?_)
      · have h := it_p c1 h
        refine lv_iconst (v := 0) hx hb dX3_digest_35 (by decide) ?_
        refine lv_istore_n (lv' := [(3, .int 0), (0, .ref mh), (1, .long v11.2.2.2.2.2.1)]) hx hb dX3_digest_36 rfl hl (by decide) rfl (fun ls hl => ?_)
        exact J37 2000 (v11.1, v11.2.1, v11.2.2.1, v11.2.2.2.1, v11.2.2.2.2.1, v11.2.2.2.2.2.1, 0) h _ _ hP hD hS _ (lv_sub hl [1, 2, 0] rfl)
      · have h := it_n c1 h
        refine lv_ldc2 (v := 31) hx hb hown (htB _ kw638) dX3_digest_16 ?_
        refine lv_lload_n hx hb dX3_digest_19 rfl (lv_at hl 1 rfl) ?_
        refine lv_lmul hx hb dX3_digest_20 ?_
        refine lv_aload_n hx hb dX3_digest_21 rfl (lv_at hl 0 rfl) ?_
        refine lv_iload_n hx hb dX3_digest_22 rfl (lv_at hl 2 rfl) ?_
        obtain ⟨r2, h2, h⟩ := ob h
        refine call_i (v := r2) (wc := (gMo mh mb v11.1 ++ (gA t (mb 0) 71 fn))) (wc' := (gMo mh mb v11.1 ++ (gA t (mb 0) 71 fn))) (ws' := (gMo mh mb v11.1 ++ (gA t (mb 0) 71 fn ++ (gA t (mb 1) 71 v11.2.1 ++ (gA t (mb 3) 60 tx ++ (gA t (mb 5) 24 v11.2.2.1 ++ (gA t (mb 6) 24 v11.2.2.2.1 ++ (gA t (mb 7) 24 v11.2.2.2.2.1)))))))) (cutB (bs := [gMo mh mb v11.1, gA t (mb 0) 71 fn, gA t (mb 1) 71 v11.2.1, gA t (mb 3) 60 tx, gA t (mb 5) 24 v11.2.2.1, gA t (mb 6) 24 v11.2.2.2.1, gA t (mb 7) 24 v11.2.2.2.2.1]) (cs := [gMo mh mb v11.1, gA t (mb 0) 71 fn]) (cs' := [gMo mh mb v11.1, gA t (mb 0) 71 fn]) (bs' := [gMo mh mb v11.1, gA t (mb 0) 71 fn, gA t (mb 1) 71 v11.2.1, gA t (mb 3) 60 tx, gA t (mb 5) 24 v11.2.2.1, gA t (mb 6) 24 v11.2.2.2.1, gA t (mb 7) 24 v11.2.2.2.2.1]) [0, 1] hP hD hS hA rfl rfl rfl rfl) hS (fun hPc hDc => va_runV (As := [.int v11.2.2.2.2.2.2]) (rest := [.long (31 * v11.2.2.2.2.2.1)]) ⟨hx, hb, hml, hown, hts⟩ (mtX3_counted l D t mh mb v11.1 fn v11.2.2.2.2.2.2 r2 h2 _) (cwV 1 hts (gBV kw507 kw508 kw509 kw5 kw510) rfl rfl rfl (by decide +kernel) ⟨Nat.le_of_ble_eq_true rfl, Nat.le_of_ble_eq_true rfl⟩) (sPc_V hPc hK hDc hE (va_recv hK hP (ci := 3) (q0 := 0) rfl rfl)) rfl rfl hl.1 rfl (lv_room (Nat.le_of_ble_eq_true rfl)) dX3_digest_23 ⟨Nat.zero_le _, Nat.zero_le _⟩) (fun H locs hP hD hS => ?_)
        refine lv_i2l (v := Int32.toInt64 r2) hx hb dX3_digest_26 rfl ?_
        refine lv_ladd hx hb dX3_digest_27 ?_
        refine lv_lstore_n (lv' := [(1, .long ((31 * v11.2.2.2.2.2.1) + (Int32.toInt64 r2))), (0, .ref mh), (3, .int v11.2.2.2.2.2.2)]) hx hb dX3_digest_28 rfl hl (by decide) rfl (fun ls hl => ?_)
        refine lv_iinc (v := v11.2.2.2.2.2.2 + 1) (lv' := [(3, .int (v11.2.2.2.2.2.2 + 1)), (1, .long ((31 * v11.2.2.2.2.2.1) + (Int32.toInt64 r2))), (0, .ref mh)]) hx hb dX3_digest_29 hl (k := 2) rfl rfl (by decide) rfl (fun ls hl => ?_)
        refine lv_goto (tgt := 11) hx hb dX3_digest_32 (by decide) ?_
        exact ih11 (v11.1, v11.2.1, v11.2.2.1, v11.2.2.2.1, v11.2.2.2.2.1, (31 * v11.2.2.2.2.2.1) + (Int32.toInt64 r2), v11.2.2.2.2.2.2 + 1) h _ _ hP hD hS _ (lv_sub hl [2, 1, 0] rfl)
  refine lv_aload_n hx hb dX3_digest_0 rfl (lv_at hl 0 rfl) ?_
  refine lv_iconst (v := 0) hx hb dX3_digest_1 (by decide) ?_
  refine va_put (D := D) (ci := 3) (v := .int 0) (ty := .int) (C := RX3) (T := TX3) (N := 14) hx hb htB inlX3 tyX3 tyX3_ok nmX3 hown hK hP hD hS 0 rfl rfl 6 (by decide) (htB _ kw114) (fun _ h9 => h9) rfl (by decide +kernel) rfl rfl (Nat.le_of_ble_eq_true rfl) dX3_digest_2 (fun H locs hP hD hS => ?_)
  have hP : va_P D vwCl (gMo mh mb (mo.1, mo.2.1, 0, mo.2.2.2.1, mo.2.2.2.2.1, mo.2.2.2.2.2) ++ (gA t (mb 0) 71 fn ++ (gA t (mb 1) 71 ft ++ (gA t (mb 3) 60 tx ++ (gA t (mb 5) 24 le ++ (gA t (mb 6) 24 co ++ (gA t (mb 7) 24 li))))))) H := hP
  have hD : va_D A (gMo mh mb (mo.1, mo.2.1, 0, mo.2.2.2.1, mo.2.2.2.2.1, mo.2.2.2.2.2) ++ (gA t (mb 0) 71 fn ++ (gA t (mb 1) 71 ft ++ (gA t (mb 3) 60 tx ++ (gA t (mb 5) 24 le ++ (gA t (mb 6) 24 co ++ (gA t (mb 7) 24 li))))))) := hD
  refine lv_ldc2 (v := 3191) hx hb hown (htB _ kw637) dX3_digest_5 ?_
  refine lv_lstore_n (lv' := [(1, .long 3191), (0, .ref mh)]) hx hb dX3_digest_8 rfl hl (by decide) rfl (fun ls hl => ?_)
  refine lv_iconst (v := 0) hx hb dX3_digest_9 (by decide) ?_
  refine lv_istore_n (lv' := [(3, .int 0), (1, .long 3191), (0, .ref mh)]) hx hb dX3_digest_10 rfl hl (by decide) rfl (fun ls hl => ?_)
  exact J11 2000 ((mo.1, mo.2.1, 0, mo.2.2.2.1, mo.2.2.2.2.1, mo.2.2.2.2.2), ft, le, co, li, 3191, 0) h _ _ hP hD hS _ (lv_sub hl [2, 1, 0] rfl)
